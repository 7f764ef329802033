theorem dX16_externalOf_0 : decode cX16_externalOf 0 = .ok (.iconst (-1), 1) := by decide +kernel
theorem dX16_externalOf_1 : decode cX16_externalOf 1 = .ok (.istore_n 2, 1) := by decide +kernel
theorem dX16_externalOf_2 : decode cX16_externalOf 2 = .ok (.iconst 0, 1) := by decide +kernel
theorem dX16_externalOf_3 : decode cX16_externalOf 3 = .ok (.istore_n 3, 1) := by decide +kernel
theorem dX16_externalOf_4 : decode cX16_externalOf 4 = .ok (.iload_n 3, 1) := by decide +kernel
theorem dX16_externalOf_5 : decode cX16_externalOf 5 = .ok (.aload_n 0, 1) := by decide +kernel
theorem dX16_externalOf_6 : decode cX16_externalOf 6 = .ok (.getfield 182, 3) := by decide +kernel
theorem dX16_externalOf_9 : decode cX16_externalOf 9 = .ok (.if_icmp .ge 25, 3) := by decide +kernel
theorem dX16_externalOf_12 : decode cX16_externalOf 12 = .ok (.aload_n 0, 1) := by decide +kernel
theorem dX16_externalOf_13 : decode cX16_externalOf 13 = .ok (.getfield 23, 3) := by decide +kernel
theorem dX16_externalOf_16 : decode cX16_externalOf 16 = .ok (.iload_n 3, 1) := by decide +kernel
theorem dX16_externalOf_17 : decode cX16_externalOf 17 = .ok (.iaload, 1) := by decide +kernel
theorem dX16_externalOf_18 : decode cX16_externalOf 18 = .ok (.iload_n 1, 1) := by decide +kernel
theorem dX16_externalOf_19 : decode cX16_externalOf 19 = .ok (.if_icmp .ne 7, 3) := by decide +kernel
theorem dX16_externalOf_22 : decode cX16_externalOf 22 = .ok (.iload_n 3, 1) := by decide +kernel
theorem dX16_externalOf_23 : decode cX16_externalOf 23 = .ok (.goto 4, 3) := by decide +kernel
theorem dX16_externalOf_26 : decode cX16_externalOf 26 = .ok (.iload_n 2, 1) := by decide +kernel
theorem dX16_externalOf_27 : decode cX16_externalOf 27 = .ok (.istore_n 2, 1) := by decide +kernel
theorem dX16_externalOf_28 : decode cX16_externalOf 28 = .ok (.iinc 3 1, 3) := by decide +kernel
theorem dX16_externalOf_31 : decode cX16_externalOf 31 = .ok (.goto (-27), 3) := by decide +kernel
theorem dX16_externalOf_34 : decode cX16_externalOf 34 = .ok (.iload_n 2, 1) := by decide +kernel
theorem dX16_externalOf_35 : decode cX16_externalOf 35 = .ok (.ireturn, 1) := by decide +kernel
theorem dX16_goThroughAll_0 : decode cX16_goThroughAll 0 = .ok (.iconst 0, 1) := by decide +kernel
theorem dX16_goThroughAll_1 : decode cX16_goThroughAll 1 = .ok (.istore_n 2, 1) := by decide +kernel
theorem dX16_goThroughAll_2 : decode cX16_goThroughAll 2 = .ok (.iconst 0, 1) := by decide +kernel
theorem dX16_goThroughAll_3 : decode cX16_goThroughAll 3 = .ok (.istore_n 3, 1) := by decide +kernel
theorem dX16_goThroughAll_4 : decode cX16_goThroughAll 4 = .ok (.iload_n 3, 1) := by decide +kernel
theorem dX16_goThroughAll_5 : decode cX16_goThroughAll 5 = .ok (.aload_n 0, 1) := by decide +kernel
theorem dX16_goThroughAll_6 : decode cX16_goThroughAll 6 = .ok (.getfield 16, 3) := by decide +kernel
theorem dX16_goThroughAll_9 : decode cX16_goThroughAll 9 = .ok (.invokevirtual 76, 3) := by decide +kernel
theorem dX16_goThroughAll_12 : decode cX16_goThroughAll 12 = .ok (.if_icmp .ge 185, 3) := by decide +kernel
theorem dX16_goThroughAll_15 : decode cX16_goThroughAll 15 = .ok (.aload_n 0, 1) := by decide +kernel
theorem dX16_goThroughAll_16 : decode cX16_goThroughAll 16 = .ok (.getfield 16, 3) := by decide +kernel
theorem dX16_goThroughAll_19 : decode cX16_goThroughAll 19 = .ok (.iload_n 3, 1) := by decide +kernel
theorem dX16_goThroughAll_20 : decode cX16_goThroughAll 20 = .ok (.invokevirtual 134, 3) := by decide +kernel
theorem dX16_goThroughAll_23 : decode cX16_goThroughAll 23 = .ok (.checkcast 98, 3) := by decide +kernel
theorem dX16_goThroughAll_26 : decode cX16_goThroughAll 26 = .ok (.astore 4, 2) := by decide +kernel
theorem dX16_goThroughAll_28 : decode cX16_goThroughAll 28 = .ok (.aload_n 1, 1) := by decide +kernel
theorem dX16_goThroughAll_29 : decode cX16_goThroughAll 29 = .ok (.getstatic 247, 3) := by decide +kernel
theorem dX16_goThroughAll_32 : decode cX16_goThroughAll 32 = .ok (.if_acmp .eq 45, 3) := by decide +kernel
theorem dX16_goThroughAll_35 : decode cX16_goThroughAll 35 = .ok (.aload_n 1, 1) := by decide +kernel
theorem dX16_goThroughAll_36 : decode cX16_goThroughAll 36 = .ok (.getstatic 233, 3) := by decide +kernel
theorem dX16_goThroughAll_39 : decode cX16_goThroughAll 39 = .ok (.if_acmp .ne 28, 3) := by decide +kernel
theorem dX16_goThroughAll_42 : decode cX16_goThroughAll 42 = .ok (.aload 4, 2) := by decide +kernel
theorem dX16_goThroughAll_44 : decode cX16_goThroughAll 44 = .ok (.getfield 138, 3) := by decide +kernel
theorem dX16_goThroughAll_47 : decode cX16_goThroughAll 47 = .ok (.bipush 100, 2) := by decide +kernel
theorem dX16_goThroughAll_49 : decode cX16_goThroughAll 49 = .ok (.if_icmp .ne 32, 3) := by decide +kernel
theorem dX16_goThroughAll_52 : decode cX16_goThroughAll 52 = .ok (.aload 4, 2) := by decide +kernel
theorem dX16_goThroughAll_54 : decode cX16_goThroughAll 54 = .ok (.getfield 142, 3) := by decide +kernel
theorem dX16_goThroughAll_57 : decode cX16_goThroughAll 57 = .ok (.invokevirtual 76, 3) := by decide +kernel
theorem dX16_goThroughAll_60 : decode cX16_goThroughAll 60 = .ok (.iconst 1, 1) := by decide +kernel
theorem dX16_goThroughAll_61 : decode cX16_goThroughAll 61 = .ok (.if_icmp .ne 20, 3) := by decide +kernel
theorem dX16_goThroughAll_64 : decode cX16_goThroughAll 64 = .ok (.goto 13, 3) := by decide +kernel
theorem dX16_goThroughAll_67 : decode cX16_goThroughAll 67 = .ok (.aload 4, 2) := by decide +kernel
theorem dX16_goThroughAll_69 : decode cX16_goThroughAll 69 = .ok (.getfield 138, 3) := by decide +kernel
theorem dX16_goThroughAll_72 : decode cX16_goThroughAll 72 = .ok (.bipush 119, 2) := by decide +kernel
theorem dX16_goThroughAll_74 : decode cX16_goThroughAll 74 = .ok (.if_icmp .eq 7, 3) := by decide +kernel
theorem dX16_goThroughAll_77 : decode cX16_goThroughAll 77 = .ok (.iconst 1, 1) := by decide +kernel
theorem dX16_goThroughAll_78 : decode cX16_goThroughAll 78 = .ok (.goto 4, 3) := by decide +kernel
theorem dX16_goThroughAll_81 : decode cX16_goThroughAll 81 = .ok (.iconst 0, 1) := by decide +kernel
theorem dX16_goThroughAll_82 : decode cX16_goThroughAll 82 = .ok (.istore 5, 2) := by decide +kernel
theorem dX16_goThroughAll_84 : decode cX16_goThroughAll 84 = .ok (.iload 5, 2) := by decide +kernel
theorem dX16_goThroughAll_86 : decode cX16_goThroughAll 86 = .ok (.ifCond .eq 31, 3) := by decide +kernel
theorem dX16_goThroughAll_89 : decode cX16_goThroughAll 89 = .ok (.aload 4, 2) := by decide +kernel
theorem dX16_goThroughAll_91 : decode cX16_goThroughAll 91 = .ok (.getfield 254, 3) := by decide +kernel
theorem dX16_goThroughAll_94 : decode cX16_goThroughAll 94 = .ok (.ifCond .ne 23, 3) := by decide +kernel
theorem dX16_goThroughAll_97 : decode cX16_goThroughAll 97 = .ok (.aload_n 0, 1) := by decide +kernel
theorem dX16_goThroughAll_98 : decode cX16_goThroughAll 98 = .ok (.iload_n 3, 1) := by decide +kernel
theorem dX16_goThroughAll_99 : decode cX16_goThroughAll 99 = .ok (.iconst 0, 1) := by decide +kernel
theorem dX16_goThroughAll_100 : decode cX16_goThroughAll 100 = .ok (.aload_n 1, 1) := by decide +kernel
theorem dX16_goThroughAll_101 : decode cX16_goThroughAll 101 = .ok (.invokevirtual 257, 3) := by decide +kernel
theorem dX16_goThroughAll_104 : decode cX16_goThroughAll 104 = .ok (.ifCond .ne 7, 3) := by decide +kernel
theorem dX16_goThroughAll_107 : decode cX16_goThroughAll 107 = .ok (.iload_n 2, 1) := by decide +kernel
theorem dX16_goThroughAll_108 : decode cX16_goThroughAll 108 = .ok (.ifCond .eq 7, 3) := by decide +kernel
theorem dX16_goThroughAll_111 : decode cX16_goThroughAll 111 = .ok (.iconst 1, 1) := by decide +kernel
theorem dX16_goThroughAll_112 : decode cX16_goThroughAll 112 = .ok (.goto 4, 3) := by decide +kernel
theorem dX16_goThroughAll_115 : decode cX16_goThroughAll 115 = .ok (.iconst 0, 1) := by decide +kernel
theorem dX16_goThroughAll_116 : decode cX16_goThroughAll 116 = .ok (.istore_n 2, 1) := by decide +kernel
theorem dX16_goThroughAll_117 : decode cX16_goThroughAll 117 = .ok (.aload_n 0, 1) := by decide +kernel
theorem dX16_goThroughAll_118 : decode cX16_goThroughAll 118 = .ok (.getfield 20, 3) := by decide +kernel
theorem dX16_goThroughAll_121 : decode cX16_goThroughAll 121 = .ok (.invokevirtual 167, 3) := by decide +kernel
theorem dX16_goThroughAll_124 : decode cX16_goThroughAll 124 = .ok (.astore 6, 2) := by decide +kernel
theorem dX16_goThroughAll_126 : decode cX16_goThroughAll 126 = .ok (.aload 6, 2) := by decide +kernel
theorem dX16_goThroughAll_128 : decode cX16_goThroughAll 128 = .ok (.invokeinterface 171 1, 5) := by decide +kernel
theorem dX16_goThroughAll_133 : decode cX16_goThroughAll 133 = .ok (.ifCond .eq 58, 3) := by decide +kernel
theorem dX16_goThroughAll_136 : decode cX16_goThroughAll 136 = .ok (.aload 6, 2) := by decide +kernel
theorem dX16_goThroughAll_138 : decode cX16_goThroughAll 138 = .ok (.invokeinterface 177 1, 5) := by decide +kernel
theorem dX16_goThroughAll_143 : decode cX16_goThroughAll 143 = .ok (.checkcast 181, 3) := by decide +kernel
theorem dX16_goThroughAll_146 : decode cX16_goThroughAll 146 = .ok (.astore 7, 2) := by decide +kernel
theorem dX16_goThroughAll_148 : decode cX16_goThroughAll 148 = .ok (.iload 5, 2) := by decide +kernel
theorem dX16_goThroughAll_150 : decode cX16_goThroughAll 150 = .ok (.ifCond .eq 38, 3) := by decide +kernel
theorem dX16_goThroughAll_153 : decode cX16_goThroughAll 153 = .ok (.aload 4, 2) := by decide +kernel
theorem dX16_goThroughAll_155 : decode cX16_goThroughAll 155 = .ok (.getfield 254, 3) := by decide +kernel
theorem dX16_goThroughAll_158 : decode cX16_goThroughAll 158 = .ok (.aload 7, 2) := by decide +kernel
theorem dX16_goThroughAll_160 : decode cX16_goThroughAll 160 = .ok (.iconst 0, 1) := by decide +kernel
theorem dX16_goThroughAll_161 : decode cX16_goThroughAll 161 = .ok (.iaload, 1) := by decide +kernel
theorem dX16_goThroughAll_162 : decode cX16_goThroughAll 162 = .ok (.if_icmp .ne 26, 3) := by decide +kernel
theorem dX16_goThroughAll_165 : decode cX16_goThroughAll 165 = .ok (.aload_n 0, 1) := by decide +kernel
theorem dX16_goThroughAll_166 : decode cX16_goThroughAll 166 = .ok (.iload_n 3, 1) := by decide +kernel
theorem dX16_goThroughAll_167 : decode cX16_goThroughAll 167 = .ok (.aload 7, 2) := by decide +kernel
theorem dX16_goThroughAll_169 : decode cX16_goThroughAll 169 = .ok (.iconst 1, 1) := by decide +kernel
theorem dX16_goThroughAll_170 : decode cX16_goThroughAll 170 = .ok (.iaload, 1) := by decide +kernel
theorem dX16_goThroughAll_171 : decode cX16_goThroughAll 171 = .ok (.aload_n 1, 1) := by decide +kernel
theorem dX16_goThroughAll_172 : decode cX16_goThroughAll 172 = .ok (.invokevirtual 257, 3) := by decide +kernel
theorem dX16_goThroughAll_175 : decode cX16_goThroughAll 175 = .ok (.ifCond .ne 7, 3) := by decide +kernel
theorem dX16_goThroughAll_178 : decode cX16_goThroughAll 178 = .ok (.iload_n 2, 1) := by decide +kernel
theorem dX16_goThroughAll_179 : decode cX16_goThroughAll 179 = .ok (.ifCond .eq 7, 3) := by decide +kernel
theorem dX16_goThroughAll_182 : decode cX16_goThroughAll 182 = .ok (.iconst 1, 1) := by decide +kernel
theorem dX16_goThroughAll_183 : decode cX16_goThroughAll 183 = .ok (.goto 4, 3) := by decide +kernel
theorem dX16_goThroughAll_186 : decode cX16_goThroughAll 186 = .ok (.iconst 0, 1) := by decide +kernel
theorem dX16_goThroughAll_187 : decode cX16_goThroughAll 187 = .ok (.istore_n 2, 1) := by decide +kernel
theorem dX16_goThroughAll_188 : decode cX16_goThroughAll 188 = .ok (.goto (-62), 3) := by decide +kernel
theorem dX16_goThroughAll_191 : decode cX16_goThroughAll 191 = .ok (.iinc 3 1, 3) := by decide +kernel
theorem dX16_goThroughAll_194 : decode cX16_goThroughAll 194 = .ok (.goto (-190), 3) := by decide +kernel
theorem dX16_goThroughAll_197 : decode cX16_goThroughAll 197 = .ok (.iload_n 2, 1) := by decide +kernel
theorem dX16_goThroughAll_198 : decode cX16_goThroughAll 198 = .ok (.ireturn, 1) := by decide +kernel
theorem dX16_groundAll_0 : decode cX16_groundAll 0 = .ok (.aload_n 0, 1) := by decide +kernel
theorem dX16_groundAll_1 : decode cX16_groundAll 1 = .ok (.getfield 80, 3) := by decide +kernel
theorem dX16_groundAll_4 : decode cX16_groundAll 4 = .ok (.ifCond .eq 4, 3) := by decide +kernel
theorem dX16_groundAll_7 : decode cX16_groundAll 7 = .ok (.return_, 1) := by decide +kernel
theorem dX16_groundAll_8 : decode cX16_groundAll 8 = .ok (.aload_n 0, 1) := by decide +kernel
theorem dX16_groundAll_9 : decode cX16_groundAll 9 = .ok (.iconst 1, 1) := by decide +kernel
theorem dX16_groundAll_10 : decode cX16_groundAll 10 = .ok (.putfield 80, 3) := by decide +kernel
theorem dX16_groundAll_13 : decode cX16_groundAll 13 = .ok (.aload_n 0, 1) := by decide +kernel
theorem dX16_groundAll_14 : decode cX16_groundAll 14 = .ok (.getfield 43, 3) := by decide +kernel
theorem dX16_groundAll_17 : decode cX16_groundAll 17 = .ok (.invokevirtual 293, 3) := by decide +kernel
theorem dX16_groundAll_20 : decode cX16_groundAll 20 = .ok (.aload_n 0, 1) := by decide +kernel
theorem dX16_groundAll_21 : decode cX16_groundAll 21 = .ok (.iconst 0, 1) := by decide +kernel
theorem dX16_groundAll_22 : decode cX16_groundAll 22 = .ok (.putfield 296, 3) := by decide +kernel
theorem dX16_groundAll_25 : decode cX16_groundAll 25 = .ok (.aload_n 0, 1) := by decide +kernel
theorem dX16_groundAll_26 : decode cX16_groundAll 26 = .ok (.iconst 0, 1) := by decide +kernel
theorem dX16_groundAll_27 : decode cX16_groundAll 27 = .ok (.putfield 261, 3) := by decide +kernel
theorem dX16_groundAll_30 : decode cX16_groundAll 30 = .ok (.iconst 0, 1) := by decide +kernel
theorem dX16_groundAll_31 : decode cX16_groundAll 31 = .ok (.istore_n 1, 1) := by decide +kernel
theorem dX16_groundAll_32 : decode cX16_groundAll 32 = .ok (.iload_n 1, 1) := by decide +kernel
theorem dX16_groundAll_33 : decode cX16_groundAll 33 = .ok (.sipush 384, 3) := by decide +kernel
theorem dX16_groundAll_36 : decode cX16_groundAll 36 = .ok (.if_icmp .ge 80, 3) := by decide +kernel
theorem dX16_groundAll_39 : decode cX16_groundAll 39 = .ok (.aload_n 0, 1) := by decide +kernel
theorem dX16_groundAll_40 : decode cX16_groundAll 40 = .ok (.iload_n 1, 1) := by decide +kernel
theorem dX16_groundAll_41 : decode cX16_groundAll 41 = .ok (.invokevirtual 192, 3) := by decide +kernel
theorem dX16_groundAll_44 : decode cX16_groundAll 44 = .ok (.istore_n 2, 1) := by decide +kernel
theorem dX16_groundAll_45 : decode cX16_groundAll 45 = .ok (.aload_n 0, 1) := by decide +kernel
theorem dX16_groundAll_46 : decode cX16_groundAll 46 = .ok (.getfield 33, 3) := by decide +kernel
theorem dX16_groundAll_49 : decode cX16_groundAll 49 = .ok (.iload_n 1, 1) := by decide +kernel
theorem dX16_groundAll_50 : decode cX16_groundAll 50 = .ok (.iload_n 2, 1) := by decide +kernel
theorem dX16_groundAll_51 : decode cX16_groundAll 51 = .ok (.iconst (-1), 1) := by decide +kernel
theorem dX16_groundAll_52 : decode cX16_groundAll 52 = .ok (.if_icmp .eq 18, 3) := by decide +kernel
theorem dX16_groundAll_55 : decode cX16_groundAll 55 = .ok (.aload_n 0, 1) := by decide +kernel
theorem dX16_groundAll_56 : decode cX16_groundAll 56 = .ok (.getfield 26, 3) := by decide +kernel
theorem dX16_groundAll_59 : decode cX16_groundAll 59 = .ok (.iload_n 2, 1) := by decide +kernel
theorem dX16_groundAll_60 : decode cX16_groundAll 60 = .ok (.caload, 1) := by decide +kernel
theorem dX16_groundAll_61 : decode cX16_groundAll 61 = .ok (.bipush 116, 2) := by decide +kernel
theorem dX16_groundAll_63 : decode cX16_groundAll 63 = .ok (.if_icmp .ne 7, 3) := by decide +kernel
theorem dX16_groundAll_66 : decode cX16_groundAll 66 = .ok (.iconst 1, 1) := by decide +kernel
theorem dX16_groundAll_67 : decode cX16_groundAll 67 = .ok (.goto 4, 3) := by decide +kernel
theorem dX16_groundAll_70 : decode cX16_groundAll 70 = .ok (.iconst 0, 1) := by decide +kernel
theorem dX16_groundAll_71 : decode cX16_groundAll 71 = .ok (.bastore, 1) := by decide +kernel
theorem dX16_groundAll_72 : decode cX16_groundAll 72 = .ok (.aload_n 0, 1) := by decide +kernel
theorem dX16_groundAll_73 : decode cX16_groundAll 73 = .ok (.getfield 37, 3) := by decide +kernel
theorem dX16_groundAll_76 : decode cX16_groundAll 76 = .ok (.iload_n 1, 1) := by decide +kernel
theorem dX16_groundAll_77 : decode cX16_groundAll 77 = .ok (.iload_n 2, 1) := by decide +kernel
theorem dX16_groundAll_78 : decode cX16_groundAll 78 = .ok (.iconst (-1), 1) := by decide +kernel
theorem dX16_groundAll_79 : decode cX16_groundAll 79 = .ok (.if_icmp .eq 29, 3) := by decide +kernel
theorem dX16_groundAll_82 : decode cX16_groundAll 82 = .ok (.aload_n 0, 1) := by decide +kernel
theorem dX16_groundAll_83 : decode cX16_groundAll 83 = .ok (.getfield 26, 3) := by decide +kernel
theorem dX16_groundAll_86 : decode cX16_groundAll 86 = .ok (.iload_n 2, 1) := by decide +kernel
theorem dX16_groundAll_87 : decode cX16_groundAll 87 = .ok (.caload, 1) := by decide +kernel
theorem dX16_groundAll_88 : decode cX16_groundAll 88 = .ok (.bipush 116, 2) := by decide +kernel
theorem dX16_groundAll_90 : decode cX16_groundAll 90 = .ok (.if_icmp .eq 14, 3) := by decide +kernel
theorem dX16_groundAll_93 : decode cX16_groundAll 93 = .ok (.aload_n 0, 1) := by decide +kernel
theorem dX16_groundAll_94 : decode cX16_groundAll 94 = .ok (.getfield 26, 3) := by decide +kernel
theorem dX16_groundAll_97 : decode cX16_groundAll 97 = .ok (.iload_n 2, 1) := by decide +kernel
theorem dX16_groundAll_98 : decode cX16_groundAll 98 = .ok (.caload, 1) := by decide +kernel
theorem dX16_groundAll_99 : decode cX16_groundAll 99 = .ok (.bipush 117, 2) := by decide +kernel
theorem dX16_groundAll_101 : decode cX16_groundAll 101 = .ok (.if_icmp .ne 7, 3) := by decide +kernel
theorem dX16_groundAll_104 : decode cX16_groundAll 104 = .ok (.iconst 1, 1) := by decide +kernel
theorem dX16_groundAll_105 : decode cX16_groundAll 105 = .ok (.goto 4, 3) := by decide +kernel
theorem dX16_groundAll_108 : decode cX16_groundAll 108 = .ok (.iconst 0, 1) := by decide +kernel
theorem dX16_groundAll_109 : decode cX16_groundAll 109 = .ok (.bastore, 1) := by decide +kernel
theorem dX16_groundAll_110 : decode cX16_groundAll 110 = .ok (.iinc 1 1, 3) := by decide +kernel
theorem dX16_groundAll_113 : decode cX16_groundAll 113 = .ok (.goto (-81), 3) := by decide +kernel
theorem dX16_groundAll_116 : decode cX16_groundAll 116 = .ok (.iconst 0, 1) := by decide +kernel
theorem dX16_groundAll_117 : decode cX16_groundAll 117 = .ok (.istore_n 1, 1) := by decide +kernel
theorem dX16_groundAll_118 : decode cX16_groundAll 118 = .ok (.iload_n 1, 1) := by decide +kernel
theorem dX16_groundAll_119 : decode cX16_groundAll 119 = .ok (.bipush 20, 2) := by decide +kernel
theorem dX16_groundAll_121 : decode cX16_groundAll 121 = .ok (.if_icmp .ge 16, 3) := by decide +kernel
theorem dX16_groundAll_124 : decode cX16_groundAll 124 = .ok (.aload_n 0, 1) := by decide +kernel
theorem dX16_groundAll_125 : decode cX16_groundAll 125 = .ok (.getfield 40, 3) := by decide +kernel
theorem dX16_groundAll_128 : decode cX16_groundAll 128 = .ok (.iload_n 1, 1) := by decide +kernel
theorem dX16_groundAll_129 : decode cX16_groundAll 129 = .ok (.iconst 0, 1) := by decide +kernel
theorem dX16_groundAll_130 : decode cX16_groundAll 130 = .ok (.iastore, 1) := by decide +kernel
theorem dX16_groundAll_131 : decode cX16_groundAll 131 = .ok (.iinc 1 1, 3) := by decide +kernel
theorem dX16_groundAll_134 : decode cX16_groundAll 134 = .ok (.goto (-16), 3) := by decide +kernel
theorem dX16_groundAll_137 : decode cX16_groundAll 137 = .ok (.iconst 1, 1) := by decide +kernel
theorem dX16_groundAll_138 : decode cX16_groundAll 138 = .ok (.istore_n 1, 1) := by decide +kernel
theorem dX16_groundAll_139 : decode cX16_groundAll 139 = .ok (.iload_n 1, 1) := by decide +kernel
theorem dX16_groundAll_140 : decode cX16_groundAll 140 = .ok (.ifCond .eq 14, 3) := by decide +kernel
theorem dX16_groundAll_143 : decode cX16_groundAll 143 = .ok (.aload_n 0, 1) := by decide +kernel
theorem dX16_groundAll_144 : decode cX16_groundAll 144 = .ok (.getstatic 233, 3) := by decide +kernel
theorem dX16_groundAll_147 : decode cX16_groundAll 147 = .ok (.invokevirtual 299, 3) := by decide +kernel
theorem dX16_groundAll_150 : decode cX16_groundAll 150 = .ok (.istore_n 1, 1) := by decide +kernel
theorem dX16_groundAll_151 : decode cX16_groundAll 151 = .ok (.goto (-12), 3) := by decide +kernel
theorem dX16_groundAll_154 : decode cX16_groundAll 154 = .ok (.iconst 1, 1) := by decide +kernel
theorem dX16_groundAll_155 : decode cX16_groundAll 155 = .ok (.istore_n 1, 1) := by decide +kernel
theorem dX16_groundAll_156 : decode cX16_groundAll 156 = .ok (.iload_n 1, 1) := by decide +kernel
theorem dX16_groundAll_157 : decode cX16_groundAll 157 = .ok (.ifCond .eq 14, 3) := by decide +kernel
theorem dX16_groundAll_160 : decode cX16_groundAll 160 = .ok (.aload_n 0, 1) := by decide +kernel
theorem dX16_groundAll_161 : decode cX16_groundAll 161 = .ok (.getstatic 303, 3) := by decide +kernel
theorem dX16_groundAll_164 : decode cX16_groundAll 164 = .ok (.invokevirtual 299, 3) := by decide +kernel
theorem dX16_groundAll_167 : decode cX16_groundAll 167 = .ok (.istore_n 1, 1) := by decide +kernel
theorem dX16_groundAll_168 : decode cX16_groundAll 168 = .ok (.goto (-12), 3) := by decide +kernel
theorem dX16_groundAll_171 : decode cX16_groundAll 171 = .ok (.iconst 0, 1) := by decide +kernel
theorem dX16_groundAll_172 : decode cX16_groundAll 172 = .ok (.istore_n 2, 1) := by decide +kernel
theorem dX16_groundAll_173 : decode cX16_groundAll 173 = .ok (.iload_n 2, 1) := by decide +kernel
theorem dX16_groundAll_174 : decode cX16_groundAll 174 = .ok (.sipush 384, 3) := by decide +kernel
theorem dX16_groundAll_177 : decode cX16_groundAll 177 = .ok (.if_icmp .ge 64, 3) := by decide +kernel
theorem dX16_groundAll_180 : decode cX16_groundAll 180 = .ok (.aload_n 0, 1) := by decide +kernel
theorem dX16_groundAll_181 : decode cX16_groundAll 181 = .ok (.getfield 49, 3) := by decide +kernel
theorem dX16_groundAll_184 : decode cX16_groundAll 184 = .ok (.iload_n 2, 1) := by decide +kernel
theorem dX16_groundAll_185 : decode cX16_groundAll 185 = .ok (.iconst (-1), 1) := by decide +kernel
theorem dX16_groundAll_186 : decode cX16_groundAll 186 = .ok (.iastore, 1) := by decide +kernel
theorem dX16_groundAll_187 : decode cX16_groundAll 187 = .ok (.aload_n 0, 1) := by decide +kernel
theorem dX16_groundAll_188 : decode cX16_groundAll 188 = .ok (.getfield 37, 3) := by decide +kernel
theorem dX16_groundAll_191 : decode cX16_groundAll 191 = .ok (.iload_n 2, 1) := by decide +kernel
theorem dX16_groundAll_192 : decode cX16_groundAll 192 = .ok (.baload, 1) := by decide +kernel
theorem dX16_groundAll_193 : decode cX16_groundAll 193 = .ok (.ifCond .eq 42, 3) := by decide +kernel
theorem dX16_groundAll_196 : decode cX16_groundAll 196 = .ok (.aload_n 0, 1) := by decide +kernel
theorem dX16_groundAll_197 : decode cX16_groundAll 197 = .ok (.getfield 33, 3) := by decide +kernel
theorem dX16_groundAll_200 : decode cX16_groundAll 200 = .ok (.iload_n 2, 1) := by decide +kernel
theorem dX16_groundAll_201 : decode cX16_groundAll 201 = .ok (.baload, 1) := by decide +kernel
theorem dX16_groundAll_202 : decode cX16_groundAll 202 = .ok (.ifCond .ne 33, 3) := by decide +kernel
theorem dX16_groundAll_205 : decode cX16_groundAll 205 = .ok (.aload_n 0, 1) := by decide +kernel
theorem dX16_groundAll_206 : decode cX16_groundAll 206 = .ok (.getfield 49, 3) := by decide +kernel
theorem dX16_groundAll_209 : decode cX16_groundAll 209 = .ok (.iload_n 2, 1) := by decide +kernel
theorem dX16_groundAll_210 : decode cX16_groundAll 210 = .ok (.aload_n 0, 1) := by decide +kernel
theorem dX16_groundAll_211 : decode cX16_groundAll 211 = .ok (.getfield 296, 3) := by decide +kernel
theorem dX16_groundAll_214 : decode cX16_groundAll 214 = .ok (.iastore, 1) := by decide +kernel
theorem dX16_groundAll_215 : decode cX16_groundAll 215 = .ok (.aload_n 0, 1) := by decide +kernel
theorem dX16_groundAll_216 : decode cX16_groundAll 216 = .ok (.getfield 46, 3) := by decide +kernel
theorem dX16_groundAll_219 : decode cX16_groundAll 219 = .ok (.aload_n 0, 1) := by decide +kernel
theorem dX16_groundAll_220 : decode cX16_groundAll 220 = .ok (.getfield 296, 3) := by decide +kernel
theorem dX16_groundAll_223 : decode cX16_groundAll 223 = .ok (.iload_n 2, 1) := by decide +kernel
theorem dX16_groundAll_224 : decode cX16_groundAll 224 = .ok (.iastore, 1) := by decide +kernel
theorem dX16_groundAll_225 : decode cX16_groundAll 225 = .ok (.aload_n 0, 1) := by decide +kernel
theorem dX16_groundAll_226 : decode cX16_groundAll 226 = .ok (.dup, 1) := by decide +kernel
theorem dX16_groundAll_227 : decode cX16_groundAll 227 = .ok (.getfield 296, 3) := by decide +kernel
theorem dX16_groundAll_230 : decode cX16_groundAll 230 = .ok (.iconst 1, 1) := by decide +kernel
theorem dX16_groundAll_231 : decode cX16_groundAll 231 = .ok (.iadd, 1) := by decide +kernel
theorem dX16_groundAll_232 : decode cX16_groundAll 232 = .ok (.putfield 296, 3) := by decide +kernel
theorem dX16_groundAll_235 : decode cX16_groundAll 235 = .ok (.iinc 2 1, 3) := by decide +kernel
theorem dX16_groundAll_238 : decode cX16_groundAll 238 = .ok (.goto (-65), 3) := by decide +kernel
theorem dX16_groundAll_241 : decode cX16_groundAll 241 = .ok (.aload_n 0, 1) := by decide +kernel
theorem dX16_groundAll_242 : decode cX16_groundAll 242 = .ok (.getstatic 247, 3) := by decide +kernel
theorem dX16_groundAll_245 : decode cX16_groundAll 245 = .ok (.invokevirtual 299, 3) := by decide +kernel
theorem dX16_groundAll_248 : decode cX16_groundAll 248 = .ok (.pop, 1) := by decide +kernel
theorem dX16_groundAll_249 : decode cX16_groundAll 249 = .ok (.return_, 1) := by decide +kernel
theorem dX16_open_0 : decode cX16_open 0 = .ok (.aload_n 0, 1) := by decide +kernel
theorem dX16_open_1 : decode cX16_open 1 = .ok (.iconst 0, 1) := by decide +kernel
theorem dX16_open_2 : decode cX16_open 2 = .ok (.putfield 65, 3) := by decide +kernel
theorem dX16_open_5 : decode cX16_open 5 = .ok (.aload_n 0, 1) := by decide +kernel
theorem dX16_open_6 : decode cX16_open 6 = .ok (.invokevirtual 306, 3) := by decide +kernel
theorem dX16_open_9 : decode cX16_open 9 = .ok (.aload_n 0, 1) := by decide +kernel
theorem dX16_open_10 : decode cX16_open 10 = .ok (.getfield 296, 3) := by decide +kernel
theorem dX16_open_13 : decode cX16_open 13 = .ok (.ireturn, 1) := by decide +kernel
theorem dX16_findLeads_0 : decode cX16_findLeads 0 = .ok (.aload_n 0, 1) := by decide +kernel
theorem dX16_findLeads_1 : decode cX16_findLeads 1 = .ok (.getfield 296, 3) := by decide +kernel
theorem dX16_findLeads_4 : decode cX16_findLeads 4 = .ok (.istore_n 1, 1) := by decide +kernel
theorem dX16_findLeads_5 : decode cX16_findLeads 5 = .ok (.iconst 0, 1) := by decide +kernel
theorem dX16_findLeads_6 : decode cX16_findLeads 6 = .ok (.istore_n 2, 1) := by decide +kernel
theorem dX16_findLeads_7 : decode cX16_findLeads 7 = .ok (.iload_n 2, 1) := by decide +kernel
theorem dX16_findLeads_8 : decode cX16_findLeads 8 = .ok (.iload_n 1, 1) := by decide +kernel
theorem dX16_findLeads_9 : decode cX16_findLeads 9 = .ok (.iload_n 1, 1) := by decide +kernel
theorem dX16_findLeads_10 : decode cX16_findLeads 10 = .ok (.imul, 1) := by decide +kernel
theorem dX16_findLeads_11 : decode cX16_findLeads 11 = .ok (.if_icmp .ge 16, 3) := by decide +kernel
theorem dX16_findLeads_14 : decode cX16_findLeads 14 = .ok (.aload_n 0, 1) := by decide +kernel
theorem dX16_findLeads_15 : decode cX16_findLeads 15 = .ok (.getfield 56, 3) := by decide +kernel
theorem dX16_findLeads_18 : decode cX16_findLeads 18 = .ok (.iload_n 2, 1) := by decide +kernel
theorem dX16_findLeads_19 : decode cX16_findLeads 19 = .ok (.iconst 0, 1) := by decide +kernel
theorem dX16_findLeads_20 : decode cX16_findLeads 20 = .ok (.bastore, 1) := by decide +kernel
theorem dX16_findLeads_21 : decode cX16_findLeads 21 = .ok (.iinc 2 1, 3) := by decide +kernel
theorem dX16_findLeads_24 : decode cX16_findLeads 24 = .ok (.goto (-17), 3) := by decide +kernel
theorem dX16_findLeads_27 : decode cX16_findLeads 27 = .ok (.aload_n 0, 1) := by decide +kernel
theorem dX16_findLeads_28 : decode cX16_findLeads 28 = .ok (.getfield 43, 3) := by decide +kernel
theorem dX16_findLeads_31 : decode cX16_findLeads 31 = .ok (.invokevirtual 167, 3) := by decide +kernel
theorem dX16_findLeads_34 : decode cX16_findLeads 34 = .ok (.astore_n 2, 1) := by decide +kernel
theorem dX16_findLeads_35 : decode cX16_findLeads 35 = .ok (.aload_n 2, 1) := by decide +kernel
theorem dX16_findLeads_36 : decode cX16_findLeads 36 = .ok (.invokeinterface 171 1, 5) := by decide +kernel
theorem dX16_findLeads_41 : decode cX16_findLeads 41 = .ok (.ifCond .eq 133, 3) := by decide +kernel
theorem dX16_findLeads_44 : decode cX16_findLeads 44 = .ok (.aload_n 2, 1) := by decide +kernel
theorem dX16_findLeads_45 : decode cX16_findLeads 45 = .ok (.invokeinterface 177 1, 5) := by decide +kernel
theorem dX16_findLeads_50 : decode cX16_findLeads 50 = .ok (.checkcast 264, 3) := by decide +kernel
theorem dX16_findLeads_53 : decode cX16_findLeads 53 = .ok (.astore_n 3, 1) := by decide +kernel
theorem dX16_findLeads_54 : decode cX16_findLeads 54 = .ok (.aload_n 3, 1) := by decide +kernel
theorem dX16_findLeads_55 : decode cX16_findLeads 55 = .ok (.getfield 270, 3) := by decide +kernel
theorem dX16_findLeads_58 : decode cX16_findLeads 58 = .ok (.astore 4, 2) := by decide +kernel
theorem dX16_findLeads_60 : decode cX16_findLeads 60 = .ok (.aload 4, 2) := by decide +kernel
theorem dX16_findLeads_62 : decode cX16_findLeads 62 = .ok (.arraylength, 1) := by decide +kernel
theorem dX16_findLeads_63 : decode cX16_findLeads 63 = .ok (.istore 5, 2) := by decide +kernel
theorem dX16_findLeads_65 : decode cX16_findLeads 65 = .ok (.iconst 0, 1) := by decide +kernel
theorem dX16_findLeads_66 : decode cX16_findLeads 66 = .ok (.istore 6, 2) := by decide +kernel
theorem dX16_findLeads_68 : decode cX16_findLeads 68 = .ok (.iload 6, 2) := by decide +kernel
theorem dX16_findLeads_70 : decode cX16_findLeads 70 = .ok (.iload 5, 2) := by decide +kernel
theorem dX16_findLeads_72 : decode cX16_findLeads 72 = .ok (.if_icmp .ge 99, 3) := by decide +kernel
theorem dX16_findLeads_75 : decode cX16_findLeads 75 = .ok (.aload 4, 2) := by decide +kernel
theorem dX16_findLeads_77 : decode cX16_findLeads 77 = .ok (.iload 6, 2) := by decide +kernel
theorem dX16_findLeads_79 : decode cX16_findLeads 79 = .ok (.iaload, 1) := by decide +kernel
theorem dX16_findLeads_80 : decode cX16_findLeads 80 = .ok (.istore 7, 2) := by decide +kernel
theorem dX16_findLeads_82 : decode cX16_findLeads 82 = .ok (.aload_n 3, 1) := by decide +kernel
theorem dX16_findLeads_83 : decode cX16_findLeads 83 = .ok (.getfield 277, 3) := by decide +kernel
theorem dX16_findLeads_86 : decode cX16_findLeads 86 = .ok (.astore 8, 2) := by decide +kernel
theorem dX16_findLeads_88 : decode cX16_findLeads 88 = .ok (.aload 8, 2) := by decide +kernel
theorem dX16_findLeads_90 : decode cX16_findLeads 90 = .ok (.arraylength, 1) := by decide +kernel
theorem dX16_findLeads_91 : decode cX16_findLeads 91 = .ok (.istore 9, 2) := by decide +kernel
theorem dX16_findLeads_93 : decode cX16_findLeads 93 = .ok (.iconst 0, 1) := by decide +kernel
theorem dX16_findLeads_94 : decode cX16_findLeads 94 = .ok (.istore 10, 2) := by decide +kernel
theorem dX16_findLeads_96 : decode cX16_findLeads 96 = .ok (.iload 10, 2) := by decide +kernel
theorem dX16_findLeads_98 : decode cX16_findLeads 98 = .ok (.iload 9, 2) := by decide +kernel
theorem dX16_findLeads_100 : decode cX16_findLeads 100 = .ok (.if_icmp .ge 65, 3) := by decide +kernel
theorem dX16_findLeads_103 : decode cX16_findLeads 103 = .ok (.aload 8, 2) := by decide +kernel
theorem dX16_findLeads_105 : decode cX16_findLeads 105 = .ok (.iload 10, 2) := by decide +kernel
theorem dX16_findLeads_107 : decode cX16_findLeads 107 = .ok (.iaload, 1) := by decide +kernel
theorem dX16_findLeads_108 : decode cX16_findLeads 108 = .ok (.istore 11, 2) := by decide +kernel
theorem dX16_findLeads_110 : decode cX16_findLeads 110 = .ok (.iload 11, 2) := by decide +kernel
theorem dX16_findLeads_112 : decode cX16_findLeads 112 = .ok (.iconst (-1), 1) := by decide +kernel
theorem dX16_findLeads_113 : decode cX16_findLeads 113 = .ok (.if_icmp .eq 46, 3) := by decide +kernel
theorem dX16_findLeads_116 : decode cX16_findLeads 116 = .ok (.aload_n 0, 1) := by decide +kernel
theorem dX16_findLeads_117 : decode cX16_findLeads 117 = .ok (.getfield 49, 3) := by decide +kernel
theorem dX16_findLeads_120 : decode cX16_findLeads 120 = .ok (.iload 7, 2) := by decide +kernel
theorem dX16_findLeads_122 : decode cX16_findLeads 122 = .ok (.iaload, 1) := by decide +kernel
theorem dX16_findLeads_123 : decode cX16_findLeads 123 = .ok (.ifCond .lt 36, 3) := by decide +kernel
theorem dX16_findLeads_126 : decode cX16_findLeads 126 = .ok (.aload_n 0, 1) := by decide +kernel
theorem dX16_findLeads_127 : decode cX16_findLeads 127 = .ok (.getfield 49, 3) := by decide +kernel
theorem dX16_findLeads_130 : decode cX16_findLeads 130 = .ok (.iload 11, 2) := by decide +kernel
theorem dX16_findLeads_132 : decode cX16_findLeads 132 = .ok (.iaload, 1) := by decide +kernel
theorem dX16_findLeads_133 : decode cX16_findLeads 133 = .ok (.ifCond .lt 26, 3) := by decide +kernel
theorem dX16_findLeads_136 : decode cX16_findLeads 136 = .ok (.aload_n 0, 1) := by decide +kernel
theorem dX16_findLeads_137 : decode cX16_findLeads 137 = .ok (.getfield 56, 3) := by decide +kernel
theorem dX16_findLeads_140 : decode cX16_findLeads 140 = .ok (.iload_n 1, 1) := by decide +kernel
theorem dX16_findLeads_141 : decode cX16_findLeads 141 = .ok (.aload_n 0, 1) := by decide +kernel
theorem dX16_findLeads_142 : decode cX16_findLeads 142 = .ok (.getfield 49, 3) := by decide +kernel
theorem dX16_findLeads_145 : decode cX16_findLeads 145 = .ok (.iload 7, 2) := by decide +kernel
theorem dX16_findLeads_147 : decode cX16_findLeads 147 = .ok (.iaload, 1) := by decide +kernel
theorem dX16_findLeads_148 : decode cX16_findLeads 148 = .ok (.imul, 1) := by decide +kernel
theorem dX16_findLeads_149 : decode cX16_findLeads 149 = .ok (.aload_n 0, 1) := by decide +kernel
theorem dX16_findLeads_150 : decode cX16_findLeads 150 = .ok (.getfield 49, 3) := by decide +kernel
theorem dX16_findLeads_153 : decode cX16_findLeads 153 = .ok (.iload 11, 2) := by decide +kernel
theorem dX16_findLeads_155 : decode cX16_findLeads 155 = .ok (.iaload, 1) := by decide +kernel
theorem dX16_findLeads_156 : decode cX16_findLeads 156 = .ok (.iadd, 1) := by decide +kernel
theorem dX16_findLeads_157 : decode cX16_findLeads 157 = .ok (.iconst 1, 1) := by decide +kernel
theorem dX16_findLeads_158 : decode cX16_findLeads 158 = .ok (.bastore, 1) := by decide +kernel
theorem dX16_findLeads_159 : decode cX16_findLeads 159 = .ok (.iinc 10 1, 3) := by decide +kernel
theorem dX16_findLeads_162 : decode cX16_findLeads 162 = .ok (.goto (-66), 3) := by decide +kernel
theorem dX16_findLeads_165 : decode cX16_findLeads 165 = .ok (.iinc 6 1, 3) := by decide +kernel
theorem dX16_findLeads_168 : decode cX16_findLeads 168 = .ok (.goto (-100), 3) := by decide +kernel
theorem dX16_findLeads_171 : decode cX16_findLeads 171 = .ok (.goto (-136), 3) := by decide +kernel
theorem dX16_findLeads_174 : decode cX16_findLeads 174 = .ok (.iconst 0, 1) := by decide +kernel
theorem dX16_findLeads_175 : decode cX16_findLeads 175 = .ok (.istore_n 2, 1) := by decide +kernel
theorem dX16_findLeads_176 : decode cX16_findLeads 176 = .ok (.iload_n 2, 1) := by decide +kernel
theorem dX16_findLeads_177 : decode cX16_findLeads 177 = .ok (.iload_n 1, 1) := by decide +kernel
theorem dX16_findLeads_178 : decode cX16_findLeads 178 = .ok (.if_icmp .ge 94, 3) := by decide +kernel
theorem dX16_findLeads_181 : decode cX16_findLeads 181 = .ok (.iconst 0, 1) := by decide +kernel
theorem dX16_findLeads_182 : decode cX16_findLeads 182 = .ok (.istore_n 3, 1) := by decide +kernel
theorem dX16_findLeads_183 : decode cX16_findLeads 183 = .ok (.iload_n 3, 1) := by decide +kernel
theorem dX16_findLeads_184 : decode cX16_findLeads 184 = .ok (.iload_n 1, 1) := by decide +kernel
theorem dX16_findLeads_185 : decode cX16_findLeads 185 = .ok (.if_icmp .ge 81, 3) := by decide +kernel
theorem dX16_findLeads_188 : decode cX16_findLeads 188 = .ok (.iconst 0, 1) := by decide +kernel
theorem dX16_findLeads_189 : decode cX16_findLeads 189 = .ok (.istore 4, 2) := by decide +kernel
theorem dX16_findLeads_191 : decode cX16_findLeads 191 = .ok (.iload 4, 2) := by decide +kernel
theorem dX16_findLeads_193 : decode cX16_findLeads 193 = .ok (.iload_n 1, 1) := by decide +kernel
theorem dX16_findLeads_194 : decode cX16_findLeads 194 = .ok (.if_icmp .ge 66, 3) := by decide +kernel
theorem dX16_findLeads_197 : decode cX16_findLeads 197 = .ok (.aload_n 0, 1) := by decide +kernel
theorem dX16_findLeads_198 : decode cX16_findLeads 198 = .ok (.getfield 56, 3) := by decide +kernel
theorem dX16_findLeads_201 : decode cX16_findLeads 201 = .ok (.iload_n 1, 1) := by decide +kernel
theorem dX16_findLeads_202 : decode cX16_findLeads 202 = .ok (.iload_n 3, 1) := by decide +kernel
theorem dX16_findLeads_203 : decode cX16_findLeads 203 = .ok (.imul, 1) := by decide +kernel
theorem dX16_findLeads_204 : decode cX16_findLeads 204 = .ok (.iload_n 2, 1) := by decide +kernel
theorem dX16_findLeads_205 : decode cX16_findLeads 205 = .ok (.iadd, 1) := by decide +kernel
theorem dX16_findLeads_206 : decode cX16_findLeads 206 = .ok (.baload, 1) := by decide +kernel
theorem dX16_findLeads_207 : decode cX16_findLeads 207 = .ok (.ifCond .eq 53, 3) := by decide +kernel
theorem dX16_findLeads_210 : decode cX16_findLeads 210 = .ok (.aload_n 0, 1) := by decide +kernel
theorem dX16_findLeads_211 : decode cX16_findLeads 211 = .ok (.getfield 56, 3) := by decide +kernel
theorem dX16_findLeads_214 : decode cX16_findLeads 214 = .ok (.iload_n 1, 1) := by decide +kernel
theorem dX16_findLeads_215 : decode cX16_findLeads 215 = .ok (.iload_n 3, 1) := by decide +kernel
theorem dX16_findLeads_216 : decode cX16_findLeads 216 = .ok (.imul, 1) := by decide +kernel
theorem dX16_findLeads_217 : decode cX16_findLeads 217 = .ok (.iload 4, 2) := by decide +kernel
theorem dX16_findLeads_219 : decode cX16_findLeads 219 = .ok (.iadd, 1) := by decide +kernel
theorem dX16_findLeads_220 : decode cX16_findLeads 220 = .ok (.aload_n 0, 1) := by decide +kernel
theorem dX16_findLeads_221 : decode cX16_findLeads 221 = .ok (.getfield 56, 3) := by decide +kernel
theorem dX16_findLeads_224 : decode cX16_findLeads 224 = .ok (.iload_n 1, 1) := by decide +kernel
theorem dX16_findLeads_225 : decode cX16_findLeads 225 = .ok (.iload_n 3, 1) := by decide +kernel
theorem dX16_findLeads_226 : decode cX16_findLeads 226 = .ok (.imul, 1) := by decide +kernel
theorem dX16_findLeads_227 : decode cX16_findLeads 227 = .ok (.iload 4, 2) := by decide +kernel
theorem dX16_findLeads_229 : decode cX16_findLeads 229 = .ok (.iadd, 1) := by decide +kernel
theorem dX16_findLeads_230 : decode cX16_findLeads 230 = .ok (.baload, 1) := by decide +kernel
theorem dX16_findLeads_231 : decode cX16_findLeads 231 = .ok (.ifCond .ne 17, 3) := by decide +kernel
theorem dX16_findLeads_234 : decode cX16_findLeads 234 = .ok (.aload_n 0, 1) := by decide +kernel
theorem dX16_findLeads_235 : decode cX16_findLeads 235 = .ok (.getfield 56, 3) := by decide +kernel
theorem dX16_findLeads_238 : decode cX16_findLeads 238 = .ok (.iload_n 1, 1) := by decide +kernel
theorem dX16_findLeads_239 : decode cX16_findLeads 239 = .ok (.iload_n 2, 1) := by decide +kernel
theorem dX16_findLeads_240 : decode cX16_findLeads 240 = .ok (.imul, 1) := by decide +kernel
theorem dX16_findLeads_241 : decode cX16_findLeads 241 = .ok (.iload 4, 2) := by decide +kernel
theorem dX16_findLeads_243 : decode cX16_findLeads 243 = .ok (.iadd, 1) := by decide +kernel
theorem dX16_findLeads_244 : decode cX16_findLeads 244 = .ok (.baload, 1) := by decide +kernel
theorem dX16_findLeads_245 : decode cX16_findLeads 245 = .ok (.ifCond .eq 7, 3) := by decide +kernel
theorem dX16_findLeads_248 : decode cX16_findLeads 248 = .ok (.iconst 1, 1) := by decide +kernel
theorem dX16_findLeads_249 : decode cX16_findLeads 249 = .ok (.goto 4, 3) := by decide +kernel
theorem dX16_findLeads_252 : decode cX16_findLeads 252 = .ok (.iconst 0, 1) := by decide +kernel
theorem dX16_findLeads_253 : decode cX16_findLeads 253 = .ok (.bastore, 1) := by decide +kernel
theorem dX16_findLeads_254 : decode cX16_findLeads 254 = .ok (.iinc 4 1, 3) := by decide +kernel
theorem dX16_findLeads_257 : decode cX16_findLeads 257 = .ok (.goto (-66), 3) := by decide +kernel
theorem dX16_findLeads_260 : decode cX16_findLeads 260 = .ok (.iinc 3 1, 3) := by decide +kernel
theorem dX16_findLeads_263 : decode cX16_findLeads 263 = .ok (.goto (-80), 3) := by decide +kernel
theorem dX16_findLeads_266 : decode cX16_findLeads 266 = .ok (.iinc 2 1, 3) := by decide +kernel
theorem dX16_findLeads_269 : decode cX16_findLeads 269 = .ok (.goto (-93), 3) := by decide +kernel
theorem dX16_findLeads_272 : decode cX16_findLeads 272 = .ok (.return_, 1) := by decide +kernel
theorem dX16_loops_0 : decode cX16_loops 0 = .ok (.aload_n 0, 1) := by decide +kernel
theorem dX16_loops_1 : decode cX16_loops 1 = .ok (.iconst 0, 1) := by decide +kernel
theorem dX16_loops_2 : decode cX16_loops 2 = .ok (.putfield 65, 3) := by decide +kernel
theorem dX16_loops_5 : decode cX16_loops 5 = .ok (.aload_n 0, 1) := by decide +kernel
theorem dX16_loops_6 : decode cX16_loops 6 = .ok (.invokevirtual 306, 3) := by decide +kernel
theorem dX16_loops_9 : decode cX16_loops 9 = .ok (.aload_n 0, 1) := by decide +kernel
theorem dX16_loops_10 : decode cX16_loops 10 = .ok (.aload_n 0, 1) := by decide +kernel
theorem dX16_loops_11 : decode cX16_loops 11 = .ok (.getfield 261, 3) := by decide +kernel
theorem dX16_loops_14 : decode cX16_loops 14 = .ok (.sipush 300, 3) := by decide +kernel
theorem dX16_loops_17 : decode cX16_loops 17 = .ok (.if_icmp .le 7, 3) := by decide +kernel
theorem dX16_loops_20 : decode cX16_loops 20 = .ok (.iconst 1, 1) := by decide +kernel
theorem dX16_loops_21 : decode cX16_loops 21 = .ok (.goto 4, 3) := by decide +kernel
theorem dX16_loops_24 : decode cX16_loops 24 = .ok (.iconst 0, 1) := by decide +kernel
theorem dX16_loops_25 : decode cX16_loops 25 = .ok (.iconst 1, 1) := by decide +kernel
theorem dX16_loops_26 : decode cX16_loops 26 = .ok (.invokevirtual 87, 3) := by decide +kernel
theorem dX16_loops_29 : decode cX16_loops 29 = .ok (.ifCond .eq 5, 3) := by decide +kernel
theorem dX16_loops_32 : decode cX16_loops 32 = .ok (.iconst 0, 1) := by decide +kernel
theorem dX16_loops_33 : decode cX16_loops 33 = .ok (.ireturn, 1) := by decide +kernel
theorem dX16_loops_34 : decode cX16_loops 34 = .ok (.aload_n 0, 1) := by decide +kernel
theorem dX16_loops_35 : decode cX16_loops 35 = .ok (.invokevirtual 309, 3) := by decide +kernel
theorem dX16_loops_38 : decode cX16_loops 38 = .ok (.iconst 0, 1) := by decide +kernel
theorem dX16_loops_39 : decode cX16_loops 39 = .ok (.istore_n 1, 1) := by decide +kernel
theorem dX16_loops_40 : decode cX16_loops 40 = .ok (.iconst 0, 1) := by decide +kernel
theorem dX16_loops_41 : decode cX16_loops 41 = .ok (.istore_n 2, 1) := by decide +kernel
theorem dX16_loops_42 : decode cX16_loops 42 = .ok (.iload_n 2, 1) := by decide +kernel
theorem dX16_loops_43 : decode cX16_loops 43 = .ok (.aload_n 0, 1) := by decide +kernel
theorem dX16_loops_44 : decode cX16_loops 44 = .ok (.getfield 296, 3) := by decide +kernel
theorem dX16_loops_47 : decode cX16_loops 47 = .ok (.if_icmp .ge 94, 3) := by decide +kernel
theorem dX16_loops_50 : decode cX16_loops 50 = .ok (.aload_n 0, 1) := by decide +kernel
theorem dX16_loops_51 : decode cX16_loops 51 = .ok (.getfield 56, 3) := by decide +kernel
theorem dX16_loops_54 : decode cX16_loops 54 = .ok (.aload_n 0, 1) := by decide +kernel
theorem dX16_loops_55 : decode cX16_loops 55 = .ok (.getfield 296, 3) := by decide +kernel
theorem dX16_loops_58 : decode cX16_loops 58 = .ok (.iload_n 2, 1) := by decide +kernel
theorem dX16_loops_59 : decode cX16_loops 59 = .ok (.imul, 1) := by decide +kernel
theorem dX16_loops_60 : decode cX16_loops 60 = .ok (.iload_n 2, 1) := by decide +kernel
theorem dX16_loops_61 : decode cX16_loops 61 = .ok (.iadd, 1) := by decide +kernel
theorem dX16_loops_62 : decode cX16_loops 62 = .ok (.baload, 1) := by decide +kernel
theorem dX16_loops_63 : decode cX16_loops 63 = .ok (.istore_n 3, 1) := by decide +kernel
theorem dX16_loops_64 : decode cX16_loops 64 = .ok (.iconst 0, 1) := by decide +kernel
theorem dX16_loops_65 : decode cX16_loops 65 = .ok (.istore 4, 2) := by decide +kernel
theorem dX16_loops_67 : decode cX16_loops 67 = .ok (.iload 4, 2) := by decide +kernel
theorem dX16_loops_69 : decode cX16_loops 69 = .ok (.iload_n 2, 1) := by decide +kernel
theorem dX16_loops_70 : decode cX16_loops 70 = .ok (.if_icmp .ge 53, 3) := by decide +kernel
theorem dX16_loops_73 : decode cX16_loops 73 = .ok (.iload_n 3, 1) := by decide +kernel
theorem dX16_loops_74 : decode cX16_loops 74 = .ok (.ifCond .eq 41, 3) := by decide +kernel
theorem dX16_loops_77 : decode cX16_loops 77 = .ok (.aload_n 0, 1) := by decide +kernel
theorem dX16_loops_78 : decode cX16_loops 78 = .ok (.getfield 56, 3) := by decide +kernel
theorem dX16_loops_81 : decode cX16_loops 81 = .ok (.aload_n 0, 1) := by decide +kernel
theorem dX16_loops_82 : decode cX16_loops 82 = .ok (.getfield 296, 3) := by decide +kernel
theorem dX16_loops_85 : decode cX16_loops 85 = .ok (.iload_n 2, 1) := by decide +kernel
theorem dX16_loops_86 : decode cX16_loops 86 = .ok (.imul, 1) := by decide +kernel
theorem dX16_loops_87 : decode cX16_loops 87 = .ok (.iload 4, 2) := by decide +kernel
theorem dX16_loops_89 : decode cX16_loops 89 = .ok (.iadd, 1) := by decide +kernel
theorem dX16_loops_90 : decode cX16_loops 90 = .ok (.baload, 1) := by decide +kernel
theorem dX16_loops_91 : decode cX16_loops 91 = .ok (.ifCond .eq 20, 3) := by decide +kernel
theorem dX16_loops_94 : decode cX16_loops 94 = .ok (.aload_n 0, 1) := by decide +kernel
theorem dX16_loops_95 : decode cX16_loops 95 = .ok (.getfield 56, 3) := by decide +kernel
theorem dX16_loops_98 : decode cX16_loops 98 = .ok (.aload_n 0, 1) := by decide +kernel
theorem dX16_loops_99 : decode cX16_loops 99 = .ok (.getfield 296, 3) := by decide +kernel
theorem dX16_loops_102 : decode cX16_loops 102 = .ok (.iload 4, 2) := by decide +kernel
theorem dX16_loops_104 : decode cX16_loops 104 = .ok (.imul, 1) := by decide +kernel
theorem dX16_loops_105 : decode cX16_loops 105 = .ok (.iload_n 2, 1) := by decide +kernel
theorem dX16_loops_106 : decode cX16_loops 106 = .ok (.iadd, 1) := by decide +kernel
theorem dX16_loops_107 : decode cX16_loops 107 = .ok (.baload, 1) := by decide +kernel
theorem dX16_loops_108 : decode cX16_loops 108 = .ok (.ifCond .ne 7, 3) := by decide +kernel
theorem dX16_loops_111 : decode cX16_loops 111 = .ok (.iconst 1, 1) := by decide +kernel
theorem dX16_loops_112 : decode cX16_loops 112 = .ok (.goto 4, 3) := by decide +kernel
theorem dX16_loops_115 : decode cX16_loops 115 = .ok (.iconst 0, 1) := by decide +kernel
theorem dX16_loops_116 : decode cX16_loops 116 = .ok (.istore_n 3, 1) := by decide +kernel
theorem dX16_loops_117 : decode cX16_loops 117 = .ok (.iinc 4 1, 3) := by decide +kernel
theorem dX16_loops_120 : decode cX16_loops 120 = .ok (.goto (-53), 3) := by decide +kernel
theorem dX16_loops_123 : decode cX16_loops 123 = .ok (.iload_n 1, 1) := by decide +kernel
theorem dX16_loops_124 : decode cX16_loops 124 = .ok (.iload_n 3, 1) := by decide +kernel
theorem dX16_loops_125 : decode cX16_loops 125 = .ok (.ifCond .eq 7, 3) := by decide +kernel
theorem dX16_loops_128 : decode cX16_loops 128 = .ok (.iconst 1, 1) := by decide +kernel
theorem dX16_loops_129 : decode cX16_loops 129 = .ok (.goto 4, 3) := by decide +kernel
theorem dX16_loops_132 : decode cX16_loops 132 = .ok (.iconst 0, 1) := by decide +kernel
theorem dX16_loops_133 : decode cX16_loops 133 = .ok (.iadd, 1) := by decide +kernel
theorem dX16_loops_134 : decode cX16_loops 134 = .ok (.istore_n 1, 1) := by decide +kernel
theorem dX16_loops_135 : decode cX16_loops 135 = .ok (.iinc 2 1, 3) := by decide +kernel
theorem dX16_loops_138 : decode cX16_loops 138 = .ok (.goto (-96), 3) := by decide +kernel
theorem dX16_loops_141 : decode cX16_loops 141 = .ok (.iload_n 1, 1) := by decide +kernel
theorem dX16_loops_142 : decode cX16_loops 142 = .ok (.ireturn, 1) := by decide +kernel
theorem dX16_findAssumed_0 : decode cX16_findAssumed 0 = .ok (.aload_n 0, 1) := by decide +kernel
theorem dX16_findAssumed_1 : decode cX16_findAssumed 1 = .ok (.iconst 0, 1) := by decide +kernel
theorem dX16_findAssumed_2 : decode cX16_findAssumed 2 = .ok (.putfield 312, 3) := by decide +kernel
theorem dX16_findAssumed_5 : decode cX16_findAssumed 5 = .ok (.aload_n 0, 1) := by decide +kernel
theorem dX16_findAssumed_6 : decode cX16_findAssumed 6 = .ok (.iconst 0, 1) := by decide +kernel
theorem dX16_findAssumed_7 : decode cX16_findAssumed 7 = .ok (.putfield 315, 3) := by decide +kernel
theorem dX16_findAssumed_10 : decode cX16_findAssumed 10 = .ok (.iconst 1, 1) := by decide +kernel
theorem dX16_findAssumed_11 : decode cX16_findAssumed 11 = .ok (.istore_n 1, 1) := by decide +kernel
theorem dX16_findAssumed_12 : decode cX16_findAssumed 12 = .ok (.iconst 0, 1) := by decide +kernel
theorem dX16_findAssumed_13 : decode cX16_findAssumed 13 = .ok (.istore_n 2, 1) := by decide +kernel
theorem dX16_findAssumed_14 : decode cX16_findAssumed 14 = .ok (.iload_n 2, 1) := by decide +kernel
theorem dX16_findAssumed_15 : decode cX16_findAssumed 15 = .ok (.sipush 384, 3) := by decide +kernel
theorem dX16_findAssumed_18 : decode cX16_findAssumed 18 = .ok (.if_icmp .ge 141, 3) := by decide +kernel
theorem dX16_findAssumed_21 : decode cX16_findAssumed 21 = .ok (.aload_n 0, 1) := by decide +kernel
theorem dX16_findAssumed_22 : decode cX16_findAssumed 22 = .ok (.getfield 49, 3) := by decide +kernel
theorem dX16_findAssumed_25 : decode cX16_findAssumed 25 = .ok (.iload_n 2, 1) := by decide +kernel
theorem dX16_findAssumed_26 : decode cX16_findAssumed 26 = .ok (.iaload, 1) := by decide +kernel
theorem dX16_findAssumed_27 : decode cX16_findAssumed 27 = .ok (.ifCond .lt 7, 3) := by decide +kernel
theorem dX16_findAssumed_30 : decode cX16_findAssumed 30 = .ok (.iconst 1, 1) := by decide +kernel
theorem dX16_findAssumed_31 : decode cX16_findAssumed 31 = .ok (.goto 4, 3) := by decide +kernel
theorem dX16_findAssumed_34 : decode cX16_findAssumed 34 = .ok (.iconst 0, 1) := by decide +kernel
theorem dX16_findAssumed_35 : decode cX16_findAssumed 35 = .ok (.istore_n 3, 1) := by decide +kernel
theorem dX16_findAssumed_36 : decode cX16_findAssumed 36 = .ok (.aload_n 0, 1) := by decide +kernel
theorem dX16_findAssumed_37 : decode cX16_findAssumed 37 = .ok (.dup, 1) := by decide +kernel
theorem dX16_findAssumed_38 : decode cX16_findAssumed 38 = .ok (.getfield 312, 3) := by decide +kernel
theorem dX16_findAssumed_41 : decode cX16_findAssumed 41 = .ok (.aload_n 0, 1) := by decide +kernel
theorem dX16_findAssumed_42 : decode cX16_findAssumed 42 = .ok (.getfield 30, 3) := by decide +kernel
theorem dX16_findAssumed_45 : decode cX16_findAssumed 45 = .ok (.iload_n 2, 1) := by decide +kernel
theorem dX16_findAssumed_46 : decode cX16_findAssumed 46 = .ok (.iaload, 1) := by decide +kernel
theorem dX16_findAssumed_47 : decode cX16_findAssumed 47 = .ok (.iconst 1, 1) := by decide +kernel
theorem dX16_findAssumed_48 : decode cX16_findAssumed 48 = .ok (.if_icmp .ne 18, 3) := by decide +kernel
theorem dX16_findAssumed_51 : decode cX16_findAssumed 51 = .ok (.iload_n 3, 1) := by decide +kernel
theorem dX16_findAssumed_52 : decode cX16_findAssumed 52 = .ok (.ifCond .eq 14, 3) := by decide +kernel
theorem dX16_findAssumed_55 : decode cX16_findAssumed 55 = .ok (.iconst 1, 1) := by decide +kernel
theorem dX16_findAssumed_56 : decode cX16_findAssumed 56 = .ok (.aload_n 0, 1) := by decide +kernel
theorem dX16_findAssumed_57 : decode cX16_findAssumed 57 = .ok (.getfield 49, 3) := by decide +kernel
theorem dX16_findAssumed_60 : decode cX16_findAssumed 60 = .ok (.iload_n 2, 1) := by decide +kernel
theorem dX16_findAssumed_61 : decode cX16_findAssumed 61 = .ok (.iaload, 1) := by decide +kernel
theorem dX16_findAssumed_62 : decode cX16_findAssumed 62 = .ok (.ishl, 1) := by decide +kernel
theorem dX16_findAssumed_63 : decode cX16_findAssumed 63 = .ok (.goto 4, 3) := by decide +kernel
theorem dX16_findAssumed_66 : decode cX16_findAssumed 66 = .ok (.iconst 0, 1) := by decide +kernel
theorem dX16_findAssumed_67 : decode cX16_findAssumed 67 = .ok (.ior, 1) := by decide +kernel
theorem dX16_findAssumed_68 : decode cX16_findAssumed 68 = .ok (.putfield 312, 3) := by decide +kernel
theorem dX16_findAssumed_71 : decode cX16_findAssumed 71 = .ok (.aload_n 0, 1) := by decide +kernel
theorem dX16_findAssumed_72 : decode cX16_findAssumed 72 = .ok (.dup, 1) := by decide +kernel
theorem dX16_findAssumed_73 : decode cX16_findAssumed 73 = .ok (.getfield 315, 3) := by decide +kernel
theorem dX16_findAssumed_76 : decode cX16_findAssumed 76 = .ok (.aload_n 0, 1) := by decide +kernel
theorem dX16_findAssumed_77 : decode cX16_findAssumed 77 = .ok (.getfield 30, 3) := by decide +kernel
theorem dX16_findAssumed_80 : decode cX16_findAssumed 80 = .ok (.iload_n 2, 1) := by decide +kernel
theorem dX16_findAssumed_81 : decode cX16_findAssumed 81 = .ok (.iaload, 1) := by decide +kernel
theorem dX16_findAssumed_82 : decode cX16_findAssumed 82 = .ok (.iconst 2, 1) := by decide +kernel
theorem dX16_findAssumed_83 : decode cX16_findAssumed 83 = .ok (.if_icmp .ne 18, 3) := by decide +kernel
theorem dX16_findAssumed_86 : decode cX16_findAssumed 86 = .ok (.iload_n 3, 1) := by decide +kernel
theorem dX16_findAssumed_87 : decode cX16_findAssumed 87 = .ok (.ifCond .eq 14, 3) := by decide +kernel
theorem dX16_findAssumed_90 : decode cX16_findAssumed 90 = .ok (.iconst 1, 1) := by decide +kernel
theorem dX16_findAssumed_91 : decode cX16_findAssumed 91 = .ok (.aload_n 0, 1) := by decide +kernel
theorem dX16_findAssumed_92 : decode cX16_findAssumed 92 = .ok (.getfield 49, 3) := by decide +kernel
theorem dX16_findAssumed_95 : decode cX16_findAssumed 95 = .ok (.iload_n 2, 1) := by decide +kernel
theorem dX16_findAssumed_96 : decode cX16_findAssumed 96 = .ok (.iaload, 1) := by decide +kernel
theorem dX16_findAssumed_97 : decode cX16_findAssumed 97 = .ok (.ishl, 1) := by decide +kernel
theorem dX16_findAssumed_98 : decode cX16_findAssumed 98 = .ok (.goto 4, 3) := by decide +kernel
theorem dX16_findAssumed_101 : decode cX16_findAssumed 101 = .ok (.iconst 0, 1) := by decide +kernel
theorem dX16_findAssumed_102 : decode cX16_findAssumed 102 = .ok (.ior, 1) := by decide +kernel
theorem dX16_findAssumed_103 : decode cX16_findAssumed 103 = .ok (.putfield 315, 3) := by decide +kernel
theorem dX16_findAssumed_106 : decode cX16_findAssumed 106 = .ok (.iload_n 1, 1) := by decide +kernel
theorem dX16_findAssumed_107 : decode cX16_findAssumed 107 = .ok (.ifCond .eq 44, 3) := by decide +kernel
theorem dX16_findAssumed_110 : decode cX16_findAssumed 110 = .ok (.iload_n 3, 1) := by decide +kernel
theorem dX16_findAssumed_111 : decode cX16_findAssumed 111 = .ok (.ifCond .ne 36, 3) := by decide +kernel
theorem dX16_findAssumed_114 : decode cX16_findAssumed 114 = .ok (.aload_n 0, 1) := by decide +kernel
theorem dX16_findAssumed_115 : decode cX16_findAssumed 115 = .ok (.getfield 30, 3) := by decide +kernel
theorem dX16_findAssumed_118 : decode cX16_findAssumed 118 = .ok (.iload_n 2, 1) := by decide +kernel
theorem dX16_findAssumed_119 : decode cX16_findAssumed 119 = .ok (.iaload, 1) := by decide +kernel
theorem dX16_findAssumed_120 : decode cX16_findAssumed 120 = .ok (.ifCond .eq 27, 3) := by decide +kernel
theorem dX16_findAssumed_123 : decode cX16_findAssumed 123 = .ok (.aload_n 0, 1) := by decide +kernel
theorem dX16_findAssumed_124 : decode cX16_findAssumed 124 = .ok (.getfield 33, 3) := by decide +kernel
theorem dX16_findAssumed_127 : decode cX16_findAssumed 127 = .ok (.iload_n 2, 1) := by decide +kernel
theorem dX16_findAssumed_128 : decode cX16_findAssumed 128 = .ok (.baload, 1) := by decide +kernel
theorem dX16_findAssumed_129 : decode cX16_findAssumed 129 = .ok (.aload_n 0, 1) := by decide +kernel
theorem dX16_findAssumed_130 : decode cX16_findAssumed 130 = .ok (.getfield 30, 3) := by decide +kernel
theorem dX16_findAssumed_133 : decode cX16_findAssumed 133 = .ok (.iload_n 2, 1) := by decide +kernel
theorem dX16_findAssumed_134 : decode cX16_findAssumed 134 = .ok (.iaload, 1) := by decide +kernel
theorem dX16_findAssumed_135 : decode cX16_findAssumed 135 = .ok (.iconst 1, 1) := by decide +kernel
theorem dX16_findAssumed_136 : decode cX16_findAssumed 136 = .ok (.if_icmp .ne 7, 3) := by decide +kernel
theorem dX16_findAssumed_139 : decode cX16_findAssumed 139 = .ok (.iconst 1, 1) := by decide +kernel
theorem dX16_findAssumed_140 : decode cX16_findAssumed 140 = .ok (.goto 4, 3) := by decide +kernel
theorem dX16_findAssumed_143 : decode cX16_findAssumed 143 = .ok (.iconst 0, 1) := by decide +kernel
theorem dX16_findAssumed_144 : decode cX16_findAssumed 144 = .ok (.if_icmp .ne 7, 3) := by decide +kernel
theorem dX16_findAssumed_147 : decode cX16_findAssumed 147 = .ok (.iconst 1, 1) := by decide +kernel
theorem dX16_findAssumed_148 : decode cX16_findAssumed 148 = .ok (.goto 4, 3) := by decide +kernel
theorem dX16_findAssumed_151 : decode cX16_findAssumed 151 = .ok (.iconst 0, 1) := by decide +kernel
theorem dX16_findAssumed_152 : decode cX16_findAssumed 152 = .ok (.istore_n 1, 1) := by decide +kernel
theorem dX16_findAssumed_153 : decode cX16_findAssumed 153 = .ok (.iinc 2 1, 3) := by decide +kernel
theorem dX16_findAssumed_156 : decode cX16_findAssumed 156 = .ok (.goto (-142), 3) := by decide +kernel
theorem dX16_findAssumed_159 : decode cX16_findAssumed 159 = .ok (.iload_n 1, 1) := by decide +kernel
theorem dX16_findAssumed_160 : decode cX16_findAssumed 160 = .ok (.ireturn, 1) := by decide +kernel
theorem dX16_fits_0 : decode cX16_fits 0 = .ok (.iload_n 1, 1) := by decide +kernel
theorem dX16_fits_1 : decode cX16_fits 1 = .ok (.aload_n 0, 1) := by decide +kernel
theorem dX16_fits_2 : decode cX16_fits 2 = .ok (.getfield 312, 3) := by decide +kernel
theorem dX16_fits_5 : decode cX16_fits 5 = .ok (.iand, 1) := by decide +kernel
theorem dX16_fits_6 : decode cX16_fits 6 = .ok (.aload_n 0, 1) := by decide +kernel
theorem dX16_fits_7 : decode cX16_fits 7 = .ok (.getfield 312, 3) := by decide +kernel
theorem dX16_fits_10 : decode cX16_fits 10 = .ok (.if_icmp .ne 16, 3) := by decide +kernel
theorem dX16_fits_13 : decode cX16_fits 13 = .ok (.iload_n 1, 1) := by decide +kernel
theorem dX16_fits_14 : decode cX16_fits 14 = .ok (.aload_n 0, 1) := by decide +kernel
theorem dX16_fits_15 : decode cX16_fits 15 = .ok (.getfield 315, 3) := by decide +kernel
theorem dX16_fits_18 : decode cX16_fits 18 = .ok (.iand, 1) := by decide +kernel
theorem dX16_fits_19 : decode cX16_fits 19 = .ok (.ifCond .ne 7, 3) := by decide +kernel
theorem dX16_fits_22 : decode cX16_fits 22 = .ok (.iconst 1, 1) := by decide +kernel
theorem dX16_fits_23 : decode cX16_fits 23 = .ok (.goto 4, 3) := by decide +kernel
theorem dX16_fits_26 : decode cX16_fits 26 = .ok (.iconst 0, 1) := by decide +kernel
theorem dX16_fits_27 : decode cX16_fits 27 = .ok (.ireturn, 1) := by decide +kernel
theorem dX16_isClosed_0 : decode cX16_isClosed 0 = .ok (.iconst 1, 1) := by decide +kernel
theorem dX16_isClosed_1 : decode cX16_isClosed 1 = .ok (.istore_n 2, 1) := by decide +kernel
theorem dX16_isClosed_2 : decode cX16_isClosed 2 = .ok (.aload_n 0, 1) := by decide +kernel
theorem dX16_isClosed_3 : decode cX16_isClosed 3 = .ok (.getfield 43, 3) := by decide +kernel
theorem dX16_isClosed_6 : decode cX16_isClosed 6 = .ok (.invokevirtual 167, 3) := by decide +kernel
theorem dX16_isClosed_9 : decode cX16_isClosed 9 = .ok (.astore_n 3, 1) := by decide +kernel
theorem dX16_isClosed_10 : decode cX16_isClosed 10 = .ok (.aload_n 3, 1) := by decide +kernel
theorem dX16_isClosed_11 : decode cX16_isClosed 11 = .ok (.invokeinterface 171 1, 5) := by decide +kernel
theorem dX16_isClosed_16 : decode cX16_isClosed 16 = .ok (.ifCond .eq 124, 3) := by decide +kernel
theorem dX16_isClosed_19 : decode cX16_isClosed 19 = .ok (.aload_n 3, 1) := by decide +kernel
theorem dX16_isClosed_20 : decode cX16_isClosed 20 = .ok (.invokeinterface 177 1, 5) := by decide +kernel
theorem dX16_isClosed_25 : decode cX16_isClosed 25 = .ok (.checkcast 264, 3) := by decide +kernel
theorem dX16_isClosed_28 : decode cX16_isClosed 28 = .ok (.astore 4, 2) := by decide +kernel
theorem dX16_isClosed_30 : decode cX16_isClosed 30 = .ok (.aload_n 0, 1) := by decide +kernel
theorem dX16_isClosed_31 : decode cX16_isClosed 31 = .ok (.getfield 16, 3) := by decide +kernel
theorem dX16_isClosed_34 : decode cX16_isClosed 34 = .ok (.aload 4, 2) := by decide +kernel
theorem dX16_isClosed_36 : decode cX16_isClosed 36 = .ok (.getfield 267, 3) := by decide +kernel
theorem dX16_isClosed_39 : decode cX16_isClosed 39 = .ok (.invokevirtual 134, 3) := by decide +kernel
theorem dX16_isClosed_42 : decode cX16_isClosed 42 = .ok (.checkcast 98, 3) := by decide +kernel
theorem dX16_isClosed_45 : decode cX16_isClosed 45 = .ok (.astore 5, 2) := by decide +kernel
theorem dX16_isClosed_47 : decode cX16_isClosed 47 = .ok (.iload_n 2, 1) := by decide +kernel
theorem dX16_isClosed_48 : decode cX16_isClosed 48 = .ok (.ifCond .eq 89, 3) := by decide +kernel
theorem dX16_isClosed_51 : decode cX16_isClosed 51 = .ok (.aload 5, 2) := by decide +kernel
theorem dX16_isClosed_53 : decode cX16_isClosed 53 = .ok (.getfield 138, 3) := by decide +kernel
theorem dX16_isClosed_56 : decode cX16_isClosed 56 = .ok (.bipush 119, 2) := by decide +kernel
theorem dX16_isClosed_58 : decode cX16_isClosed 58 = .ok (.if_icmp .eq 79, 3) := by decide +kernel
theorem dX16_isClosed_61 : decode cX16_isClosed 61 = .ok (.aload 4, 2) := by decide +kernel
theorem dX16_isClosed_63 : decode cX16_isClosed 63 = .ok (.iload_n 1, 1) := by decide +kernel
theorem dX16_isClosed_64 : decode cX16_isClosed 64 = .ok (.invokevirtual 318, 3) := by decide +kernel
theorem dX16_isClosed_67 : decode cX16_isClosed 67 = .ok (.ifCond .eq 70, 3) := by decide +kernel
theorem dX16_isClosed_70 : decode cX16_isClosed 70 = .ok (.aload 4, 2) := by decide +kernel
theorem dX16_isClosed_72 : decode cX16_isClosed 72 = .ok (.getfield 290, 3) := by decide +kernel
theorem dX16_isClosed_75 : decode cX16_isClosed 75 = .ok (.iload_n 1, 1) := by decide +kernel
theorem dX16_isClosed_76 : decode cX16_isClosed 76 = .ok (.aload 4, 2) := by decide +kernel
theorem dX16_isClosed_78 : decode cX16_isClosed 78 = .ok (.getfield 287, 3) := by decide +kernel
theorem dX16_isClosed_81 : decode cX16_isClosed 81 = .ok (.iand, 1) := by decide +kernel
theorem dX16_isClosed_82 : decode cX16_isClosed 82 = .ok (.invokestatic 321, 3) := by decide +kernel
theorem dX16_isClosed_85 : decode cX16_isClosed 85 = .ok (.iadd, 1) := by decide +kernel
theorem dX16_isClosed_86 : decode cX16_isClosed 86 = .ok (.istore 6, 2) := by decide +kernel
theorem dX16_isClosed_88 : decode cX16_isClosed 88 = .ok (.aload 5, 2) := by decide +kernel
theorem dX16_isClosed_90 : decode cX16_isClosed 90 = .ok (.getfield 138, 3) := by decide +kernel
theorem dX16_isClosed_93 : decode cX16_isClosed 93 = .ok (.bipush 100, 2) := by decide +kernel
theorem dX16_isClosed_95 : decode cX16_isClosed 95 = .ok (.if_icmp .ne 16, 3) := by decide +kernel
theorem dX16_isClosed_98 : decode cX16_isClosed 98 = .ok (.iload 6, 2) := by decide +kernel
theorem dX16_isClosed_100 : decode cX16_isClosed 100 = .ok (.ifCond .le 7, 3) := by decide +kernel
theorem dX16_isClosed_103 : decode cX16_isClosed 103 = .ok (.iconst 1, 1) := by decide +kernel
theorem dX16_isClosed_104 : decode cX16_isClosed 104 = .ok (.goto 32, 3) := by decide +kernel
theorem dX16_isClosed_107 : decode cX16_isClosed 107 = .ok (.iconst 0, 1) := by decide +kernel
theorem dX16_isClosed_108 : decode cX16_isClosed 108 = .ok (.goto 28, 3) := by decide +kernel
theorem dX16_isClosed_111 : decode cX16_isClosed 111 = .ok (.iload 6, 2) := by decide +kernel
theorem dX16_isClosed_113 : decode cX16_isClosed 113 = .ok (.aload 5, 2) := by decide +kernel
theorem dX16_isClosed_115 : decode cX16_isClosed 115 = .ok (.getfield 110, 3) := by decide +kernel
theorem dX16_isClosed_118 : decode cX16_isClosed 118 = .ok (.if_icmp .lt 17, 3) := by decide +kernel
theorem dX16_isClosed_121 : decode cX16_isClosed 121 = .ok (.iload 6, 2) := by decide +kernel
theorem dX16_isClosed_123 : decode cX16_isClosed 123 = .ok (.aload 5, 2) := by decide +kernel
theorem dX16_isClosed_125 : decode cX16_isClosed 125 = .ok (.getfield 113, 3) := by decide +kernel
theorem dX16_isClosed_128 : decode cX16_isClosed 128 = .ok (.if_icmp .gt 7, 3) := by decide +kernel
theorem dX16_isClosed_131 : decode cX16_isClosed 131 = .ok (.iconst 1, 1) := by decide +kernel
theorem dX16_isClosed_132 : decode cX16_isClosed 132 = .ok (.goto 4, 3) := by decide +kernel
theorem dX16_isClosed_135 : decode cX16_isClosed 135 = .ok (.iconst 0, 1) := by decide +kernel
theorem dX16_isClosed_136 : decode cX16_isClosed 136 = .ok (.istore_n 2, 1) := by decide +kernel
theorem dX16_isClosed_137 : decode cX16_isClosed 137 = .ok (.goto (-127), 3) := by decide +kernel
theorem dX16_isClosed_140 : decode cX16_isClosed 140 = .ok (.iload_n 2, 1) := by decide +kernel
theorem dX16_isClosed_141 : decode cX16_isClosed 141 = .ok (.ireturn, 1) := by decide +kernel
theorem dX16_isAnswer_0 : decode cX16_isAnswer 0 = .ok (.aload_n 0, 1) := by decide +kernel
theorem dX16_isAnswer_1 : decode cX16_isAnswer 1 = .ok (.iload_n 1, 1) := by decide +kernel
theorem dX16_isAnswer_2 : decode cX16_isAnswer 2 = .ok (.invokevirtual 329, 3) := by decide +kernel
theorem dX16_isAnswer_5 : decode cX16_isAnswer 5 = .ok (.ifCond .ne 5, 3) := by decide +kernel
theorem dX16_isAnswer_8 : decode cX16_isAnswer 8 = .ok (.iconst 0, 1) := by decide +kernel
theorem dX16_isAnswer_9 : decode cX16_isAnswer 9 = .ok (.ireturn, 1) := by decide +kernel
theorem dX16_isAnswer_10 : decode cX16_isAnswer 10 = .ok (.iload_n 1, 1) := by decide +kernel
theorem dX16_isAnswer_11 : decode cX16_isAnswer 11 = .ok (.istore_n 2, 1) := by decide +kernel
theorem dX16_isAnswer_12 : decode cX16_isAnswer 12 = .ok (.iload_n 2, 1) := by decide +kernel
theorem dX16_isAnswer_13 : decode cX16_isAnswer 13 = .ok (.ifCond .eq 30, 3) := by decide +kernel
theorem dX16_isAnswer_16 : decode cX16_isAnswer 16 = .ok (.aload_n 0, 1) := by decide +kernel
theorem dX16_isAnswer_17 : decode cX16_isAnswer 17 = .ok (.iload_n 1, 1) := by decide +kernel
theorem dX16_isAnswer_18 : decode cX16_isAnswer 18 = .ok (.iload_n 2, 1) := by decide +kernel
theorem dX16_isAnswer_19 : decode cX16_isAnswer 19 = .ok (.iload_n 2, 1) := by decide +kernel
theorem dX16_isAnswer_20 : decode cX16_isAnswer 20 = .ok (.ineg, 1) := by decide +kernel
theorem dX16_isAnswer_21 : decode cX16_isAnswer 21 = .ok (.iand, 1) := by decide +kernel
theorem dX16_isAnswer_22 : decode cX16_isAnswer 22 = .ok (.iconst (-1), 1) := by decide +kernel
theorem dX16_isAnswer_23 : decode cX16_isAnswer 23 = .ok (.ixor, 1) := by decide +kernel
theorem dX16_isAnswer_24 : decode cX16_isAnswer 24 = .ok (.iand, 1) := by decide +kernel
theorem dX16_isAnswer_25 : decode cX16_isAnswer 25 = .ok (.iload_n 1, 1) := by decide +kernel
theorem dX16_isAnswer_26 : decode cX16_isAnswer 26 = .ok (.invokevirtual 332, 3) := by decide +kernel
theorem dX16_isAnswer_29 : decode cX16_isAnswer 29 = .ok (.ifCond .eq 5, 3) := by decide +kernel
theorem dX16_isAnswer_32 : decode cX16_isAnswer 32 = .ok (.iconst 0, 1) := by decide +kernel
theorem dX16_isAnswer_33 : decode cX16_isAnswer 33 = .ok (.ireturn, 1) := by decide +kernel
theorem dX16_isAnswer_34 : decode cX16_isAnswer 34 = .ok (.iload_n 2, 1) := by decide +kernel
theorem dX16_isAnswer_35 : decode cX16_isAnswer 35 = .ok (.iload_n 2, 1) := by decide +kernel
theorem dX16_isAnswer_36 : decode cX16_isAnswer 36 = .ok (.iconst 1, 1) := by decide +kernel
theorem dX16_isAnswer_37 : decode cX16_isAnswer 37 = .ok (.isub, 1) := by decide +kernel
theorem dX16_isAnswer_38 : decode cX16_isAnswer 38 = .ok (.iand, 1) := by decide +kernel
theorem dX16_isAnswer_39 : decode cX16_isAnswer 39 = .ok (.istore_n 2, 1) := by decide +kernel
theorem dX16_isAnswer_40 : decode cX16_isAnswer 40 = .ok (.goto (-28), 3) := by decide +kernel
theorem dX16_isAnswer_43 : decode cX16_isAnswer 43 = .ok (.iconst 1, 1) := by decide +kernel
theorem dX16_isAnswer_44 : decode cX16_isAnswer 44 = .ok (.istore_n 2, 1) := by decide +kernel
theorem dX16_isAnswer_45 : decode cX16_isAnswer 45 = .ok (.iload_n 1, 1) := by decide +kernel
theorem dX16_isAnswer_46 : decode cX16_isAnswer 46 = .ok (.istore_n 3, 1) := by decide +kernel
theorem dX16_isAnswer_47 : decode cX16_isAnswer 47 = .ok (.iload_n 3, 1) := by decide +kernel
theorem dX16_isAnswer_48 : decode cX16_isAnswer 48 = .ok (.ifCond .eq 31, 3) := by decide +kernel
theorem dX16_isAnswer_51 : decode cX16_isAnswer 51 = .ok (.iload_n 2, 1) := by decide +kernel
theorem dX16_isAnswer_52 : decode cX16_isAnswer 52 = .ok (.ifCond .eq 27, 3) := by decide +kernel
theorem dX16_isAnswer_55 : decode cX16_isAnswer 55 = .ok (.iload_n 3, 1) := by decide +kernel
theorem dX16_isAnswer_56 : decode cX16_isAnswer 56 = .ok (.iconst 1, 1) := by decide +kernel
theorem dX16_isAnswer_57 : decode cX16_isAnswer 57 = .ok (.isub, 1) := by decide +kernel
theorem dX16_isAnswer_58 : decode cX16_isAnswer 58 = .ok (.iload_n 1, 1) := by decide +kernel
theorem dX16_isAnswer_59 : decode cX16_isAnswer 59 = .ok (.iand, 1) := by decide +kernel
theorem dX16_isAnswer_60 : decode cX16_isAnswer 60 = .ok (.istore_n 3, 1) := by decide +kernel
theorem dX16_isAnswer_61 : decode cX16_isAnswer 61 = .ok (.aload_n 0, 1) := by decide +kernel
theorem dX16_isAnswer_62 : decode cX16_isAnswer 62 = .ok (.iload_n 3, 1) := by decide +kernel
theorem dX16_isAnswer_63 : decode cX16_isAnswer 63 = .ok (.iload_n 1, 1) := by decide +kernel
theorem dX16_isAnswer_64 : decode cX16_isAnswer 64 = .ok (.invokevirtual 332, 3) := by decide +kernel
theorem dX16_isAnswer_67 : decode cX16_isAnswer 67 = .ok (.ifCond .ne 7, 3) := by decide +kernel
theorem dX16_isAnswer_70 : decode cX16_isAnswer 70 = .ok (.iconst 1, 1) := by decide +kernel
theorem dX16_isAnswer_71 : decode cX16_isAnswer 71 = .ok (.goto 4, 3) := by decide +kernel
theorem dX16_isAnswer_74 : decode cX16_isAnswer 74 = .ok (.iconst 0, 1) := by decide +kernel
theorem dX16_isAnswer_75 : decode cX16_isAnswer 75 = .ok (.istore_n 2, 1) := by decide +kernel
theorem dX16_isAnswer_76 : decode cX16_isAnswer 76 = .ok (.goto (-29), 3) := by decide +kernel
theorem dX16_isAnswer_79 : decode cX16_isAnswer 79 = .ok (.iload_n 2, 1) := by decide +kernel
theorem dX16_isAnswer_80 : decode cX16_isAnswer 80 = .ok (.ireturn, 1) := by decide +kernel
theorem dX16_walkByAll_0 : decode cX16_walkByAll 0 = .ok (.aload_n 0, 1) := by decide +kernel
theorem dX16_walkByAll_1 : decode cX16_walkByAll 1 = .ok (.iconst 0, 1) := by decide +kernel
theorem dX16_walkByAll_2 : decode cX16_walkByAll 2 = .ok (.putfield 65, 3) := by decide +kernel
theorem dX16_walkByAll_5 : decode cX16_walkByAll 5 = .ok (.aload_n 0, 1) := by decide +kernel
theorem dX16_walkByAll_6 : decode cX16_walkByAll 6 = .ok (.invokevirtual 306, 3) := by decide +kernel
theorem dX16_walkByAll_9 : decode cX16_walkByAll 9 = .ok (.aload_n 0, 1) := by decide +kernel
theorem dX16_walkByAll_10 : decode cX16_walkByAll 10 = .ok (.aload_n 0, 1) := by decide +kernel
theorem dX16_walkByAll_11 : decode cX16_walkByAll 11 = .ok (.getfield 296, 3) := by decide +kernel
theorem dX16_walkByAll_14 : decode cX16_walkByAll 14 = .ok (.bipush 7, 2) := by decide +kernel
theorem dX16_walkByAll_16 : decode cX16_walkByAll 16 = .ok (.if_icmp .gt 13, 3) := by decide +kernel
theorem dX16_walkByAll_19 : decode cX16_walkByAll 19 = .ok (.aload_n 0, 1) := by decide +kernel
theorem dX16_walkByAll_20 : decode cX16_walkByAll 20 = .ok (.getfield 261, 3) := by decide +kernel
theorem dX16_walkByAll_23 : decode cX16_walkByAll 23 = .ok (.sipush 300, 3) := by decide +kernel
theorem dX16_walkByAll_26 : decode cX16_walkByAll 26 = .ok (.if_icmp .le 7, 3) := by decide +kernel
theorem dX16_walkByAll_29 : decode cX16_walkByAll 29 = .ok (.iconst 1, 1) := by decide +kernel
theorem dX16_walkByAll_30 : decode cX16_walkByAll 30 = .ok (.goto 4, 3) := by decide +kernel
theorem dX16_walkByAll_33 : decode cX16_walkByAll 33 = .ok (.iconst 0, 1) := by decide +kernel
theorem dX16_walkByAll_34 : decode cX16_walkByAll 34 = .ok (.iconst 1, 1) := by decide +kernel
theorem dX16_walkByAll_35 : decode cX16_walkByAll 35 = .ok (.invokevirtual 87, 3) := by decide +kernel
theorem dX16_walkByAll_38 : decode cX16_walkByAll 38 = .ok (.ifCond .eq 5, 3) := by decide +kernel
theorem dX16_walkByAll_41 : decode cX16_walkByAll 41 = .ok (.iconst 0, 1) := by decide +kernel
theorem dX16_walkByAll_42 : decode cX16_walkByAll 42 = .ok (.ireturn, 1) := by decide +kernel
theorem dX16_walkByAll_43 : decode cX16_walkByAll 43 = .ok (.iconst 0, 1) := by decide +kernel
theorem dX16_walkByAll_44 : decode cX16_walkByAll 44 = .ok (.istore_n 1, 1) := by decide +kernel
theorem dX16_walkByAll_45 : decode cX16_walkByAll 45 = .ok (.aload_n 0, 1) := by decide +kernel
theorem dX16_walkByAll_46 : decode cX16_walkByAll 46 = .ok (.invokevirtual 344, 3) := by decide +kernel
theorem dX16_walkByAll_49 : decode cX16_walkByAll 49 = .ok (.istore_n 2, 1) := by decide +kernel
theorem dX16_walkByAll_50 : decode cX16_walkByAll 50 = .ok (.iconst 0, 1) := by decide +kernel
theorem dX16_walkByAll_51 : decode cX16_walkByAll 51 = .ok (.istore_n 3, 1) := by decide +kernel
theorem dX16_walkByAll_52 : decode cX16_walkByAll 52 = .ok (.iload_n 2, 1) := by decide +kernel
theorem dX16_walkByAll_53 : decode cX16_walkByAll 53 = .ok (.ifCond .eq 43, 3) := by decide +kernel
theorem dX16_walkByAll_56 : decode cX16_walkByAll 56 = .ok (.iload_n 3, 1) := by decide +kernel
theorem dX16_walkByAll_57 : decode cX16_walkByAll 57 = .ok (.iconst 1, 1) := by decide +kernel
theorem dX16_walkByAll_58 : decode cX16_walkByAll 58 = .ok (.aload_n 0, 1) := by decide +kernel
theorem dX16_walkByAll_59 : decode cX16_walkByAll 59 = .ok (.getfield 296, 3) := by decide +kernel
theorem dX16_walkByAll_62 : decode cX16_walkByAll 62 = .ok (.ishl, 1) := by decide +kernel
theorem dX16_walkByAll_63 : decode cX16_walkByAll 63 = .ok (.if_icmp .ge 33, 3) := by decide +kernel
theorem dX16_walkByAll_66 : decode cX16_walkByAll 66 = .ok (.iload_n 1, 1) := by decide +kernel
theorem dX16_walkByAll_67 : decode cX16_walkByAll 67 = .ok (.aload_n 0, 1) := by decide +kernel
theorem dX16_walkByAll_68 : decode cX16_walkByAll 68 = .ok (.iload_n 3, 1) := by decide +kernel
theorem dX16_walkByAll_69 : decode cX16_walkByAll 69 = .ok (.invokevirtual 347, 3) := by decide +kernel
theorem dX16_walkByAll_72 : decode cX16_walkByAll 72 = .ok (.ifCond .eq 15, 3) := by decide +kernel
theorem dX16_walkByAll_75 : decode cX16_walkByAll 75 = .ok (.aload_n 0, 1) := by decide +kernel
theorem dX16_walkByAll_76 : decode cX16_walkByAll 76 = .ok (.iload_n 3, 1) := by decide +kernel
theorem dX16_walkByAll_77 : decode cX16_walkByAll 77 = .ok (.invokevirtual 350, 3) := by decide +kernel
theorem dX16_walkByAll_80 : decode cX16_walkByAll 80 = .ok (.ifCond .eq 7, 3) := by decide +kernel
theorem dX16_walkByAll_83 : decode cX16_walkByAll 83 = .ok (.iconst 1, 1) := by decide +kernel
theorem dX16_walkByAll_84 : decode cX16_walkByAll 84 = .ok (.goto 4, 3) := by decide +kernel
theorem dX16_walkByAll_87 : decode cX16_walkByAll 87 = .ok (.iconst 0, 1) := by decide +kernel
theorem dX16_walkByAll_88 : decode cX16_walkByAll 88 = .ok (.iadd, 1) := by decide +kernel
theorem dX16_walkByAll_89 : decode cX16_walkByAll 89 = .ok (.istore_n 1, 1) := by decide +kernel
theorem dX16_walkByAll_90 : decode cX16_walkByAll 90 = .ok (.iinc 3 1, 3) := by decide +kernel
theorem dX16_walkByAll_93 : decode cX16_walkByAll 93 = .ok (.goto (-41), 3) := by decide +kernel
theorem dX16_walkByAll_96 : decode cX16_walkByAll 96 = .ok (.iload_n 1, 1) := by decide +kernel
theorem dX16_walkByAll_97 : decode cX16_walkByAll 97 = .ok (.ireturn, 1) := by decide +kernel
theorem dJx4a65c_clear_da8c8_0 : decode cJx4a65c_clear_da8c8 0 = .ok (.aload_n 0, 1) := by decide +kernel
theorem dJx4a65c_clear_da8c8_1 : decode cJx4a65c_clear_da8c8 1 = .ok (.dup, 1) := by decide +kernel
theorem dJx4a65c_clear_da8c8_2 : decode cJx4a65c_clear_da8c8 2 = .ok (.getfield 63, 3) := by decide +kernel
theorem dJx4a65c_clear_da8c8_5 : decode cJx4a65c_clear_da8c8 5 = .ok (.iconst 1, 1) := by decide +kernel
theorem dJx4a65c_clear_da8c8_6 : decode cJx4a65c_clear_da8c8 6 = .ok (.iadd, 1) := by decide +kernel
theorem dJx4a65c_clear_da8c8_7 : decode cJx4a65c_clear_da8c8 7 = .ok (.putfield 63, 3) := by decide +kernel
theorem dJx4a65c_clear_da8c8_10 : decode cJx4a65c_clear_da8c8 10 = .ok (.aload_n 0, 1) := by decide +kernel
theorem dJx4a65c_clear_da8c8_11 : decode cJx4a65c_clear_da8c8 11 = .ok (.getfield 9, 3) := by decide +kernel
theorem dJx4a65c_clear_da8c8_14 : decode cJx4a65c_clear_da8c8 14 = .ok (.astore_n 1, 1) := by decide +kernel
theorem dJx4a65c_clear_da8c8_15 : decode cJx4a65c_clear_da8c8 15 = .ok (.aload_n 0, 1) := by decide +kernel
theorem dJx4a65c_clear_da8c8_16 : decode cJx4a65c_clear_da8c8 16 = .ok (.getfield 48, 3) := by decide +kernel
theorem dJx4a65c_clear_da8c8_19 : decode cJx4a65c_clear_da8c8 19 = .ok (.istore_n 2, 1) := by decide +kernel
theorem dJx4a65c_clear_da8c8_20 : decode cJx4a65c_clear_da8c8 20 = .ok (.aload_n 0, 1) := by decide +kernel
theorem dJx4a65c_clear_da8c8_21 : decode cJx4a65c_clear_da8c8 21 = .ok (.iconst 0, 1) := by decide +kernel
theorem dJx4a65c_clear_da8c8_22 : decode cJx4a65c_clear_da8c8 22 = .ok (.dup_x1, 1) := by decide +kernel
theorem dJx4a65c_clear_da8c8_23 : decode cJx4a65c_clear_da8c8 23 = .ok (.putfield 48, 3) := by decide +kernel
theorem dJx4a65c_clear_da8c8_26 : decode cJx4a65c_clear_da8c8 26 = .ok (.istore_n 3, 1) := by decide +kernel
theorem dJx4a65c_clear_da8c8_27 : decode cJx4a65c_clear_da8c8 27 = .ok (.iload_n 3, 1) := by decide +kernel
theorem dJx4a65c_clear_da8c8_28 : decode cJx4a65c_clear_da8c8 28 = .ok (.iload_n 2, 1) := by decide +kernel
theorem dJx4a65c_clear_da8c8_29 : decode cJx4a65c_clear_da8c8 29 = .ok (.if_icmp .ge 13, 3) := by decide +kernel
theorem dJx4a65c_clear_da8c8_32 : decode cJx4a65c_clear_da8c8 32 = .ok (.aload_n 1, 1) := by decide +kernel
theorem dJx4a65c_clear_da8c8_33 : decode cJx4a65c_clear_da8c8 33 = .ok (.iload_n 3, 1) := by decide +kernel
theorem dJx4a65c_clear_da8c8_34 : decode cJx4a65c_clear_da8c8 34 = .ok (.aconst_null, 1) := by decide +kernel
theorem dJx4a65c_clear_da8c8_35 : decode cJx4a65c_clear_da8c8 35 = .ok (.aastore, 1) := by decide +kernel
theorem dJx4a65c_clear_da8c8_36 : decode cJx4a65c_clear_da8c8 36 = .ok (.iinc 3 1, 3) := by decide +kernel
theorem dJx4a65c_clear_da8c8_39 : decode cJx4a65c_clear_da8c8 39 = .ok (.goto (-12), 3) := by decide +kernel
theorem dJx4a65c_clear_da8c8_42 : decode cJx4a65c_clear_da8c8 42 = .ok (.return_, 1) := by decide +kernel
def vs_k_clear : List Cond := .code yJx4a65c_clear_da8c8 cJx4a65c_clear_da8c8 4 none :: ([.sameField "java/util/ArrayList" "java/util/AbstractList" "modCount" "I", .fieldLink RJx4a65c 63 "java/util/ArrayList" "modCount" "I", .fieldLink RJx4a65c 9 "java/util/ArrayList" "elementData" "[Ljava/lang/Object;", .fieldLink RJx4a65c 48 "java/util/ArrayList" "size" "I"] ++ (u_ws RJx4a65c TJx4a65c 3))
theorem iv_k_clear_Jx4a65c : ∀ w ∈ u_ws RJx4a65c TJx4a65c 3, w ∈ vs_k_clear := (fun _ h => List.mem_cons_of_mem _ (List.mem_append_right _ (h)))
set_option maxHeartbeats 4000000 in
set_option maxRecDepth 100000 in
theorem k_clear (l : Launch) (D : va_G) (ty : Nat → ClassId) (td mi sz : Nat) (h0 : Nat) (k9 : Int32) : Met l yJx4a65c_clear_da8c8 vs_k_clear { frames := 0, cells := 0, slots := 0, locals := 0 } (va_Pc [.ref h0] (wq_P D ty td mi [(h0, .inr (4, [.int k9, .ref td, .int 0]))] sz)) (va_Qv (fun u : va_W => ((u = [(h0, .inr (4, [.int (k9 + 1), .ref td, .int 0]))]))) (wq_B D (va_A [(h0, .inr (4, [.int k9, .ref td, .int 0]))] sz)) (va_A [(h0, .inr (4, [.int k9, .ref td, .int 0]))] sz)) 0 0 (va_A [(h0, .inr (4, [.int k9, .ref td, .int 0]))] sz) := by
  refine Met.ofW (cc := cJx4a65c_clear_da8c8) (maxL := 4) (ret := none) (by decide) rfl ?_
  intro p e s m args below meth c s₁ B hml hv
  obtain ⟨rfl, hsz, hP, hK, hD0, hE⟩ := hv
  have hx := B.exec
  have hb := B.bytes
  have hr := B.returns
  have hts := atoms_spec (ws := vs_k_clear) B.pre
  have hown : s.vm.findClass RJx4a65c = some m.cls := findClass_of_methodNamed B.named
  have hlocks := B.notSynchronized
  subst hsz
  have hD := hD0.self (sz := s.heap.size)
  generalize hAe : va_A [(h0, .inr (4, [.int k9, .ref td, .int 0]))] s.heap.size = A at hD hE ⊢
  have hA : ∀ q : Nat, s.heap.size ≤ q → A q := fun q h => by rw [← hAe]; exact Or.inr h
  have hS : va_S A s.heap s.heap [] := va_S.rf
  have hP : va_P D vwCl [(h0, .inr (4, [.int k9, .ref td, .int 0]))] s.heap := hP
  have hl := lv_entry ([.ref h0]) (n := 4) (Nat.le_of_ble_eq_true rfl)
  rw [lg_entry_eq]
  generalize (lg_sl ([.ref h0]) ++ List.replicate (4 - (lg_sl ([.ref h0])).length) Slot.unset).toArray = ls at hl ⊢
  have hl : lv_has ls 4 [(0, .ref h0)] := hl
  refine lv_aload_n hx hb dJx4a65c_clear_da8c8_0 rfl (lv_at hl 0 rfl) ?_
  refine lv_dup hx hb dJx4a65c_clear_da8c8_1 rfl ?_
  refine va_get (D := D) (ci := 4) (v := .int k9) (C := RJx4a65c) (T := TJx4a65c) (N := 3) hx hb hts iv_k_clear_Jx4a65c hown hK hP 0 rfl rfl 0 (by decide) (hts (.fieldLink RJx4a65c 63 "java/util/ArrayList" "modCount" "I") (by decide +kernel)) (fun x9 h9 => u_same (hts (.sameField "java/util/ArrayList" "java/util/AbstractList" "modCount" "I") (by decide +kernel)) x9 h9) rfl dJx4a65c_clear_da8c8_2 ?_
  refine lv_iconst (v := 1) hx hb dJx4a65c_clear_da8c8_5 (by decide) ?_
  refine lv_iadd hx hb dJx4a65c_clear_da8c8_6 ?_
  refine va_put (D := D) (ci := 4) (v := .int (k9 + 1)) (ty := tyJx4a65c 0) (C := RJx4a65c) (T := TJx4a65c) (N := 3) hx hb hts iv_k_clear_Jx4a65c tyJx4a65c tyJx4a65c_ok nmJx4a65c hown hK hP hD hS 0 rfl rfl 0 (by decide) (hts (.fieldLink RJx4a65c 63 "java/util/ArrayList" "modCount" "I") (by decide +kernel)) (fun x9 h9 => u_same (hts (.sameField "java/util/ArrayList" "java/util/AbstractList" "modCount" "I") (by decide +kernel)) x9 h9) rfl (by decide +kernel) rfl rfl (Nat.le_of_ble_eq_true rfl) dJx4a65c_clear_da8c8_7 (fun H locs hP hD hS => ?_)
  have hP : va_P D vwCl [(h0, .inr (4, [.int (k9 + 1), .ref td, .int 0]))] H := hP
  have hD : va_D A [(h0, .inr (4, [.int (k9 + 1), .ref td, .int 0]))] := hD
  refine lv_aload_n hx hb dJx4a65c_clear_da8c8_10 rfl (lv_at hl 0 rfl) ?_
  refine va_get (D := D) (ci := 4) (v := .ref td) (C := RJx4a65c) (T := TJx4a65c) (N := 3) hx hb hts iv_k_clear_Jx4a65c hown hK hP 0 rfl rfl 1 (by decide) (hts (.fieldLink RJx4a65c 9 "java/util/ArrayList" "elementData" "[Ljava/lang/Object;") (by decide +kernel)) (fun _ h9 => h9) rfl dJx4a65c_clear_da8c8_11 ?_
  refine lv_astore_n (lv' := [(1, .ref td), (0, .ref h0)]) hx hb dJx4a65c_clear_da8c8_14 rfl hl (by decide) rfl (fun ls hl => ?_)
  refine lv_aload_n hx hb dJx4a65c_clear_da8c8_15 rfl (lv_at hl 1 rfl) ?_
  refine va_get (D := D) (ci := 4) (v := .int 0) (C := RJx4a65c) (T := TJx4a65c) (N := 3) hx hb hts iv_k_clear_Jx4a65c hown hK hP 0 rfl rfl 2 (by decide) (hts (.fieldLink RJx4a65c 48 "java/util/ArrayList" "size" "I") (by decide +kernel)) (fun _ h9 => h9) rfl dJx4a65c_clear_da8c8_16 ?_
  refine lv_istore_n (lv' := [(2, .int 0), (1, .ref td), (0, .ref h0)]) hx hb dJx4a65c_clear_da8c8_19 rfl hl (by decide) rfl (fun ls hl => ?_)
  refine lv_aload_n hx hb dJx4a65c_clear_da8c8_20 rfl (lv_at hl 2 rfl) ?_
  refine lv_iconst (v := 0) hx hb dJx4a65c_clear_da8c8_21 (by decide) ?_
  refine lv_dup_x1 hx hb dJx4a65c_clear_da8c8_22 rfl rfl ?_
  refine va_put (D := D) (ci := 4) (v := .int 0) (ty := tyJx4a65c 2) (C := RJx4a65c) (T := TJx4a65c) (N := 3) hx hb hts iv_k_clear_Jx4a65c tyJx4a65c tyJx4a65c_ok nmJx4a65c hown hK hP hD hS 0 rfl rfl 2 (by decide) (hts (.fieldLink RJx4a65c 48 "java/util/ArrayList" "size" "I") (by decide +kernel)) (fun _ h9 => h9) rfl (by decide +kernel) rfl rfl (Nat.le_of_ble_eq_true rfl) dJx4a65c_clear_da8c8_23 (fun H locs hP hD hS => ?_)
  have hP : va_P D vwCl [(h0, .inr (4, [.int (k9 + 1), .ref td, .int 0]))] H := hP
  have hD : va_D A [(h0, .inr (4, [.int (k9 + 1), .ref td, .int 0]))] := hD
  refine lv_istore_n (lv' := [(3, .int 0), (2, .int 0), (1, .ref td), (0, .ref h0)]) hx hb dJx4a65c_clear_da8c8_26 rfl hl (by decide) rfl (fun ls hl => ?_)
  refine lv_iload_n hx hb dJx4a65c_clear_da8c8_27 rfl (lv_at hl 0 rfl) ?_
  refine lv_iload_n hx hb dJx4a65c_clear_da8c8_28 rfl (lv_at hl 1 rfl) ?_
  refine lv_icmp_ge (tgt := 42) hx hb dJx4a65c_clear_da8c8_29 (by decide) (fun _ => ?_) (fun c0 => absurd (by decide) c0)
  have hP9 := hP.sub (ws' := [(h0, .inr (4, [.int (k9 + 1), .ref td, .int 0]))]) [0] rfl
  have hD9 := hD.sub (ws' := [(h0, .inr (4, [.int (k9 + 1), .ref td, .int 0]))]) [0] (by decide) rfl
  refine W.widen (k := 0) (n := 0) (Nat.le_of_ble_eq_true rfl) (Nat.le_of_ble_eq_true rfl) ?_
  exact W.vret hx hb hr (fun t ht hW => ⟨⟨[(h0, .inr (4, [.int (k9 + 1), .ref td, .int 0]))], rfl, rfl, wq_B.of ht hP9 hD9⟩, hS.F ht⟩) hS.2.2 dJx4a65c_clear_da8c8_42
def vs_k_X16_externalOf : List Cond := .code yX16_externalOf cX16_externalOf 4 (some .int) :: ([.fieldLink RX16 182 "AnswerFoldModel" "externals" "I"] ++ (u_ws RX16 TX16 26))
theorem iv_k_X16_externalOf_X16 : ∀ w ∈ u_ws RX16 TX16 26, w ∈ vs_k_X16_externalOf := (fun _ h => List.mem_cons_of_mem _ (List.mem_append_right _ (h)))
set_option maxHeartbeats 4000000 in
set_option maxRecDepth 100000 in
theorem k_X16_externalOf (l : Launch) (D : va_G) (ty : Nat → ClassId) (td mi sz : Nat) (m0 : Nat) (m1 : Nat) (m2 : Nat) (m3 : Nat) (m4 : Nat) (m5 : Nat) (m6 : Nat) (m7 : Nat) (m8 : Nat) (m9 : Nat) (m10 : Nat) (m11 : Nat) (m12 : Nat) (m13 : Nat) (m14 : Nat) (m15 : Nat) (m16 : Nat) (k1 : Int32) (k2 : Int32) : Met l yX16_externalOf vs_k_X16_externalOf { frames := 0, cells := 0, slots := 0, locals := 0 } (va_Pc [.ref m0, .int k1] (wq_P D ty td mi [(m0, .inr (20, [.int 0, .int 0, .ref m1, .ref m2, .ref m3, .int 0, .ref m4, .ref m5, .ref m6, .int k2, .ref m7, .ref m8, .ref m9, .int 0, .ref m10, .int 0, .ref m11, .ref m12, .ref m13, .int 0, .ref m14, .int 0, .int 0, .int 0, .ref m15, .ref m16]))] sz)) (va_Qi (fun (r : Int32) (u : va_W) => (r = (-1) ∧ (u = [(m0, .inr (20, [.int 0, .int 0, .ref m1, .ref m2, .ref m3, .int 0, .ref m4, .ref m5, .ref m6, .int k2, .ref m7, .ref m8, .ref m9, .int 0, .ref m10, .int 0, .ref m11, .ref m12, .ref m13, .int 0, .ref m14, .int 0, .int 0, .int 0, .ref m15, .ref m16]))]))) (wq_B D (va_A [(m0, .inr (20, [.int 0, .int 0, .ref m1, .ref m2, .ref m3, .int 0, .ref m4, .ref m5, .ref m6, .int k2, .ref m7, .ref m8, .ref m9, .int 0, .ref m10, .int 0, .ref m11, .ref m12, .ref m13, .int 0, .ref m14, .int 0, .int 0, .int 0, .ref m15, .ref m16]))] sz)) (va_A [(m0, .inr (20, [.int 0, .int 0, .ref m1, .ref m2, .ref m3, .int 0, .ref m4, .ref m5, .ref m6, .int k2, .ref m7, .ref m8, .ref m9, .int 0, .ref m10, .int 0, .ref m11, .ref m12, .ref m13, .int 0, .ref m14, .int 0, .int 0, .int 0, .ref m15, .ref m16]))] sz)) 0 0 (va_A [(m0, .inr (20, [.int 0, .int 0, .ref m1, .ref m2, .ref m3, .int 0, .ref m4, .ref m5, .ref m6, .int k2, .ref m7, .ref m8, .ref m9, .int 0, .ref m10, .int 0, .ref m11, .ref m12, .ref m13, .int 0, .ref m14, .int 0, .int 0, .int 0, .ref m15, .ref m16]))] sz) := by
  refine Met.ofW (cc := cX16_externalOf) (maxL := 4) (ret := (some .int)) (by decide) rfl ?_
  intro p e s m args below meth c s₁ B hml hv
  obtain ⟨rfl, hsz, hP, hK, hD0, hE⟩ := hv
  have hx := B.exec
  have hb := B.bytes
  have hr := B.returns
  have hts := atoms_spec (ws := vs_k_X16_externalOf) B.pre
  have hown : s.vm.findClass RX16 = some m.cls := findClass_of_methodNamed B.named
  have hlocks := B.notSynchronized
  subst hsz
  have hD := hD0.self (sz := s.heap.size)
  generalize hAe : va_A [(m0, .inr (20, [.int 0, .int 0, .ref m1, .ref m2, .ref m3, .int 0, .ref m4, .ref m5, .ref m6, .int k2, .ref m7, .ref m8, .ref m9, .int 0, .ref m10, .int 0, .ref m11, .ref m12, .ref m13, .int 0, .ref m14, .int 0, .int 0, .int 0, .ref m15, .ref m16]))] s.heap.size = A at hD hE ⊢
  have hA : ∀ q : Nat, s.heap.size ≤ q → A q := fun q h => by rw [← hAe]; exact Or.inr h
  have hS : va_S A s.heap s.heap [] := va_S.rf
  have hP : va_P D vwCl [(m0, .inr (20, [.int 0, .int 0, .ref m1, .ref m2, .ref m3, .int 0, .ref m4, .ref m5, .ref m6, .int k2, .ref m7, .ref m8, .ref m9, .int 0, .ref m10, .int 0, .ref m11, .ref m12, .ref m13, .int 0, .ref m14, .int 0, .int 0, .int 0, .ref m15, .ref m16]))] s.heap := hP
  have hl := lv_entry ([.ref m0, .int k1]) (n := 4) (Nat.le_of_ble_eq_true rfl)
  rw [lg_entry_eq]
  generalize (lg_sl ([.ref m0, .int k1]) ++ List.replicate (4 - (lg_sl ([.ref m0, .int k1])).length) Slot.unset).toArray = ls at hl ⊢
  have hl : lv_has ls 4 [(0, .ref m0), (1, .int k1)] := hl
  refine lv_iconst (v := (-1)) hx hb dX16_externalOf_0 (by decide) ?_
  refine lv_istore_n (lv' := [(2, .int (-1)), (0, .ref m0), (1, .int k1)]) hx hb dX16_externalOf_1 rfl hl (by decide) rfl (fun ls hl => ?_)
  refine lv_iconst (v := 0) hx hb dX16_externalOf_2 (by decide) ?_
  refine lv_istore_n (lv' := [(3, .int 0), (2, .int (-1)), (0, .ref m0), (1, .int k1)]) hx hb dX16_externalOf_3 rfl hl (by decide) rfl (fun ls hl => ?_)
  refine lv_iload_n hx hb dX16_externalOf_4 rfl (lv_at hl 0 rfl) ?_
  refine lv_aload_n hx hb dX16_externalOf_5 rfl (lv_at hl 2 rfl) ?_
  refine va_get (D := D) (ci := 20) (v := .int 0) (C := RX16) (T := TX16) (N := 26) hx hb hts iv_k_X16_externalOf_X16 hown hK hP 0 rfl rfl 5 (by decide) (hts (.fieldLink RX16 182 "AnswerFoldModel" "externals" "I") (by decide +kernel)) (fun _ h9 => h9) rfl dX16_externalOf_6 ?_
  refine lv_icmp_ge (tgt := 34) hx hb dX16_externalOf_9 (by decide) (fun _ => ?_) (fun c0 => absurd (by decide) c0)
  refine lv_iload_n hx hb dX16_externalOf_34 rfl (lv_at hl 1 rfl) ?_
  have hP9 := hP.sub (ws' := [(m0, .inr (20, [.int 0, .int 0, .ref m1, .ref m2, .ref m3, .int 0, .ref m4, .ref m5, .ref m6, .int k2, .ref m7, .ref m8, .ref m9, .int 0, .ref m10, .int 0, .ref m11, .ref m12, .ref m13, .int 0, .ref m14, .int 0, .int 0, .int 0, .ref m15, .ref m16]))]) [0] rfl
  have hD9 := hD.sub (ws' := [(m0, .inr (20, [.int 0, .int 0, .ref m1, .ref m2, .ref m3, .int 0, .ref m4, .ref m5, .ref m6, .int k2, .ref m7, .ref m8, .ref m9, .int 0, .ref m10, .int 0, .ref m11, .ref m12, .ref m13, .int 0, .ref m14, .int 0, .int 0, .int 0, .ref m15, .ref m16]))]) [0] (by decide) rfl
  refine W.widen (k := 0) (n := 0) (Nat.le_of_ble_eq_true rfl) (Nat.le_of_ble_eq_true rfl) ?_
  exact W.iret (v := (-1)) hx hb hr (fun t ht hW => ⟨⟨(-1), [(m0, .inr (20, [.int 0, .int 0, .ref m1, .ref m2, .ref m3, .int 0, .ref m4, .ref m5, .ref m6, .int k2, .ref m7, .ref m8, .ref m9, .int 0, .ref m10, .int 0, .ref m11, .ref m12, .ref m13, .int 0, .ref m14, .int 0, .int 0, .int 0, .ref m15, .ref m16]))], rfl, ⟨rfl, rfl⟩, wq_B.of ht hP9 hD9⟩, hS.F ht⟩) hS.2.2 dX16_externalOf_35
def vs_k_X16_goThroughAll : List Cond := .code yX16_goThroughAll cX16_goThroughAll 8 (some .boolean) :: ([.fieldLink RX16 16 "AnswerFoldModel" "rules" "Ljava/util/ArrayList;", .methodLink RX16 76 yJx4a65c_size_8abf5, .instanceMethod yJx4a65c_size_8abf5, .selects RJx4a65c yJx4a65c_size_8abf5 yJx4a65c_size_8abf5, .initialized RJx4a65c] ++ (u_ws RX16 TX16 26 ++ (vs_k_size)))
theorem iv_k_X16_goThroughAll_X16 : ∀ w ∈ u_ws RX16 TX16 26, w ∈ vs_k_X16_goThroughAll := (fun _ h => List.mem_cons_of_mem _ (List.mem_append_right _ (List.mem_append_left _ h)))
set_option maxRecDepth 20000 in
theorem gv_k_X16_goThroughAll_0 : GoodIn vs_k_X16_goThroughAll (wsV RX16 76 RJx4a65c yJx4a65c_size_8abf5 vs_k_size) := goodIn_app (goodIn_sub (by decide +kernel) (by decide +kernel)) (goodIn_sub (fun _ h => List.mem_cons_of_mem _ (List.mem_append_right _ (List.mem_append_right _ (h)))) (by decide +kernel))
set_option maxHeartbeats 4000000 in
set_option maxRecDepth 100000 in
theorem k_X16_goThroughAll (l : Launch) (D : va_G) (ty : Nat → ClassId) (td mi sz : Nat) (m0 : Nat) (m1 : Nat) (m2 : Nat) (m3 : Nat) (m4 : Nat) (m5 : Nat) (m6 : Nat) (m7 : Nat) (m8 : Nat) (m9 : Nat) (m10 : Nat) (m11 : Nat) (m12 : Nat) (m13 : Nat) (m14 : Nat) (m15 : Nat) (m16 : Nat) (h1 : Nat) (k2 : Int32) : Met l yX16_goThroughAll vs_k_X16_goThroughAll { frames := 1, cells := 0, slots := 0, locals := 20 } (va_Pc [.ref m0, .ref h1] (wq_P D ty td mi [(m0, .inr (20, [.int 0, .int 0, .ref m1, .ref m2, .ref m3, .int 0, .ref m4, .ref m5, .ref m6, .int k2, .ref m7, .ref m8, .ref m9, .int 0, .ref m10, .int 0, .ref m11, .ref m12, .ref m13, .int 0, .ref m14, .int 0, .int 0, .int 0, .ref m15, .ref m16])), (m2, .inr (4, [.int 0, .ref td, .int 0]))] sz)) (va_Qi (fun (r : Int32) (u : va_W) => (r = 0 ∧ (u = [(m0, .inr (20, [.int 0, .int 0, .ref m1, .ref m2, .ref m3, .int 0, .ref m4, .ref m5, .ref m6, .int k2, .ref m7, .ref m8, .ref m9, .int 0, .ref m10, .int 0, .ref m11, .ref m12, .ref m13, .int 0, .ref m14, .int 0, .int 0, .int 0, .ref m15, .ref m16])), (m2, .inr (4, [.int 0, .ref td, .int 0]))]))) (wq_B D (va_A [(m0, .inr (20, [.int 0, .int 0, .ref m1, .ref m2, .ref m3, .int 0, .ref m4, .ref m5, .ref m6, .int k2, .ref m7, .ref m8, .ref m9, .int 0, .ref m10, .int 0, .ref m11, .ref m12, .ref m13, .int 0, .ref m14, .int 0, .int 0, .int 0, .ref m15, .ref m16])), (m2, .inr (4, [.int 0, .ref td, .int 0]))] sz)) (va_A [(m0, .inr (20, [.int 0, .int 0, .ref m1, .ref m2, .ref m3, .int 0, .ref m4, .ref m5, .ref m6, .int k2, .ref m7, .ref m8, .ref m9, .int 0, .ref m10, .int 0, .ref m11, .ref m12, .ref m13, .int 0, .ref m14, .int 0, .int 0, .int 0, .ref m15, .ref m16])), (m2, .inr (4, [.int 0, .ref td, .int 0]))] sz)) 0 0 (va_A [(m0, .inr (20, [.int 0, .int 0, .ref m1, .ref m2, .ref m3, .int 0, .ref m4, .ref m5, .ref m6, .int k2, .ref m7, .ref m8, .ref m9, .int 0, .ref m10, .int 0, .ref m11, .ref m12, .ref m13, .int 0, .ref m14, .int 0, .int 0, .int 0, .ref m15, .ref m16])), (m2, .inr (4, [.int 0, .ref td, .int 0]))] sz) := by
  refine Met.ofW (cc := cX16_goThroughAll) (maxL := 8) (ret := (some .boolean)) (by decide) rfl ?_
  intro p e s m args below meth c s₁ B hml hv
  obtain ⟨rfl, hsz, hP, hK, hD0, hE⟩ := hv
  have hx := B.exec
  have hb := B.bytes
  have hr := B.returns
  have hts := atoms_spec (ws := vs_k_X16_goThroughAll) B.pre
  have hown : s.vm.findClass RX16 = some m.cls := findClass_of_methodNamed B.named
  have hlocks := B.notSynchronized
  subst hsz
  have hD := hD0.self (sz := s.heap.size)
  generalize hAe : va_A [(m0, .inr (20, [.int 0, .int 0, .ref m1, .ref m2, .ref m3, .int 0, .ref m4, .ref m5, .ref m6, .int k2, .ref m7, .ref m8, .ref m9, .int 0, .ref m10, .int 0, .ref m11, .ref m12, .ref m13, .int 0, .ref m14, .int 0, .int 0, .int 0, .ref m15, .ref m16])), (m2, .inr (4, [.int 0, .ref td, .int 0]))] s.heap.size = A at hD hE ⊢
  have hA : ∀ q : Nat, s.heap.size ≤ q → A q := fun q h => by rw [← hAe]; exact Or.inr h
  have hS : va_S A s.heap s.heap [] := va_S.rf
  have hP : va_P D vwCl [(m0, .inr (20, [.int 0, .int 0, .ref m1, .ref m2, .ref m3, .int 0, .ref m4, .ref m5, .ref m6, .int k2, .ref m7, .ref m8, .ref m9, .int 0, .ref m10, .int 0, .ref m11, .ref m12, .ref m13, .int 0, .ref m14, .int 0, .int 0, .int 0, .ref m15, .ref m16])), (m2, .inr (4, [.int 0, .ref td, .int 0]))] s.heap := hP
  have hl := lv_entry ([.ref m0, .ref h1]) (n := 8) (Nat.le_of_ble_eq_true rfl)
  rw [lg_entry_eq]
  generalize (lg_sl ([.ref m0, .ref h1]) ++ List.replicate (8 - (lg_sl ([.ref m0, .ref h1])).length) Slot.unset).toArray = ls at hl ⊢
  have hl : lv_has ls 8 [(0, .ref m0), (1, .ref h1)] := hl
  refine lv_iconst (v := 0) hx hb dX16_goThroughAll_0 (by decide) ?_
  refine lv_istore_n (lv' := [(2, .int 0), (0, .ref m0), (1, .ref h1)]) hx hb dX16_goThroughAll_1 rfl hl (by decide) rfl (fun ls hl => ?_)
  refine lv_iconst (v := 0) hx hb dX16_goThroughAll_2 (by decide) ?_
  refine lv_istore_n (lv' := [(3, .int 0), (2, .int 0), (0, .ref m0), (1, .ref h1)]) hx hb dX16_goThroughAll_3 rfl hl (by decide) rfl (fun ls hl => ?_)
  refine lv_iload_n hx hb dX16_goThroughAll_4 rfl (lv_at hl 0 rfl) ?_
  refine lv_aload_n hx hb dX16_goThroughAll_5 rfl (lv_at hl 2 rfl) ?_
  refine va_get (D := D) (ci := 20) (v := .ref m2) (C := RX16) (T := TX16) (N := 26) hx hb hts iv_k_X16_goThroughAll_X16 hown hK hP 0 rfl rfl 3 (by decide) (hts (.fieldLink RX16 16 "AnswerFoldModel" "rules" "Ljava/util/ArrayList;") (by decide +kernel)) (fun _ h9 => h9) rfl dX16_goThroughAll_6 ?_
  refine wq_i (wc := [(m2, .inr (4, [.int 0, .ref td, .int 0]))]) (wr := [(m0, .inr (20, [.int 0, .int 0, .ref m1, .ref m2, .ref m3, .int 0, .ref m4, .ref m5, .ref m6, .int k2, .ref m7, .ref m8, .ref m9, .int 0, .ref m10, .int 0, .ref m11, .ref m12, .ref m13, .int 0, .ref m14, .int 0, .int 0, .int 0, .ref m15, .ref m16]))]) (va_runV (As := []) (rest := [.int 0]) ⟨hx, hb, hml, hown, hts⟩ (k_size l D ty td mi s.heap.size m2 td 0 0) (cwV 0 hts gv_k_X16_goThroughAll_0 rfl rfl rfl (by decide +kernel) ⟨(Nat.le_of_ble_eq_true rfl), (Nat.le_of_ble_eq_true rfl)⟩) (wq_preV hP hD hK hE hS hA [1] rfl (by decide) 1 4 rfl rfl) rfl rfl hl.1 rfl (lv_room (Nat.le_of_ble_eq_true rfl)) dX16_goThroughAll_9 ⟨(Nat.le_of_ble_eq_true rfl), (Nat.le_of_ble_eq_true rfl)⟩) hS hA hP hD [1] [0] rfl rfl (by decide) (by decide) (fun r u H locs hw hP hD hS => ?_)
  obtain ⟨rfl, rfl⟩ := hw
  have hP : va_P D vwCl [(m0, .inr (20, [.int 0, .int 0, .ref m1, .ref m2, .ref m3, .int 0, .ref m4, .ref m5, .ref m6, .int k2, .ref m7, .ref m8, .ref m9, .int 0, .ref m10, .int 0, .ref m11, .ref m12, .ref m13, .int 0, .ref m14, .int 0, .int 0, .int 0, .ref m15, .ref m16])), (m2, .inr (4, [.int 0, .ref td, .int 0]))] H := hP
  have hD : va_D A [(m0, .inr (20, [.int 0, .int 0, .ref m1, .ref m2, .ref m3, .int 0, .ref m4, .ref m5, .ref m6, .int k2, .ref m7, .ref m8, .ref m9, .int 0, .ref m10, .int 0, .ref m11, .ref m12, .ref m13, .int 0, .ref m14, .int 0, .int 0, .int 0, .ref m15, .ref m16])), (m2, .inr (4, [.int 0, .ref td, .int 0]))] := hD
  refine W.widen (k := 0) (n := 0) (Nat.le_of_ble_eq_true rfl) (Nat.le_of_ble_eq_true rfl) ?_
  refine lv_icmp_ge (tgt := 197) hx hb dX16_goThroughAll_12 (by decide) (fun _ => ?_) (fun c0 => absurd (by decide) c0)
  refine lv_iload_n hx hb dX16_goThroughAll_197 rfl (lv_at hl 1 rfl) ?_
  have hP9 := hP.sub (ws' := [(m0, .inr (20, [.int 0, .int 0, .ref m1, .ref m2, .ref m3, .int 0, .ref m4, .ref m5, .ref m6, .int k2, .ref m7, .ref m8, .ref m9, .int 0, .ref m10, .int 0, .ref m11, .ref m12, .ref m13, .int 0, .ref m14, .int 0, .int 0, .int 0, .ref m15, .ref m16])), (m2, .inr (4, [.int 0, .ref td, .int 0]))]) [0, 1] rfl
  have hD9 := hD.sub (ws' := [(m0, .inr (20, [.int 0, .int 0, .ref m1, .ref m2, .ref m3, .int 0, .ref m4, .ref m5, .ref m6, .int k2, .ref m7, .ref m8, .ref m9, .int 0, .ref m10, .int 0, .ref m11, .ref m12, .ref m13, .int 0, .ref m14, .int 0, .int 0, .int 0, .ref m15, .ref m16])), (m2, .inr (4, [.int 0, .ref td, .int 0]))]) [0, 1] (by decide) rfl
  refine W.widen (k := 0) (n := 0) (Nat.le_of_ble_eq_true rfl) (Nat.le_of_ble_eq_true rfl) ?_
  exact W.zret (v := 0) hx hb hr rfl (fun t ht hW => ⟨⟨0, [(m0, .inr (20, [.int 0, .int 0, .ref m1, .ref m2, .ref m3, .int 0, .ref m4, .ref m5, .ref m6, .int k2, .ref m7, .ref m8, .ref m9, .int 0, .ref m10, .int 0, .ref m11, .ref m12, .ref m13, .int 0, .ref m14, .int 0, .int 0, .int 0, .ref m15, .ref m16])), (m2, .inr (4, [.int 0, .ref td, .int 0]))], rfl, ⟨rfl, rfl⟩, wq_B.of ht hP9 hD9⟩, hS.F ht⟩) hS.2.2 dX16_goThroughAll_198
def vs_k_X16_groundAll : List Cond := .code yX16_groundAll cX16_groundAll 3 none :: ([.fieldLink RX16 80 "AnswerFoldModel" "isGround" "Z", .fieldLink RX16 43 "AnswerFoldModel" "kept" "Ljava/util/ArrayList;", .methodLink RX16 293 yJx4a65c_clear_da8c8, .instanceMethod yJx4a65c_clear_da8c8, .selects RJx4a65c yJx4a65c_clear_da8c8 yJx4a65c_clear_da8c8, .initialized RJx4a65c, .fieldLink RX16 296 "AnswerFoldModel" "openMany" "I", .fieldLink RX16 261 "AnswerFoldModel" "keptAll" "I", .fieldLink RX16 40 "AnswerFoldModel" "keptOf" "[I", .fieldLink RX16 233 "AnswerFoldModel$Deed" "SURE" "LAnswerFoldModel$Deed;", .methodLink RX16 299 yX16_goThroughAll, .instanceMethod yX16_goThroughAll, .selects RX16 yX16_goThroughAll yX16_goThroughAll, .initialized RX16, .fieldLink RX16 303 "AnswerFoldModel$Deed" "POSSIBLE" "LAnswerFoldModel$Deed;", .fieldLink RX16 247 "AnswerFoldModel$Deed" "KEEP" "LAnswerFoldModel$Deed;", .fieldLink RX16 49 "AnswerFoldModel" "bitOf" "[I", .fieldLink RX16 37 "AnswerFoldModel" "possible" "[Z", .methodLink RX16 192 yX16_externalOf, .instanceMethod yX16_externalOf, .selects RX16 yX16_externalOf yX16_externalOf, .fieldLink RX16 33 "AnswerFoldModel" "sure" "[Z"] ++ (u_ws RX16 TX16 26 ++ (vs_k_clear ++ (vs_k_X16_goThroughAll ++ (vs_k_X16_externalOf)))))
theorem iv_k_X16_groundAll_X16 : ∀ w ∈ u_ws RX16 TX16 26, w ∈ vs_k_X16_groundAll := (fun _ h => List.mem_cons_of_mem _ (List.mem_append_right _ (List.mem_append_left _ h)))
set_option maxRecDepth 20000 in
theorem gv_k_X16_groundAll_0 : GoodIn vs_k_X16_groundAll (wsV RX16 293 RJx4a65c yJx4a65c_clear_da8c8 vs_k_clear) := goodIn_app (goodIn_sub (by decide +kernel) (by decide +kernel)) (goodIn_sub (fun _ h => List.mem_cons_of_mem _ (List.mem_append_right _ (List.mem_append_right _ (List.mem_append_left _ h)))) (by decide +kernel))
set_option maxRecDepth 20000 in
theorem gv_k_X16_groundAll_1 : GoodIn vs_k_X16_groundAll (wsV RX16 299 RX16 yX16_goThroughAll vs_k_X16_goThroughAll) := goodIn_app (goodIn_sub (by decide +kernel) (by decide +kernel)) (goodIn_sub (fun _ h => List.mem_cons_of_mem _ (List.mem_append_right _ (List.mem_append_right _ (List.mem_append_right _ (List.mem_append_left _ h))))) (by decide +kernel))
set_option maxRecDepth 20000 in
theorem gv_k_X16_groundAll_2 : GoodIn vs_k_X16_groundAll (wsV RX16 299 RX16 yX16_goThroughAll vs_k_X16_goThroughAll) := goodIn_app (goodIn_sub (by decide +kernel) (by decide +kernel)) (goodIn_sub (fun _ h => List.mem_cons_of_mem _ (List.mem_append_right _ (List.mem_append_right _ (List.mem_append_right _ (List.mem_append_left _ h))))) (by decide +kernel))
set_option maxRecDepth 20000 in
theorem gv_k_X16_groundAll_3 : GoodIn vs_k_X16_groundAll (wsV RX16 299 RX16 yX16_goThroughAll vs_k_X16_goThroughAll) := goodIn_app (goodIn_sub (by decide +kernel) (by decide +kernel)) (goodIn_sub (fun _ h => List.mem_cons_of_mem _ (List.mem_append_right _ (List.mem_append_right _ (List.mem_append_right _ (List.mem_append_left _ h))))) (by decide +kernel))
set_option maxRecDepth 20000 in
theorem gv_k_X16_groundAll_4 : GoodIn vs_k_X16_groundAll (wsV RX16 192 RX16 yX16_externalOf vs_k_X16_externalOf) := goodIn_app (goodIn_sub (by decide +kernel) (by decide +kernel)) (goodIn_sub (fun _ h => List.mem_cons_of_mem _ (List.mem_append_right _ (List.mem_append_right _ (List.mem_append_right _ (List.mem_append_right _ (h)))))) (by decide +kernel))
set_option maxHeartbeats 4000000 in
set_option maxRecDepth 100000 in
theorem k_X16_groundAll (l : Launch) (D : va_G) (ty : Nat → ClassId) (td mi sz : Nat) (m0 : Nat) (m1 : Nat) (m2 : Nat) (m3 : Nat) (m4 : Nat) (m5 : Nat) (m6 : Nat) (m7 : Nat) (m8 : Nat) (m9 : Nat) (m10 : Nat) (m11 : Nat) (m12 : Nat) (m13 : Nat) (m14 : Nat) (m15 : Nat) (m16 : Nat) : Met l yX16_groundAll vs_k_X16_groundAll { frames := 2, cells := 0, slots := 0, locals := 47 } (va_Pc [.ref m0] (wq_P D ty td mi [(m0, .inr (20, [.int 0, .int 0, .ref m1, .ref m2, .ref m3, .int 0, .ref m4, .ref m5, .ref m6, .int 0, .ref m7, .ref m8, .ref m9, .int 0, .ref m10, .int 0, .ref m11, .ref m12, .ref m13, .int 0, .ref m14, .int 0, .int 0, .int 0, .ref m15, .ref m16])), (m10, .inr (4, [.int 0, .ref td, .int 0])), (m7, .inl (ty 3, 384, .inl (fun _ => 0))), (m8, .inl (ty 3, 384, .inl (fun _ => 0))), (m9, .inl (ty 0, 20, .inl (fun _ => 0))), (m12, .inl (ty 0, 384, .inl (fun _ => 0))), (m2, .inr (4, [.int 0, .ref td, .int 0]))] sz)) (va_Qv (fun u : va_W => ((u = [(m7, .inl (ty 3, 384, .inl (fun _ => 0))), (m8, .inl (ty 3, 384, .inl (fun _ => 0))), (m9, .inl (ty 0, 20, .inl (fun _ => 0))), (m12, .inl (ty 0, 384, .inl (fun j => if j < 384 then (-1) else 0))), (m10, .inr (4, [.int (0 + 1), .ref td, .int 0])), (m0, .inr (20, [.int 0, .int 0, .ref m1, .ref m2, .ref m3, .int 0, .ref m4, .ref m5, .ref m6, .int 1, .ref m7, .ref m8, .ref m9, .int 0, .ref m10, .int 0, .ref m11, .ref m12, .ref m13, .int 0, .ref m14, .int 0, .int 0, .int 0, .ref m15, .ref m16])), (m2, .inr (4, [.int 0, .ref td, .int 0]))]))) (wq_B D (va_A [(m0, .inr (20, [.int 0, .int 0, .ref m1, .ref m2, .ref m3, .int 0, .ref m4, .ref m5, .ref m6, .int 0, .ref m7, .ref m8, .ref m9, .int 0, .ref m10, .int 0, .ref m11, .ref m12, .ref m13, .int 0, .ref m14, .int 0, .int 0, .int 0, .ref m15, .ref m16])), (m10, .inr (4, [.int 0, .ref td, .int 0])), (m7, .inl (ty 3, 384, .inl (fun _ => 0))), (m8, .inl (ty 3, 384, .inl (fun _ => 0))), (m9, .inl (ty 0, 20, .inl (fun _ => 0))), (m12, .inl (ty 0, 384, .inl (fun _ => 0))), (m2, .inr (4, [.int 0, .ref td, .int 0]))] sz)) (va_A [(m0, .inr (20, [.int 0, .int 0, .ref m1, .ref m2, .ref m3, .int 0, .ref m4, .ref m5, .ref m6, .int 0, .ref m7, .ref m8, .ref m9, .int 0, .ref m10, .int 0, .ref m11, .ref m12, .ref m13, .int 0, .ref m14, .int 0, .int 0, .int 0, .ref m15, .ref m16])), (m10, .inr (4, [.int 0, .ref td, .int 0])), (m7, .inl (ty 3, 384, .inl (fun _ => 0))), (m8, .inl (ty 3, 384, .inl (fun _ => 0))), (m9, .inl (ty 0, 20, .inl (fun _ => 0))), (m12, .inl (ty 0, 384, .inl (fun _ => 0))), (m2, .inr (4, [.int 0, .ref td, .int 0]))] sz)) 0 0 (va_A [(m0, .inr (20, [.int 0, .int 0, .ref m1, .ref m2, .ref m3, .int 0, .ref m4, .ref m5, .ref m6, .int 0, .ref m7, .ref m8, .ref m9, .int 0, .ref m10, .int 0, .ref m11, .ref m12, .ref m13, .int 0, .ref m14, .int 0, .int 0, .int 0, .ref m15, .ref m16])), (m10, .inr (4, [.int 0, .ref td, .int 0])), (m7, .inl (ty 3, 384, .inl (fun _ => 0))), (m8, .inl (ty 3, 384, .inl (fun _ => 0))), (m9, .inl (ty 0, 20, .inl (fun _ => 0))), (m12, .inl (ty 0, 384, .inl (fun _ => 0))), (m2, .inr (4, [.int 0, .ref td, .int 0]))] sz) := by
  refine Met.ofW (cc := cX16_groundAll) (maxL := 3) (ret := none) (by decide) rfl ?_
  intro p e s m args below meth c s₁ B hml hv
  obtain ⟨rfl, hsz, hP, hK, hD0, hE⟩ := hv
  have hx := B.exec
  have hb := B.bytes
  have hr := B.returns
  have hts := atoms_spec (ws := vs_k_X16_groundAll) B.pre
  have hown : s.vm.findClass RX16 = some m.cls := findClass_of_methodNamed B.named
  have hlocks := B.notSynchronized
  subst hsz
  have hD := hD0.self (sz := s.heap.size)
  generalize hAe : va_A [(m0, .inr (20, [.int 0, .int 0, .ref m1, .ref m2, .ref m3, .int 0, .ref m4, .ref m5, .ref m6, .int 0, .ref m7, .ref m8, .ref m9, .int 0, .ref m10, .int 0, .ref m11, .ref m12, .ref m13, .int 0, .ref m14, .int 0, .int 0, .int 0, .ref m15, .ref m16])), (m10, .inr (4, [.int 0, .ref td, .int 0])), (m7, .inl (ty 3, 384, .inl (fun _ => 0))), (m8, .inl (ty 3, 384, .inl (fun _ => 0))), (m9, .inl (ty 0, 20, .inl (fun _ => 0))), (m12, .inl (ty 0, 384, .inl (fun _ => 0))), (m2, .inr (4, [.int 0, .ref td, .int 0]))] s.heap.size = A at hD hE ⊢
  have hA : ∀ q : Nat, s.heap.size ≤ q → A q := fun q h => by rw [← hAe]; exact Or.inr h
  have hS : va_S A s.heap s.heap [] := va_S.rf
  have hP : va_P D vwCl [(m0, .inr (20, [.int 0, .int 0, .ref m1, .ref m2, .ref m3, .int 0, .ref m4, .ref m5, .ref m6, .int 0, .ref m7, .ref m8, .ref m9, .int 0, .ref m10, .int 0, .ref m11, .ref m12, .ref m13, .int 0, .ref m14, .int 0, .int 0, .int 0, .ref m15, .ref m16])), (m10, .inr (4, [.int 0, .ref td, .int 0])), (m7, .inl (ty 3, 384, .inl (fun _ => 0))), (m8, .inl (ty 3, 384, .inl (fun _ => 0))), (m9, .inl (ty 0, 20, .inl (fun _ => 0))), (m12, .inl (ty 0, 384, .inl (fun _ => 0))), (m2, .inr (4, [.int 0, .ref td, .int 0]))] s.heap := hP
  have hl := lv_entry ([.ref m0]) (n := 3) (Nat.le_of_ble_eq_true rfl)
  rw [lg_entry_eq]
  generalize (lg_sl ([.ref m0]) ++ List.replicate (3 - (lg_sl ([.ref m0])).length) Slot.unset).toArray = ls at hl ⊢
  have hl : lv_has ls 3 [(0, .ref m0)] := hl
  refine lv_aload_n hx hb dX16_groundAll_0 rfl (lv_at hl 0 rfl) ?_
  refine va_get (D := D) (ci := 20) (v := .int 0) (C := RX16) (T := TX16) (N := 26) hx hb hts iv_k_X16_groundAll_X16 hown hK hP 0 rfl rfl 9 (by decide) (hts (.fieldLink RX16 80 "AnswerFoldModel" "isGround" "Z") (by decide +kernel)) (fun _ h9 => h9) rfl dX16_groundAll_1 ?_
  refine lv_if_eq (tgt := 8) hx hb dX16_groundAll_4 (by decide) (fun _ => ?_) (fun c0 => absurd (by decide) c0)
  refine lv_aload_n hx hb dX16_groundAll_8 rfl (lv_at hl 0 rfl) ?_
  refine lv_iconst (v := 1) hx hb dX16_groundAll_9 (by decide) ?_
  refine va_put (D := D) (ci := 20) (v := .int 1) (ty := tyX16 9) (C := RX16) (T := TX16) (N := 26) hx hb hts iv_k_X16_groundAll_X16 tyX16 tyX16_ok nmX16 hown hK hP hD hS 0 rfl rfl 9 (by decide) (hts (.fieldLink RX16 80 "AnswerFoldModel" "isGround" "Z") (by decide +kernel)) (fun _ h9 => h9) rfl (by decide +kernel) rfl rfl (Nat.le_of_ble_eq_true rfl) dX16_groundAll_10 (fun H locs hP hD hS => ?_)
  have hP : va_P D vwCl [(m0, .inr (20, [.int 0, .int 0, .ref m1, .ref m2, .ref m3, .int 0, .ref m4, .ref m5, .ref m6, .int 1, .ref m7, .ref m8, .ref m9, .int 0, .ref m10, .int 0, .ref m11, .ref m12, .ref m13, .int 0, .ref m14, .int 0, .int 0, .int 0, .ref m15, .ref m16])), (m10, .inr (4, [.int 0, .ref td, .int 0])), (m7, .inl (ty 3, 384, .inl (fun _ => 0))), (m8, .inl (ty 3, 384, .inl (fun _ => 0))), (m9, .inl (ty 0, 20, .inl (fun _ => 0))), (m12, .inl (ty 0, 384, .inl (fun _ => 0))), (m2, .inr (4, [.int 0, .ref td, .int 0]))] H := hP
  have hD : va_D A [(m0, .inr (20, [.int 0, .int 0, .ref m1, .ref m2, .ref m3, .int 0, .ref m4, .ref m5, .ref m6, .int 1, .ref m7, .ref m8, .ref m9, .int 0, .ref m10, .int 0, .ref m11, .ref m12, .ref m13, .int 0, .ref m14, .int 0, .int 0, .int 0, .ref m15, .ref m16])), (m10, .inr (4, [.int 0, .ref td, .int 0])), (m7, .inl (ty 3, 384, .inl (fun _ => 0))), (m8, .inl (ty 3, 384, .inl (fun _ => 0))), (m9, .inl (ty 0, 20, .inl (fun _ => 0))), (m12, .inl (ty 0, 384, .inl (fun _ => 0))), (m2, .inr (4, [.int 0, .ref td, .int 0]))] := hD
  refine lv_aload_n hx hb dX16_groundAll_13 rfl (lv_at hl 0 rfl) ?_
  refine va_get (D := D) (ci := 20) (v := .ref m10) (C := RX16) (T := TX16) (N := 26) hx hb hts iv_k_X16_groundAll_X16 hown hK hP 0 rfl rfl 14 (by decide) (hts (.fieldLink RX16 43 "AnswerFoldModel" "kept" "Ljava/util/ArrayList;") (by decide +kernel)) (fun _ h9 => h9) rfl dX16_groundAll_14 ?_
  refine wq_v (wc := [(m10, .inr (4, [.int 0, .ref td, .int 0]))]) (wr := [(m0, .inr (20, [.int 0, .int 0, .ref m1, .ref m2, .ref m3, .int 0, .ref m4, .ref m5, .ref m6, .int 1, .ref m7, .ref m8, .ref m9, .int 0, .ref m10, .int 0, .ref m11, .ref m12, .ref m13, .int 0, .ref m14, .int 0, .int 0, .int 0, .ref m15, .ref m16])), (m7, .inl (ty 3, 384, .inl (fun _ => 0))), (m8, .inl (ty 3, 384, .inl (fun _ => 0))), (m9, .inl (ty 0, 20, .inl (fun _ => 0))), (m12, .inl (ty 0, 384, .inl (fun _ => 0))), (m2, .inr (4, [.int 0, .ref td, .int 0]))]) (va_runV (As := []) (rest := []) ⟨hx, hb, hml, hown, hts⟩ (k_clear l D ty td mi H.size m10 0) (cwV 0 hts gv_k_X16_groundAll_0 rfl rfl rfl (by decide +kernel) ⟨(Nat.le_of_ble_eq_true rfl), (Nat.le_of_ble_eq_true rfl)⟩) (wq_preV hP hD hK hE hS hA [1] rfl (by decide) 1 4 rfl rfl) rfl rfl hl.1 rfl (lv_room (Nat.le_of_ble_eq_true rfl)) dX16_groundAll_17 ⟨(Nat.le_of_ble_eq_true rfl), (Nat.le_of_ble_eq_true rfl)⟩) hS hA hP hD [1] [0, 2, 3, 4, 5, 6] rfl rfl (by decide) (by decide) (fun u H locs hw hP hD hS => ?_)
  obtain rfl := hw
  have hP : va_P D vwCl [(m0, .inr (20, [.int 0, .int 0, .ref m1, .ref m2, .ref m3, .int 0, .ref m4, .ref m5, .ref m6, .int 1, .ref m7, .ref m8, .ref m9, .int 0, .ref m10, .int 0, .ref m11, .ref m12, .ref m13, .int 0, .ref m14, .int 0, .int 0, .int 0, .ref m15, .ref m16])), (m7, .inl (ty 3, 384, .inl (fun _ => 0))), (m8, .inl (ty 3, 384, .inl (fun _ => 0))), (m9, .inl (ty 0, 20, .inl (fun _ => 0))), (m12, .inl (ty 0, 384, .inl (fun _ => 0))), (m2, .inr (4, [.int 0, .ref td, .int 0])), (m10, .inr (4, [.int (0 + 1), .ref td, .int 0]))] H := hP
  have hD : va_D A [(m0, .inr (20, [.int 0, .int 0, .ref m1, .ref m2, .ref m3, .int 0, .ref m4, .ref m5, .ref m6, .int 1, .ref m7, .ref m8, .ref m9, .int 0, .ref m10, .int 0, .ref m11, .ref m12, .ref m13, .int 0, .ref m14, .int 0, .int 0, .int 0, .ref m15, .ref m16])), (m7, .inl (ty 3, 384, .inl (fun _ => 0))), (m8, .inl (ty 3, 384, .inl (fun _ => 0))), (m9, .inl (ty 0, 20, .inl (fun _ => 0))), (m12, .inl (ty 0, 384, .inl (fun _ => 0))), (m2, .inr (4, [.int 0, .ref td, .int 0])), (m10, .inr (4, [.int (0 + 1), .ref td, .int 0]))] := hD
  refine W.widen (k := 0) (n := 0) (Nat.le_of_ble_eq_true rfl) (Nat.le_of_ble_eq_true rfl) ?_
  refine lv_aload_n hx hb dX16_groundAll_20 rfl (lv_at hl 0 rfl) ?_
  refine lv_iconst (v := 0) hx hb dX16_groundAll_21 (by decide) ?_
  refine va_put (D := D) (ci := 20) (v := .int 0) (ty := tyX16 15) (C := RX16) (T := TX16) (N := 26) hx hb hts iv_k_X16_groundAll_X16 tyX16 tyX16_ok nmX16 hown hK hP hD hS 0 rfl rfl 15 (by decide) (hts (.fieldLink RX16 296 "AnswerFoldModel" "openMany" "I") (by decide +kernel)) (fun _ h9 => h9) rfl (by decide +kernel) rfl rfl (Nat.le_of_ble_eq_true rfl) dX16_groundAll_22 (fun H locs hP hD hS => ?_)
  have hP : va_P D vwCl [(m0, .inr (20, [.int 0, .int 0, .ref m1, .ref m2, .ref m3, .int 0, .ref m4, .ref m5, .ref m6, .int 1, .ref m7, .ref m8, .ref m9, .int 0, .ref m10, .int 0, .ref m11, .ref m12, .ref m13, .int 0, .ref m14, .int 0, .int 0, .int 0, .ref m15, .ref m16])), (m7, .inl (ty 3, 384, .inl (fun _ => 0))), (m8, .inl (ty 3, 384, .inl (fun _ => 0))), (m9, .inl (ty 0, 20, .inl (fun _ => 0))), (m12, .inl (ty 0, 384, .inl (fun _ => 0))), (m2, .inr (4, [.int 0, .ref td, .int 0])), (m10, .inr (4, [.int (0 + 1), .ref td, .int 0]))] H := hP
  have hD : va_D A [(m0, .inr (20, [.int 0, .int 0, .ref m1, .ref m2, .ref m3, .int 0, .ref m4, .ref m5, .ref m6, .int 1, .ref m7, .ref m8, .ref m9, .int 0, .ref m10, .int 0, .ref m11, .ref m12, .ref m13, .int 0, .ref m14, .int 0, .int 0, .int 0, .ref m15, .ref m16])), (m7, .inl (ty 3, 384, .inl (fun _ => 0))), (m8, .inl (ty 3, 384, .inl (fun _ => 0))), (m9, .inl (ty 0, 20, .inl (fun _ => 0))), (m12, .inl (ty 0, 384, .inl (fun _ => 0))), (m2, .inr (4, [.int 0, .ref td, .int 0])), (m10, .inr (4, [.int (0 + 1), .ref td, .int 0]))] := hD
  refine lv_aload_n hx hb dX16_groundAll_25 rfl (lv_at hl 0 rfl) ?_
  refine lv_iconst (v := 0) hx hb dX16_groundAll_26 (by decide) ?_
  refine va_put (D := D) (ci := 20) (v := .int 0) (ty := tyX16 13) (C := RX16) (T := TX16) (N := 26) hx hb hts iv_k_X16_groundAll_X16 tyX16 tyX16_ok nmX16 hown hK hP hD hS 0 rfl rfl 13 (by decide) (hts (.fieldLink RX16 261 "AnswerFoldModel" "keptAll" "I") (by decide +kernel)) (fun _ h9 => h9) rfl (by decide +kernel) rfl rfl (Nat.le_of_ble_eq_true rfl) dX16_groundAll_27 (fun H locs hP hD hS => ?_)
  have hP : va_P D vwCl [(m0, .inr (20, [.int 0, .int 0, .ref m1, .ref m2, .ref m3, .int 0, .ref m4, .ref m5, .ref m6, .int 1, .ref m7, .ref m8, .ref m9, .int 0, .ref m10, .int 0, .ref m11, .ref m12, .ref m13, .int 0, .ref m14, .int 0, .int 0, .int 0, .ref m15, .ref m16])), (m7, .inl (ty 3, 384, .inl (fun _ => 0))), (m8, .inl (ty 3, 384, .inl (fun _ => 0))), (m9, .inl (ty 0, 20, .inl (fun _ => 0))), (m12, .inl (ty 0, 384, .inl (fun _ => 0))), (m2, .inr (4, [.int 0, .ref td, .int 0])), (m10, .inr (4, [.int (0 + 1), .ref td, .int 0]))] H := hP
  have hD : va_D A [(m0, .inr (20, [.int 0, .int 0, .ref m1, .ref m2, .ref m3, .int 0, .ref m4, .ref m5, .ref m6, .int 1, .ref m7, .ref m8, .ref m9, .int 0, .ref m10, .int 0, .ref m11, .ref m12, .ref m13, .int 0, .ref m14, .int 0, .int 0, .int 0, .ref m15, .ref m16])), (m7, .inl (ty 3, 384, .inl (fun _ => 0))), (m8, .inl (ty 3, 384, .inl (fun _ => 0))), (m9, .inl (ty 0, 20, .inl (fun _ => 0))), (m12, .inl (ty 0, 384, .inl (fun _ => 0))), (m2, .inr (4, [.int 0, .ref td, .int 0])), (m10, .inr (4, [.int (0 + 1), .ref td, .int 0]))] := hD
  refine lv_iconst (v := 0) hx hb dX16_groundAll_30 (by decide) ?_
  refine lv_istore_n (lv' := [(1, .int 0), (0, .ref m0)]) hx hb dX16_groundAll_31 rfl hl (by decide) rfl (fun ls hl => ?_)
  have LOOP : ∀ (n i : Nat), i ≤ 384 → 384 - i < n → ∀ (H : Heap) (locs : List Loc), va_P D vwCl [(m0, .inr (20, [.int 0, .int 0, .ref m1, .ref m2, .ref m3, .int 0, .ref m4, .ref m5, .ref m6, .int 1, .ref m7, .ref m8, .ref m9, .int 0, .ref m10, .int 0, .ref m11, .ref m12, .ref m13, .int 0, .ref m14, .int 0, .int 0, .int 0, .ref m15, .ref m16])), (m7, .inl (ty 3, 384, .inl (fun _ => 0))), (m8, .inl (ty 3, 384, .inl (fun _ => 0))), (m9, .inl (ty 0, 20, .inl (fun _ => 0))), (m12, .inl (ty 0, 384, .inl (fun _ => 0))), (m2, .inr (4, [.int 0, .ref td, .int 0])), (m10, .inr (4, [.int (0 + 1), .ref td, .int 0]))] H → va_D A [(m0, .inr (20, [.int 0, .int 0, .ref m1, .ref m2, .ref m3, .int 0, .ref m4, .ref m5, .ref m6, .int 1, .ref m7, .ref m8, .ref m9, .int 0, .ref m10, .int 0, .ref m11, .ref m12, .ref m13, .int 0, .ref m14, .int 0, .int 0, .int 0, .ref m15, .ref m16])), (m7, .inl (ty 3, 384, .inl (fun _ => 0))), (m8, .inl (ty 3, 384, .inl (fun _ => 0))), (m9, .inl (ty 0, 20, .inl (fun _ => 0))), (m12, .inl (ty 0, 384, .inl (fun _ => 0))), (m2, .inr (4, [.int 0, .ref td, .int 0])), (m10, .inr (4, [.int (0 + 1), .ref td, .int 0]))] → va_S A s.heap H locs → ∀ ls : Array Slot, lv_has ls 3 [(1, .int (nI i)), (0, .ref m0)] → W p l e (headSpec vs_k_X16_groundAll { frames := 2, cells := 0, slots := 0, locals := 47 }).room s m ([.ref m0] : List Value).toArray below meth c H locs 0 0 (MQ below (va_Qv (fun u : va_W => ((u = [(m7, .inl (ty 3, 384, .inl (fun _ => 0))), (m8, .inl (ty 3, 384, .inl (fun _ => 0))), (m9, .inl (ty 0, 20, .inl (fun _ => 0))), (m12, .inl (ty 0, 384, .inl (fun j => if j < 384 then (-1) else 0))), (m10, .inr (4, [.int (0 + 1), .ref td, .int 0])), (m0, .inr (20, [.int 0, .int 0, .ref m1, .ref m2, .ref m3, .int 0, .ref m4, .ref m5, .ref m6, .int 1, .ref m7, .ref m8, .ref m9, .int 0, .ref m10, .int 0, .ref m11, .ref m12, .ref m13, .int 0, .ref m14, .int 0, .int 0, .int 0, .ref m15, .ref m16])), (m2, .inr (4, [.int 0, .ref td, .int 0]))]))) (wq_B D A) A) ([.ref m0] : List Value).toArray s 0 0 A) (F0 m 32 ls []) := by
    intro n
    induction n with
    | zero => intro i h1 h2; omega
    | succ n ih =>
      intro i hi hn H locs hP hD hS ls hl
      refine lv_iload_n hx hb dX16_groundAll_32 rfl (lv_at hl 0 rfl) ?_
      refine lv_sipush (v := 384) hx hb dX16_groundAll_33 (by decide) ?_
      refine lv_icmp_ge (tgt := 116) hx hb dX16_groundAll_36 (by decide) (fun c0 => ?_) (fun c0 => ?_)
      · have hiN : i = 384 := wq_geN (N := 384) c0 hi (by decide)
        subst hiN
        have hl : lv_has ls 3 [(1, .int 384), (0, .ref m0)] := hl
        have hP : va_P D vwCl [(m0, .inr (20, [.int 0, .int 0, .ref m1, .ref m2, .ref m3, .int 0, .ref m4, .ref m5, .ref m6, .int 1, .ref m7, .ref m8, .ref m9, .int 0, .ref m10, .int 0, .ref m11, .ref m12, .ref m13, .int 0, .ref m14, .int 0, .int 0, .int 0, .ref m15, .ref m16])), (m7, .inl (ty 3, 384, .inl (fun _ => 0))), (m8, .inl (ty 3, 384, .inl (fun _ => 0))), (m9, .inl (ty 0, 20, .inl (fun _ => 0))), (m12, .inl (ty 0, 384, .inl (fun _ => 0))), (m2, .inr (4, [.int 0, .ref td, .int 0])), (m10, .inr (4, [.int (0 + 1), .ref td, .int 0]))] H := hP
        have hD : va_D A [(m0, .inr (20, [.int 0, .int 0, .ref m1, .ref m2, .ref m3, .int 0, .ref m4, .ref m5, .ref m6, .int 1, .ref m7, .ref m8, .ref m9, .int 0, .ref m10, .int 0, .ref m11, .ref m12, .ref m13, .int 0, .ref m14, .int 0, .int 0, .int 0, .ref m15, .ref m16])), (m7, .inl (ty 3, 384, .inl (fun _ => 0))), (m8, .inl (ty 3, 384, .inl (fun _ => 0))), (m9, .inl (ty 0, 20, .inl (fun _ => 0))), (m12, .inl (ty 0, 384, .inl (fun _ => 0))), (m2, .inr (4, [.int 0, .ref td, .int 0])), (m10, .inr (4, [.int (0 + 1), .ref td, .int 0]))] := hD
        refine lv_iconst (v := 0) hx hb dX16_groundAll_116 (by decide) ?_
        refine lv_istore_n (lv' := [(1, .int 0), (0, .ref m0)]) hx hb dX16_groundAll_117 rfl hl (by decide) rfl (fun ls hl => ?_)
        refine lv_iload_n hx hb dX16_groundAll_118 rfl (lv_at hl 0 rfl) ?_
        refine lv_bipush (v := 20) hx hb dX16_groundAll_119 (by decide) ?_
        refine lv_icmp_ge (tgt := 137) hx hb dX16_groundAll_121 (by decide) (fun c0 => absurd c0 (by decide)) (fun _ => ?_)
        refine lv_aload_n hx hb dX16_groundAll_124 rfl (lv_at hl 1 rfl) ?_
        refine va_get (D := D) (ci := 20) (v := .ref m9) (C := RX16) (T := TX16) (N := 26) hx hb hts iv_k_X16_groundAll_X16 hown hK hP 0 rfl rfl 12 (by decide) (hts (.fieldLink RX16 40 "AnswerFoldModel" "keptOf" "[I") (by decide +kernel)) (fun _ h9 => h9) rfl dX16_groundAll_125 ?_
        refine lv_iload_n hx hb dX16_groundAll_128 rfl (lv_at hl 0 rfl) ?_
        refine lv_iconst (v := 0) hx hb dX16_groundAll_129 (by decide) ?_
        refine va_iast (D := D) hx hb hK hP hD hS 3 0 rfl rfl (vp_in_iff.mpr (by decide)) dX16_groundAll_130 (fun H locs hP hD hS => ?_)
        rw [wq_upd0] at hP hD
        have hP : va_P D vwCl [(m0, .inr (20, [.int 0, .int 0, .ref m1, .ref m2, .ref m3, .int 0, .ref m4, .ref m5, .ref m6, .int 1, .ref m7, .ref m8, .ref m9, .int 0, .ref m10, .int 0, .ref m11, .ref m12, .ref m13, .int 0, .ref m14, .int 0, .int 0, .int 0, .ref m15, .ref m16])), (m7, .inl (ty 3, 384, .inl (fun _ => 0))), (m8, .inl (ty 3, 384, .inl (fun _ => 0))), (m9, .inl (ty 0, 20, .inl (fun _ => 0))), (m12, .inl (ty 0, 384, .inl (fun _ => 0))), (m2, .inr (4, [.int 0, .ref td, .int 0])), (m10, .inr (4, [.int (0 + 1), .ref td, .int 0]))] H := hP
        have hD : va_D A [(m0, .inr (20, [.int 0, .int 0, .ref m1, .ref m2, .ref m3, .int 0, .ref m4, .ref m5, .ref m6, .int 1, .ref m7, .ref m8, .ref m9, .int 0, .ref m10, .int 0, .ref m11, .ref m12, .ref m13, .int 0, .ref m14, .int 0, .int 0, .int 0, .ref m15, .ref m16])), (m7, .inl (ty 3, 384, .inl (fun _ => 0))), (m8, .inl (ty 3, 384, .inl (fun _ => 0))), (m9, .inl (ty 0, 20, .inl (fun _ => 0))), (m12, .inl (ty 0, 384, .inl (fun _ => 0))), (m2, .inr (4, [.int 0, .ref td, .int 0])), (m10, .inr (4, [.int (0 + 1), .ref td, .int 0]))] := hD
        refine lv_iinc (v := 1) (lv' := [(1, .int 1), (0, .ref m0)]) hx hb dX16_groundAll_131 hl (k := 0) rfl (by decide) (by decide) rfl (fun ls hl => ?_)
        refine lv_goto (tgt := 118) hx hb dX16_groundAll_134 (by decide) ?_
        refine lv_iload_n hx hb dX16_groundAll_118 rfl (lv_at hl 0 rfl) ?_
        refine lv_bipush (v := 20) hx hb dX16_groundAll_119 (by decide) ?_
        refine lv_icmp_ge (tgt := 137) hx hb dX16_groundAll_121 (by decide) (fun c0 => absurd c0 (by decide)) (fun _ => ?_)
        refine lv_aload_n hx hb dX16_groundAll_124 rfl (lv_at hl 1 rfl) ?_
        refine va_get (D := D) (ci := 20) (v := .ref m9) (C := RX16) (T := TX16) (N := 26) hx hb hts iv_k_X16_groundAll_X16 hown hK hP 0 rfl rfl 12 (by decide) (hts (.fieldLink RX16 40 "AnswerFoldModel" "keptOf" "[I") (by decide +kernel)) (fun _ h9 => h9) rfl dX16_groundAll_125 ?_
        refine lv_iload_n hx hb dX16_groundAll_128 rfl (lv_at hl 0 rfl) ?_
        refine lv_iconst (v := 0) hx hb dX16_groundAll_129 (by decide) ?_
        refine va_iast (D := D) hx hb hK hP hD hS 3 0 rfl rfl (vp_in_iff.mpr (by decide)) dX16_groundAll_130 (fun H locs hP hD hS => ?_)
        rw [wq_upd0] at hP hD
        have hP : va_P D vwCl [(m0, .inr (20, [.int 0, .int 0, .ref m1, .ref m2, .ref m3, .int 0, .ref m4, .ref m5, .ref m6, .int 1, .ref m7, .ref m8, .ref m9, .int 0, .ref m10, .int 0, .ref m11, .ref m12, .ref m13, .int 0, .ref m14, .int 0, .int 0, .int 0, .ref m15, .ref m16])), (m7, .inl (ty 3, 384, .inl (fun _ => 0))), (m8, .inl (ty 3, 384, .inl (fun _ => 0))), (m9, .inl (ty 0, 20, .inl (fun _ => 0))), (m12, .inl (ty 0, 384, .inl (fun _ => 0))), (m2, .inr (4, [.int 0, .ref td, .int 0])), (m10, .inr (4, [.int (0 + 1), .ref td, .int 0]))] H := hP
        have hD : va_D A [(m0, .inr (20, [.int 0, .int 0, .ref m1, .ref m2, .ref m3, .int 0, .ref m4, .ref m5, .ref m6, .int 1, .ref m7, .ref m8, .ref m9, .int 0, .ref m10, .int 0, .ref m11, .ref m12, .ref m13, .int 0, .ref m14, .int 0, .int 0, .int 0, .ref m15, .ref m16])), (m7, .inl (ty 3, 384, .inl (fun _ => 0))), (m8, .inl (ty 3, 384, .inl (fun _ => 0))), (m9, .inl (ty 0, 20, .inl (fun _ => 0))), (m12, .inl (ty 0, 384, .inl (fun _ => 0))), (m2, .inr (4, [.int 0, .ref td, .int 0])), (m10, .inr (4, [.int (0 + 1), .ref td, .int 0]))] := hD
        refine lv_iinc (v := 2) (lv' := [(1, .int 2), (0, .ref m0)]) hx hb dX16_groundAll_131 hl (k := 0) rfl (by decide) (by decide) rfl (fun ls hl => ?_)
        refine lv_goto (tgt := 118) hx hb dX16_groundAll_134 (by decide) ?_
        refine lv_iload_n hx hb dX16_groundAll_118 rfl (lv_at hl 0 rfl) ?_
        refine lv_bipush (v := 20) hx hb dX16_groundAll_119 (by decide) ?_
        refine lv_icmp_ge (tgt := 137) hx hb dX16_groundAll_121 (by decide) (fun c0 => absurd c0 (by decide)) (fun _ => ?_)
        refine lv_aload_n hx hb dX16_groundAll_124 rfl (lv_at hl 1 rfl) ?_
        refine va_get (D := D) (ci := 20) (v := .ref m9) (C := RX16) (T := TX16) (N := 26) hx hb hts iv_k_X16_groundAll_X16 hown hK hP 0 rfl rfl 12 (by decide) (hts (.fieldLink RX16 40 "AnswerFoldModel" "keptOf" "[I") (by decide +kernel)) (fun _ h9 => h9) rfl dX16_groundAll_125 ?_
        refine lv_iload_n hx hb dX16_groundAll_128 rfl (lv_at hl 0 rfl) ?_
        refine lv_iconst (v := 0) hx hb dX16_groundAll_129 (by decide) ?_
        refine va_iast (D := D) hx hb hK hP hD hS 3 0 rfl rfl (vp_in_iff.mpr (by decide)) dX16_groundAll_130 (fun H locs hP hD hS => ?_)
        rw [wq_upd0] at hP hD
        have hP : va_P D vwCl [(m0, .inr (20, [.int 0, .int 0, .ref m1, .ref m2, .ref m3, .int 0, .ref m4, .ref m5, .ref m6, .int 1, .ref m7, .ref m8, .ref m9, .int 0, .ref m10, .int 0, .ref m11, .ref m12, .ref m13, .int 0, .ref m14, .int 0, .int 0, .int 0, .ref m15, .ref m16])), (m7, .inl (ty 3, 384, .inl (fun _ => 0))), (m8, .inl (ty 3, 384, .inl (fun _ => 0))), (m9, .inl (ty 0, 20, .inl (fun _ => 0))), (m12, .inl (ty 0, 384, .inl (fun _ => 0))), (m2, .inr (4, [.int 0, .ref td, .int 0])), (m10, .inr (4, [.int (0 + 1), .ref td, .int 0]))] H := hP
        have hD : va_D A [(m0, .inr (20, [.int 0, .int 0, .ref m1, .ref m2, .ref m3, .int 0, .ref m4, .ref m5, .ref m6, .int 1, .ref m7, .ref m8, .ref m9, .int 0, .ref m10, .int 0, .ref m11, .ref m12, .ref m13, .int 0, .ref m14, .int 0, .int 0, .int 0, .ref m15, .ref m16])), (m7, .inl (ty 3, 384, .inl (fun _ => 0))), (m8, .inl (ty 3, 384, .inl (fun _ => 0))), (m9, .inl (ty 0, 20, .inl (fun _ => 0))), (m12, .inl (ty 0, 384, .inl (fun _ => 0))), (m2, .inr (4, [.int 0, .ref td, .int 0])), (m10, .inr (4, [.int (0 + 1), .ref td, .int 0]))] := hD
        refine lv_iinc (v := 3) (lv' := [(1, .int 3), (0, .ref m0)]) hx hb dX16_groundAll_131 hl (k := 0) rfl (by decide) (by decide) rfl (fun ls hl => ?_)
        refine lv_goto (tgt := 118) hx hb dX16_groundAll_134 (by decide) ?_
        refine lv_iload_n hx hb dX16_groundAll_118 rfl (lv_at hl 0 rfl) ?_
        refine lv_bipush (v := 20) hx hb dX16_groundAll_119 (by decide) ?_
        refine lv_icmp_ge (tgt := 137) hx hb dX16_groundAll_121 (by decide) (fun c0 => absurd c0 (by decide)) (fun _ => ?_)
        refine lv_aload_n hx hb dX16_groundAll_124 rfl (lv_at hl 1 rfl) ?_
        refine va_get (D := D) (ci := 20) (v := .ref m9) (C := RX16) (T := TX16) (N := 26) hx hb hts iv_k_X16_groundAll_X16 hown hK hP 0 rfl rfl 12 (by decide) (hts (.fieldLink RX16 40 "AnswerFoldModel" "keptOf" "[I") (by decide +kernel)) (fun _ h9 => h9) rfl dX16_groundAll_125 ?_
        refine lv_iload_n hx hb dX16_groundAll_128 rfl (lv_at hl 0 rfl) ?_
        refine lv_iconst (v := 0) hx hb dX16_groundAll_129 (by decide) ?_
        refine va_iast (D := D) hx hb hK hP hD hS 3 0 rfl rfl (vp_in_iff.mpr (by decide)) dX16_groundAll_130 (fun H locs hP hD hS => ?_)
        rw [wq_upd0] at hP hD
        have hP : va_P D vwCl [(m0, .inr (20, [.int 0, .int 0, .ref m1, .ref m2, .ref m3, .int 0, .ref m4, .ref m5, .ref m6, .int 1, .ref m7, .ref m8, .ref m9, .int 0, .ref m10, .int 0, .ref m11, .ref m12, .ref m13, .int 0, .ref m14, .int 0, .int 0, .int 0, .ref m15, .ref m16])), (m7, .inl (ty 3, 384, .inl (fun _ => 0))), (m8, .inl (ty 3, 384, .inl (fun _ => 0))), (m9, .inl (ty 0, 20, .inl (fun _ => 0))), (m12, .inl (ty 0, 384, .inl (fun _ => 0))), (m2, .inr (4, [.int 0, .ref td, .int 0])), (m10, .inr (4, [.int (0 + 1), .ref td, .int 0]))] H := hP
        have hD : va_D A [(m0, .inr (20, [.int 0, .int 0, .ref m1, .ref m2, .ref m3, .int 0, .ref m4, .ref m5, .ref m6, .int 1, .ref m7, .ref m8, .ref m9, .int 0, .ref m10, .int 0, .ref m11, .ref m12, .ref m13, .int 0, .ref m14, .int 0, .int 0, .int 0, .ref m15, .ref m16])), (m7, .inl (ty 3, 384, .inl (fun _ => 0))), (m8, .inl (ty 3, 384, .inl (fun _ => 0))), (m9, .inl (ty 0, 20, .inl (fun _ => 0))), (m12, .inl (ty 0, 384, .inl (fun _ => 0))), (m2, .inr (4, [.int 0, .ref td, .int 0])), (m10, .inr (4, [.int (0 + 1), .ref td, .int 0]))] := hD
        refine lv_iinc (v := 4) (lv' := [(1, .int 4), (0, .ref m0)]) hx hb dX16_groundAll_131 hl (k := 0) rfl (by decide) (by decide) rfl (fun ls hl => ?_)
        refine lv_goto (tgt := 118) hx hb dX16_groundAll_134 (by decide) ?_
        refine lv_iload_n hx hb dX16_groundAll_118 rfl (lv_at hl 0 rfl) ?_
        refine lv_bipush (v := 20) hx hb dX16_groundAll_119 (by decide) ?_
        refine lv_icmp_ge (tgt := 137) hx hb dX16_groundAll_121 (by decide) (fun c0 => absurd c0 (by decide)) (fun _ => ?_)
        refine lv_aload_n hx hb dX16_groundAll_124 rfl (lv_at hl 1 rfl) ?_
        refine va_get (D := D) (ci := 20) (v := .ref m9) (C := RX16) (T := TX16) (N := 26) hx hb hts iv_k_X16_groundAll_X16 hown hK hP 0 rfl rfl 12 (by decide) (hts (.fieldLink RX16 40 "AnswerFoldModel" "keptOf" "[I") (by decide +kernel)) (fun _ h9 => h9) rfl dX16_groundAll_125 ?_
        refine lv_iload_n hx hb dX16_groundAll_128 rfl (lv_at hl 0 rfl) ?_
        refine lv_iconst (v := 0) hx hb dX16_groundAll_129 (by decide) ?_
        refine va_iast (D := D) hx hb hK hP hD hS 3 0 rfl rfl (vp_in_iff.mpr (by decide)) dX16_groundAll_130 (fun H locs hP hD hS => ?_)
        rw [wq_upd0] at hP hD
        have hP : va_P D vwCl [(m0, .inr (20, [.int 0, .int 0, .ref m1, .ref m2, .ref m3, .int 0, .ref m4, .ref m5, .ref m6, .int 1, .ref m7, .ref m8, .ref m9, .int 0, .ref m10, .int 0, .ref m11, .ref m12, .ref m13, .int 0, .ref m14, .int 0, .int 0, .int 0, .ref m15, .ref m16])), (m7, .inl (ty 3, 384, .inl (fun _ => 0))), (m8, .inl (ty 3, 384, .inl (fun _ => 0))), (m9, .inl (ty 0, 20, .inl (fun _ => 0))), (m12, .inl (ty 0, 384, .inl (fun _ => 0))), (m2, .inr (4, [.int 0, .ref td, .int 0])), (m10, .inr (4, [.int (0 + 1), .ref td, .int 0]))] H := hP
        have hD : va_D A [(m0, .inr (20, [.int 0, .int 0, .ref m1, .ref m2, .ref m3, .int 0, .ref m4, .ref m5, .ref m6, .int 1, .ref m7, .ref m8, .ref m9, .int 0, .ref m10, .int 0, .ref m11, .ref m12, .ref m13, .int 0, .ref m14, .int 0, .int 0, .int 0, .ref m15, .ref m16])), (m7, .inl (ty 3, 384, .inl (fun _ => 0))), (m8, .inl (ty 3, 384, .inl (fun _ => 0))), (m9, .inl (ty 0, 20, .inl (fun _ => 0))), (m12, .inl (ty 0, 384, .inl (fun _ => 0))), (m2, .inr (4, [.int 0, .ref td, .int 0])), (m10, .inr (4, [.int (0 + 1), .ref td, .int 0]))] := hD
        refine lv_iinc (v := 5) (lv' := [(1, .int 5), (0, .ref m0)]) hx hb dX16_groundAll_131 hl (k := 0) rfl (by decide) (by decide) rfl (fun ls hl => ?_)
        refine lv_goto (tgt := 118) hx hb dX16_groundAll_134 (by decide) ?_
        refine lv_iload_n hx hb dX16_groundAll_118 rfl (lv_at hl 0 rfl) ?_
        refine lv_bipush (v := 20) hx hb dX16_groundAll_119 (by decide) ?_
        refine lv_icmp_ge (tgt := 137) hx hb dX16_groundAll_121 (by decide) (fun c0 => absurd c0 (by decide)) (fun _ => ?_)
        refine lv_aload_n hx hb dX16_groundAll_124 rfl (lv_at hl 1 rfl) ?_
        refine va_get (D := D) (ci := 20) (v := .ref m9) (C := RX16) (T := TX16) (N := 26) hx hb hts iv_k_X16_groundAll_X16 hown hK hP 0 rfl rfl 12 (by decide) (hts (.fieldLink RX16 40 "AnswerFoldModel" "keptOf" "[I") (by decide +kernel)) (fun _ h9 => h9) rfl dX16_groundAll_125 ?_
        refine lv_iload_n hx hb dX16_groundAll_128 rfl (lv_at hl 0 rfl) ?_
        refine lv_iconst (v := 0) hx hb dX16_groundAll_129 (by decide) ?_
        refine va_iast (D := D) hx hb hK hP hD hS 3 0 rfl rfl (vp_in_iff.mpr (by decide)) dX16_groundAll_130 (fun H locs hP hD hS => ?_)
        rw [wq_upd0] at hP hD
        have hP : va_P D vwCl [(m0, .inr (20, [.int 0, .int 0, .ref m1, .ref m2, .ref m3, .int 0, .ref m4, .ref m5, .ref m6, .int 1, .ref m7, .ref m8, .ref m9, .int 0, .ref m10, .int 0, .ref m11, .ref m12, .ref m13, .int 0, .ref m14, .int 0, .int 0, .int 0, .ref m15, .ref m16])), (m7, .inl (ty 3, 384, .inl (fun _ => 0))), (m8, .inl (ty 3, 384, .inl (fun _ => 0))), (m9, .inl (ty 0, 20, .inl (fun _ => 0))), (m12, .inl (ty 0, 384, .inl (fun _ => 0))), (m2, .inr (4, [.int 0, .ref td, .int 0])), (m10, .inr (4, [.int (0 + 1), .ref td, .int 0]))] H := hP
        have hD : va_D A [(m0, .inr (20, [.int 0, .int 0, .ref m1, .ref m2, .ref m3, .int 0, .ref m4, .ref m5, .ref m6, .int 1, .ref m7, .ref m8, .ref m9, .int 0, .ref m10, .int 0, .ref m11, .ref m12, .ref m13, .int 0, .ref m14, .int 0, .int 0, .int 0, .ref m15, .ref m16])), (m7, .inl (ty 3, 384, .inl (fun _ => 0))), (m8, .inl (ty 3, 384, .inl (fun _ => 0))), (m9, .inl (ty 0, 20, .inl (fun _ => 0))), (m12, .inl (ty 0, 384, .inl (fun _ => 0))), (m2, .inr (4, [.int 0, .ref td, .int 0])), (m10, .inr (4, [.int (0 + 1), .ref td, .int 0]))] := hD
        refine lv_iinc (v := 6) (lv' := [(1, .int 6), (0, .ref m0)]) hx hb dX16_groundAll_131 hl (k := 0) rfl (by decide) (by decide) rfl (fun ls hl => ?_)
        refine lv_goto (tgt := 118) hx hb dX16_groundAll_134 (by decide) ?_
        refine lv_iload_n hx hb dX16_groundAll_118 rfl (lv_at hl 0 rfl) ?_
        refine lv_bipush (v := 20) hx hb dX16_groundAll_119 (by decide) ?_
        refine lv_icmp_ge (tgt := 137) hx hb dX16_groundAll_121 (by decide) (fun c0 => absurd c0 (by decide)) (fun _ => ?_)
        refine lv_aload_n hx hb dX16_groundAll_124 rfl (lv_at hl 1 rfl) ?_
        refine va_get (D := D) (ci := 20) (v := .ref m9) (C := RX16) (T := TX16) (N := 26) hx hb hts iv_k_X16_groundAll_X16 hown hK hP 0 rfl rfl 12 (by decide) (hts (.fieldLink RX16 40 "AnswerFoldModel" "keptOf" "[I") (by decide +kernel)) (fun _ h9 => h9) rfl dX16_groundAll_125 ?_
        refine lv_iload_n hx hb dX16_groundAll_128 rfl (lv_at hl 0 rfl) ?_
        refine lv_iconst (v := 0) hx hb dX16_groundAll_129 (by decide) ?_
        refine va_iast (D := D) hx hb hK hP hD hS 3 0 rfl rfl (vp_in_iff.mpr (by decide)) dX16_groundAll_130 (fun H locs hP hD hS => ?_)
        rw [wq_upd0] at hP hD
        have hP : va_P D vwCl [(m0, .inr (20, [.int 0, .int 0, .ref m1, .ref m2, .ref m3, .int 0, .ref m4, .ref m5, .ref m6, .int 1, .ref m7, .ref m8, .ref m9, .int 0, .ref m10, .int 0, .ref m11, .ref m12, .ref m13, .int 0, .ref m14, .int 0, .int 0, .int 0, .ref m15, .ref m16])), (m7, .inl (ty 3, 384, .inl (fun _ => 0))), (m8, .inl (ty 3, 384, .inl (fun _ => 0))), (m9, .inl (ty 0, 20, .inl (fun _ => 0))), (m12, .inl (ty 0, 384, .inl (fun _ => 0))), (m2, .inr (4, [.int 0, .ref td, .int 0])), (m10, .inr (4, [.int (0 + 1), .ref td, .int 0]))] H := hP
        have hD : va_D A [(m0, .inr (20, [.int 0, .int 0, .ref m1, .ref m2, .ref m3, .int 0, .ref m4, .ref m5, .ref m6, .int 1, .ref m7, .ref m8, .ref m9, .int 0, .ref m10, .int 0, .ref m11, .ref m12, .ref m13, .int 0, .ref m14, .int 0, .int 0, .int 0, .ref m15, .ref m16])), (m7, .inl (ty 3, 384, .inl (fun _ => 0))), (m8, .inl (ty 3, 384, .inl (fun _ => 0))), (m9, .inl (ty 0, 20, .inl (fun _ => 0))), (m12, .inl (ty 0, 384, .inl (fun _ => 0))), (m2, .inr (4, [.int 0, .ref td, .int 0])), (m10, .inr (4, [.int (0 + 1), .ref td, .int 0]))] := hD
        refine lv_iinc (v := 7) (lv' := [(1, .int 7), (0, .ref m0)]) hx hb dX16_groundAll_131 hl (k := 0) rfl (by decide) (by decide) rfl (fun ls hl => ?_)
        refine lv_goto (tgt := 118) hx hb dX16_groundAll_134 (by decide) ?_
        refine lv_iload_n hx hb dX16_groundAll_118 rfl (lv_at hl 0 rfl) ?_
        refine lv_bipush (v := 20) hx hb dX16_groundAll_119 (by decide) ?_
        refine lv_icmp_ge (tgt := 137) hx hb dX16_groundAll_121 (by decide) (fun c0 => absurd c0 (by decide)) (fun _ => ?_)
        refine lv_aload_n hx hb dX16_groundAll_124 rfl (lv_at hl 1 rfl) ?_
        refine va_get (D := D) (ci := 20) (v := .ref m9) (C := RX16) (T := TX16) (N := 26) hx hb hts iv_k_X16_groundAll_X16 hown hK hP 0 rfl rfl 12 (by decide) (hts (.fieldLink RX16 40 "AnswerFoldModel" "keptOf" "[I") (by decide +kernel)) (fun _ h9 => h9) rfl dX16_groundAll_125 ?_
        refine lv_iload_n hx hb dX16_groundAll_128 rfl (lv_at hl 0 rfl) ?_
        refine lv_iconst (v := 0) hx hb dX16_groundAll_129 (by decide) ?_
        refine va_iast (D := D) hx hb hK hP hD hS 3 0 rfl rfl (vp_in_iff.mpr (by decide)) dX16_groundAll_130 (fun H locs hP hD hS => ?_)
        rw [wq_upd0] at hP hD
        have hP : va_P D vwCl [(m0, .inr (20, [.int 0, .int 0, .ref m1, .ref m2, .ref m3, .int 0, .ref m4, .ref m5, .ref m6, .int 1, .ref m7, .ref m8, .ref m9, .int 0, .ref m10, .int 0, .ref m11, .ref m12, .ref m13, .int 0, .ref m14, .int 0, .int 0, .int 0, .ref m15, .ref m16])), (m7, .inl (ty 3, 384, .inl (fun _ => 0))), (m8, .inl (ty 3, 384, .inl (fun _ => 0))), (m9, .inl (ty 0, 20, .inl (fun _ => 0))), (m12, .inl (ty 0, 384, .inl (fun _ => 0))), (m2, .inr (4, [.int 0, .ref td, .int 0])), (m10, .inr (4, [.int (0 + 1), .ref td, .int 0]))] H := hP
        have hD : va_D A [(m0, .inr (20, [.int 0, .int 0, .ref m1, .ref m2, .ref m3, .int 0, .ref m4, .ref m5, .ref m6, .int 1, .ref m7, .ref m8, .ref m9, .int 0, .ref m10, .int 0, .ref m11, .ref m12, .ref m13, .int 0, .ref m14, .int 0, .int 0, .int 0, .ref m15, .ref m16])), (m7, .inl (ty 3, 384, .inl (fun _ => 0))), (m8, .inl (ty 3, 384, .inl (fun _ => 0))), (m9, .inl (ty 0, 20, .inl (fun _ => 0))), (m12, .inl (ty 0, 384, .inl (fun _ => 0))), (m2, .inr (4, [.int 0, .ref td, .int 0])), (m10, .inr (4, [.int (0 + 1), .ref td, .int 0]))] := hD
        refine lv_iinc (v := 8) (lv' := [(1, .int 8), (0, .ref m0)]) hx hb dX16_groundAll_131 hl (k := 0) rfl (by decide) (by decide) rfl (fun ls hl => ?_)
        refine lv_goto (tgt := 118) hx hb dX16_groundAll_134 (by decide) ?_
        refine lv_iload_n hx hb dX16_groundAll_118 rfl (lv_at hl 0 rfl) ?_
        refine lv_bipush (v := 20) hx hb dX16_groundAll_119 (by decide) ?_
        refine lv_icmp_ge (tgt := 137) hx hb dX16_groundAll_121 (by decide) (fun c0 => absurd c0 (by decide)) (fun _ => ?_)
        refine lv_aload_n hx hb dX16_groundAll_124 rfl (lv_at hl 1 rfl) ?_
        refine va_get (D := D) (ci := 20) (v := .ref m9) (C := RX16) (T := TX16) (N := 26) hx hb hts iv_k_X16_groundAll_X16 hown hK hP 0 rfl rfl 12 (by decide) (hts (.fieldLink RX16 40 "AnswerFoldModel" "keptOf" "[I") (by decide +kernel)) (fun _ h9 => h9) rfl dX16_groundAll_125 ?_
        refine lv_iload_n hx hb dX16_groundAll_128 rfl (lv_at hl 0 rfl) ?_
        refine lv_iconst (v := 0) hx hb dX16_groundAll_129 (by decide) ?_
        refine va_iast (D := D) hx hb hK hP hD hS 3 0 rfl rfl (vp_in_iff.mpr (by decide)) dX16_groundAll_130 (fun H locs hP hD hS => ?_)
        rw [wq_upd0] at hP hD
        have hP : va_P D vwCl [(m0, .inr (20, [.int 0, .int 0, .ref m1, .ref m2, .ref m3, .int 0, .ref m4, .ref m5, .ref m6, .int 1, .ref m7, .ref m8, .ref m9, .int 0, .ref m10, .int 0, .ref m11, .ref m12, .ref m13, .int 0, .ref m14, .int 0, .int 0, .int 0, .ref m15, .ref m16])), (m7, .inl (ty 3, 384, .inl (fun _ => 0))), (m8, .inl (ty 3, 384, .inl (fun _ => 0))), (m9, .inl (ty 0, 20, .inl (fun _ => 0))), (m12, .inl (ty 0, 384, .inl (fun _ => 0))), (m2, .inr (4, [.int 0, .ref td, .int 0])), (m10, .inr (4, [.int (0 + 1), .ref td, .int 0]))] H := hP
        have hD : va_D A [(m0, .inr (20, [.int 0, .int 0, .ref m1, .ref m2, .ref m3, .int 0, .ref m4, .ref m5, .ref m6, .int 1, .ref m7, .ref m8, .ref m9, .int 0, .ref m10, .int 0, .ref m11, .ref m12, .ref m13, .int 0, .ref m14, .int 0, .int 0, .int 0, .ref m15, .ref m16])), (m7, .inl (ty 3, 384, .inl (fun _ => 0))), (m8, .inl (ty 3, 384, .inl (fun _ => 0))), (m9, .inl (ty 0, 20, .inl (fun _ => 0))), (m12, .inl (ty 0, 384, .inl (fun _ => 0))), (m2, .inr (4, [.int 0, .ref td, .int 0])), (m10, .inr (4, [.int (0 + 1), .ref td, .int 0]))] := hD
        refine lv_iinc (v := 9) (lv' := [(1, .int 9), (0, .ref m0)]) hx hb dX16_groundAll_131 hl (k := 0) rfl (by decide) (by decide) rfl (fun ls hl => ?_)
        refine lv_goto (tgt := 118) hx hb dX16_groundAll_134 (by decide) ?_
        refine lv_iload_n hx hb dX16_groundAll_118 rfl (lv_at hl 0 rfl) ?_
        refine lv_bipush (v := 20) hx hb dX16_groundAll_119 (by decide) ?_
        refine lv_icmp_ge (tgt := 137) hx hb dX16_groundAll_121 (by decide) (fun c0 => absurd c0 (by decide)) (fun _ => ?_)
        refine lv_aload_n hx hb dX16_groundAll_124 rfl (lv_at hl 1 rfl) ?_
        refine va_get (D := D) (ci := 20) (v := .ref m9) (C := RX16) (T := TX16) (N := 26) hx hb hts iv_k_X16_groundAll_X16 hown hK hP 0 rfl rfl 12 (by decide) (hts (.fieldLink RX16 40 "AnswerFoldModel" "keptOf" "[I") (by decide +kernel)) (fun _ h9 => h9) rfl dX16_groundAll_125 ?_
        refine lv_iload_n hx hb dX16_groundAll_128 rfl (lv_at hl 0 rfl) ?_
        refine lv_iconst (v := 0) hx hb dX16_groundAll_129 (by decide) ?_
        refine va_iast (D := D) hx hb hK hP hD hS 3 0 rfl rfl (vp_in_iff.mpr (by decide)) dX16_groundAll_130 (fun H locs hP hD hS => ?_)
        rw [wq_upd0] at hP hD
        have hP : va_P D vwCl [(m0, .inr (20, [.int 0, .int 0, .ref m1, .ref m2, .ref m3, .int 0, .ref m4, .ref m5, .ref m6, .int 1, .ref m7, .ref m8, .ref m9, .int 0, .ref m10, .int 0, .ref m11, .ref m12, .ref m13, .int 0, .ref m14, .int 0, .int 0, .int 0, .ref m15, .ref m16])), (m7, .inl (ty 3, 384, .inl (fun _ => 0))), (m8, .inl (ty 3, 384, .inl (fun _ => 0))), (m9, .inl (ty 0, 20, .inl (fun _ => 0))), (m12, .inl (ty 0, 384, .inl (fun _ => 0))), (m2, .inr (4, [.int 0, .ref td, .int 0])), (m10, .inr (4, [.int (0 + 1), .ref td, .int 0]))] H := hP
        have hD : va_D A [(m0, .inr (20, [.int 0, .int 0, .ref m1, .ref m2, .ref m3, .int 0, .ref m4, .ref m5, .ref m6, .int 1, .ref m7, .ref m8, .ref m9, .int 0, .ref m10, .int 0, .ref m11, .ref m12, .ref m13, .int 0, .ref m14, .int 0, .int 0, .int 0, .ref m15, .ref m16])), (m7, .inl (ty 3, 384, .inl (fun _ => 0))), (m8, .inl (ty 3, 384, .inl (fun _ => 0))), (m9, .inl (ty 0, 20, .inl (fun _ => 0))), (m12, .inl (ty 0, 384, .inl (fun _ => 0))), (m2, .inr (4, [.int 0, .ref td, .int 0])), (m10, .inr (4, [.int (0 + 1), .ref td, .int 0]))] := hD
        refine lv_iinc (v := 10) (lv' := [(1, .int 10), (0, .ref m0)]) hx hb dX16_groundAll_131 hl (k := 0) rfl (by decide) (by decide) rfl (fun ls hl => ?_)
        refine lv_goto (tgt := 118) hx hb dX16_groundAll_134 (by decide) ?_
        refine lv_iload_n hx hb dX16_groundAll_118 rfl (lv_at hl 0 rfl) ?_
        refine lv_bipush (v := 20) hx hb dX16_groundAll_119 (by decide) ?_
        refine lv_icmp_ge (tgt := 137) hx hb dX16_groundAll_121 (by decide) (fun c0 => absurd c0 (by decide)) (fun _ => ?_)
        refine lv_aload_n hx hb dX16_groundAll_124 rfl (lv_at hl 1 rfl) ?_
        refine va_get (D := D) (ci := 20) (v := .ref m9) (C := RX16) (T := TX16) (N := 26) hx hb hts iv_k_X16_groundAll_X16 hown hK hP 0 rfl rfl 12 (by decide) (hts (.fieldLink RX16 40 "AnswerFoldModel" "keptOf" "[I") (by decide +kernel)) (fun _ h9 => h9) rfl dX16_groundAll_125 ?_
        refine lv_iload_n hx hb dX16_groundAll_128 rfl (lv_at hl 0 rfl) ?_
        refine lv_iconst (v := 0) hx hb dX16_groundAll_129 (by decide) ?_
        refine va_iast (D := D) hx hb hK hP hD hS 3 0 rfl rfl (vp_in_iff.mpr (by decide)) dX16_groundAll_130 (fun H locs hP hD hS => ?_)
        rw [wq_upd0] at hP hD
        have hP : va_P D vwCl [(m0, .inr (20, [.int 0, .int 0, .ref m1, .ref m2, .ref m3, .int 0, .ref m4, .ref m5, .ref m6, .int 1, .ref m7, .ref m8, .ref m9, .int 0, .ref m10, .int 0, .ref m11, .ref m12, .ref m13, .int 0, .ref m14, .int 0, .int 0, .int 0, .ref m15, .ref m16])), (m7, .inl (ty 3, 384, .inl (fun _ => 0))), (m8, .inl (ty 3, 384, .inl (fun _ => 0))), (m9, .inl (ty 0, 20, .inl (fun _ => 0))), (m12, .inl (ty 0, 384, .inl (fun _ => 0))), (m2, .inr (4, [.int 0, .ref td, .int 0])), (m10, .inr (4, [.int (0 + 1), .ref td, .int 0]))] H := hP
        have hD : va_D A [(m0, .inr (20, [.int 0, .int 0, .ref m1, .ref m2, .ref m3, .int 0, .ref m4, .ref m5, .ref m6, .int 1, .ref m7, .ref m8, .ref m9, .int 0, .ref m10, .int 0, .ref m11, .ref m12, .ref m13, .int 0, .ref m14, .int 0, .int 0, .int 0, .ref m15, .ref m16])), (m7, .inl (ty 3, 384, .inl (fun _ => 0))), (m8, .inl (ty 3, 384, .inl (fun _ => 0))), (m9, .inl (ty 0, 20, .inl (fun _ => 0))), (m12, .inl (ty 0, 384, .inl (fun _ => 0))), (m2, .inr (4, [.int 0, .ref td, .int 0])), (m10, .inr (4, [.int (0 + 1), .ref td, .int 0]))] := hD
        refine lv_iinc (v := 11) (lv' := [(1, .int 11), (0, .ref m0)]) hx hb dX16_groundAll_131 hl (k := 0) rfl (by decide) (by decide) rfl (fun ls hl => ?_)
        refine lv_goto (tgt := 118) hx hb dX16_groundAll_134 (by decide) ?_
        refine lv_iload_n hx hb dX16_groundAll_118 rfl (lv_at hl 0 rfl) ?_
        refine lv_bipush (v := 20) hx hb dX16_groundAll_119 (by decide) ?_
        refine lv_icmp_ge (tgt := 137) hx hb dX16_groundAll_121 (by decide) (fun c0 => absurd c0 (by decide)) (fun _ => ?_)
        refine lv_aload_n hx hb dX16_groundAll_124 rfl (lv_at hl 1 rfl) ?_
        refine va_get (D := D) (ci := 20) (v := .ref m9) (C := RX16) (T := TX16) (N := 26) hx hb hts iv_k_X16_groundAll_X16 hown hK hP 0 rfl rfl 12 (by decide) (hts (.fieldLink RX16 40 "AnswerFoldModel" "keptOf" "[I") (by decide +kernel)) (fun _ h9 => h9) rfl dX16_groundAll_125 ?_
        refine lv_iload_n hx hb dX16_groundAll_128 rfl (lv_at hl 0 rfl) ?_
        refine lv_iconst (v := 0) hx hb dX16_groundAll_129 (by decide) ?_
        refine va_iast (D := D) hx hb hK hP hD hS 3 0 rfl rfl (vp_in_iff.mpr (by decide)) dX16_groundAll_130 (fun H locs hP hD hS => ?_)
        rw [wq_upd0] at hP hD
        have hP : va_P D vwCl [(m0, .inr (20, [.int 0, .int 0, .ref m1, .ref m2, .ref m3, .int 0, .ref m4, .ref m5, .ref m6, .int 1, .ref m7, .ref m8, .ref m9, .int 0, .ref m10, .int 0, .ref m11, .ref m12, .ref m13, .int 0, .ref m14, .int 0, .int 0, .int 0, .ref m15, .ref m16])), (m7, .inl (ty 3, 384, .inl (fun _ => 0))), (m8, .inl (ty 3, 384, .inl (fun _ => 0))), (m9, .inl (ty 0, 20, .inl (fun _ => 0))), (m12, .inl (ty 0, 384, .inl (fun _ => 0))), (m2, .inr (4, [.int 0, .ref td, .int 0])), (m10, .inr (4, [.int (0 + 1), .ref td, .int 0]))] H := hP
        have hD : va_D A [(m0, .inr (20, [.int 0, .int 0, .ref m1, .ref m2, .ref m3, .int 0, .ref m4, .ref m5, .ref m6, .int 1, .ref m7, .ref m8, .ref m9, .int 0, .ref m10, .int 0, .ref m11, .ref m12, .ref m13, .int 0, .ref m14, .int 0, .int 0, .int 0, .ref m15, .ref m16])), (m7, .inl (ty 3, 384, .inl (fun _ => 0))), (m8, .inl (ty 3, 384, .inl (fun _ => 0))), (m9, .inl (ty 0, 20, .inl (fun _ => 0))), (m12, .inl (ty 0, 384, .inl (fun _ => 0))), (m2, .inr (4, [.int 0, .ref td, .int 0])), (m10, .inr (4, [.int (0 + 1), .ref td, .int 0]))] := hD
        refine lv_iinc (v := 12) (lv' := [(1, .int 12), (0, .ref m0)]) hx hb dX16_groundAll_131 hl (k := 0) rfl (by decide) (by decide) rfl (fun ls hl => ?_)
        refine lv_goto (tgt := 118) hx hb dX16_groundAll_134 (by decide) ?_
        refine lv_iload_n hx hb dX16_groundAll_118 rfl (lv_at hl 0 rfl) ?_
        refine lv_bipush (v := 20) hx hb dX16_groundAll_119 (by decide) ?_
        refine lv_icmp_ge (tgt := 137) hx hb dX16_groundAll_121 (by decide) (fun c0 => absurd c0 (by decide)) (fun _ => ?_)
        refine lv_aload_n hx hb dX16_groundAll_124 rfl (lv_at hl 1 rfl) ?_
        refine va_get (D := D) (ci := 20) (v := .ref m9) (C := RX16) (T := TX16) (N := 26) hx hb hts iv_k_X16_groundAll_X16 hown hK hP 0 rfl rfl 12 (by decide) (hts (.fieldLink RX16 40 "AnswerFoldModel" "keptOf" "[I") (by decide +kernel)) (fun _ h9 => h9) rfl dX16_groundAll_125 ?_
        refine lv_iload_n hx hb dX16_groundAll_128 rfl (lv_at hl 0 rfl) ?_
        refine lv_iconst (v := 0) hx hb dX16_groundAll_129 (by decide) ?_
        refine va_iast (D := D) hx hb hK hP hD hS 3 0 rfl rfl (vp_in_iff.mpr (by decide)) dX16_groundAll_130 (fun H locs hP hD hS => ?_)
        rw [wq_upd0] at hP hD
        have hP : va_P D vwCl [(m0, .inr (20, [.int 0, .int 0, .ref m1, .ref m2, .ref m3, .int 0, .ref m4, .ref m5, .ref m6, .int 1, .ref m7, .ref m8, .ref m9, .int 0, .ref m10, .int 0, .ref m11, .ref m12, .ref m13, .int 0, .ref m14, .int 0, .int 0, .int 0, .ref m15, .ref m16])), (m7, .inl (ty 3, 384, .inl (fun _ => 0))), (m8, .inl (ty 3, 384, .inl (fun _ => 0))), (m9, .inl (ty 0, 20, .inl (fun _ => 0))), (m12, .inl (ty 0, 384, .inl (fun _ => 0))), (m2, .inr (4, [.int 0, .ref td, .int 0])), (m10, .inr (4, [.int (0 + 1), .ref td, .int 0]))] H := hP
        have hD : va_D A [(m0, .inr (20, [.int 0, .int 0, .ref m1, .ref m2, .ref m3, .int 0, .ref m4, .ref m5, .ref m6, .int 1, .ref m7, .ref m8, .ref m9, .int 0, .ref m10, .int 0, .ref m11, .ref m12, .ref m13, .int 0, .ref m14, .int 0, .int 0, .int 0, .ref m15, .ref m16])), (m7, .inl (ty 3, 384, .inl (fun _ => 0))), (m8, .inl (ty 3, 384, .inl (fun _ => 0))), (m9, .inl (ty 0, 20, .inl (fun _ => 0))), (m12, .inl (ty 0, 384, .inl (fun _ => 0))), (m2, .inr (4, [.int 0, .ref td, .int 0])), (m10, .inr (4, [.int (0 + 1), .ref td, .int 0]))] := hD
        refine lv_iinc (v := 13) (lv' := [(1, .int 13), (0, .ref m0)]) hx hb dX16_groundAll_131 hl (k := 0) rfl (by decide) (by decide) rfl (fun ls hl => ?_)
        refine lv_goto (tgt := 118) hx hb dX16_groundAll_134 (by decide) ?_
        refine lv_iload_n hx hb dX16_groundAll_118 rfl (lv_at hl 0 rfl) ?_
        refine lv_bipush (v := 20) hx hb dX16_groundAll_119 (by decide) ?_
        refine lv_icmp_ge (tgt := 137) hx hb dX16_groundAll_121 (by decide) (fun c0 => absurd c0 (by decide)) (fun _ => ?_)
        refine lv_aload_n hx hb dX16_groundAll_124 rfl (lv_at hl 1 rfl) ?_
        refine va_get (D := D) (ci := 20) (v := .ref m9) (C := RX16) (T := TX16) (N := 26) hx hb hts iv_k_X16_groundAll_X16 hown hK hP 0 rfl rfl 12 (by decide) (hts (.fieldLink RX16 40 "AnswerFoldModel" "keptOf" "[I") (by decide +kernel)) (fun _ h9 => h9) rfl dX16_groundAll_125 ?_
        refine lv_iload_n hx hb dX16_groundAll_128 rfl (lv_at hl 0 rfl) ?_
        refine lv_iconst (v := 0) hx hb dX16_groundAll_129 (by decide) ?_
        refine va_iast (D := D) hx hb hK hP hD hS 3 0 rfl rfl (vp_in_iff.mpr (by decide)) dX16_groundAll_130 (fun H locs hP hD hS => ?_)
        rw [wq_upd0] at hP hD
        have hP : va_P D vwCl [(m0, .inr (20, [.int 0, .int 0, .ref m1, .ref m2, .ref m3, .int 0, .ref m4, .ref m5, .ref m6, .int 1, .ref m7, .ref m8, .ref m9, .int 0, .ref m10, .int 0, .ref m11, .ref m12, .ref m13, .int 0, .ref m14, .int 0, .int 0, .int 0, .ref m15, .ref m16])), (m7, .inl (ty 3, 384, .inl (fun _ => 0))), (m8, .inl (ty 3, 384, .inl (fun _ => 0))), (m9, .inl (ty 0, 20, .inl (fun _ => 0))), (m12, .inl (ty 0, 384, .inl (fun _ => 0))), (m2, .inr (4, [.int 0, .ref td, .int 0])), (m10, .inr (4, [.int (0 + 1), .ref td, .int 0]))] H := hP
        have hD : va_D A [(m0, .inr (20, [.int 0, .int 0, .ref m1, .ref m2, .ref m3, .int 0, .ref m4, .ref m5, .ref m6, .int 1, .ref m7, .ref m8, .ref m9, .int 0, .ref m10, .int 0, .ref m11, .ref m12, .ref m13, .int 0, .ref m14, .int 0, .int 0, .int 0, .ref m15, .ref m16])), (m7, .inl (ty 3, 384, .inl (fun _ => 0))), (m8, .inl (ty 3, 384, .inl (fun _ => 0))), (m9, .inl (ty 0, 20, .inl (fun _ => 0))), (m12, .inl (ty 0, 384, .inl (fun _ => 0))), (m2, .inr (4, [.int 0, .ref td, .int 0])), (m10, .inr (4, [.int (0 + 1), .ref td, .int 0]))] := hD
        refine lv_iinc (v := 14) (lv' := [(1, .int 14), (0, .ref m0)]) hx hb dX16_groundAll_131 hl (k := 0) rfl (by decide) (by decide) rfl (fun ls hl => ?_)
        refine lv_goto (tgt := 118) hx hb dX16_groundAll_134 (by decide) ?_
        refine lv_iload_n hx hb dX16_groundAll_118 rfl (lv_at hl 0 rfl) ?_
        refine lv_bipush (v := 20) hx hb dX16_groundAll_119 (by decide) ?_
        refine lv_icmp_ge (tgt := 137) hx hb dX16_groundAll_121 (by decide) (fun c0 => absurd c0 (by decide)) (fun _ => ?_)
        refine lv_aload_n hx hb dX16_groundAll_124 rfl (lv_at hl 1 rfl) ?_
        refine va_get (D := D) (ci := 20) (v := .ref m9) (C := RX16) (T := TX16) (N := 26) hx hb hts iv_k_X16_groundAll_X16 hown hK hP 0 rfl rfl 12 (by decide) (hts (.fieldLink RX16 40 "AnswerFoldModel" "keptOf" "[I") (by decide +kernel)) (fun _ h9 => h9) rfl dX16_groundAll_125 ?_
        refine lv_iload_n hx hb dX16_groundAll_128 rfl (lv_at hl 0 rfl) ?_
        refine lv_iconst (v := 0) hx hb dX16_groundAll_129 (by decide) ?_
        refine va_iast (D := D) hx hb hK hP hD hS 3 0 rfl rfl (vp_in_iff.mpr (by decide)) dX16_groundAll_130 (fun H locs hP hD hS => ?_)
        rw [wq_upd0] at hP hD
        have hP : va_P D vwCl [(m0, .inr (20, [.int 0, .int 0, .ref m1, .ref m2, .ref m3, .int 0, .ref m4, .ref m5, .ref m6, .int 1, .ref m7, .ref m8, .ref m9, .int 0, .ref m10, .int 0, .ref m11, .ref m12, .ref m13, .int 0, .ref m14, .int 0, .int 0, .int 0, .ref m15, .ref m16])), (m7, .inl (ty 3, 384, .inl (fun _ => 0))), (m8, .inl (ty 3, 384, .inl (fun _ => 0))), (m9, .inl (ty 0, 20, .inl (fun _ => 0))), (m12, .inl (ty 0, 384, .inl (fun _ => 0))), (m2, .inr (4, [.int 0, .ref td, .int 0])), (m10, .inr (4, [.int (0 + 1), .ref td, .int 0]))] H := hP
        have hD : va_D A [(m0, .inr (20, [.int 0, .int 0, .ref m1, .ref m2, .ref m3, .int 0, .ref m4, .ref m5, .ref m6, .int 1, .ref m7, .ref m8, .ref m9, .int 0, .ref m10, .int 0, .ref m11, .ref m12, .ref m13, .int 0, .ref m14, .int 0, .int 0, .int 0, .ref m15, .ref m16])), (m7, .inl (ty 3, 384, .inl (fun _ => 0))), (m8, .inl (ty 3, 384, .inl (fun _ => 0))), (m9, .inl (ty 0, 20, .inl (fun _ => 0))), (m12, .inl (ty 0, 384, .inl (fun _ => 0))), (m2, .inr (4, [.int 0, .ref td, .int 0])), (m10, .inr (4, [.int (0 + 1), .ref td, .int 0]))] := hD
        refine lv_iinc (v := 15) (lv' := [(1, .int 15), (0, .ref m0)]) hx hb dX16_groundAll_131 hl (k := 0) rfl (by decide) (by decide) rfl (fun ls hl => ?_)
        refine lv_goto (tgt := 118) hx hb dX16_groundAll_134 (by decide) ?_
        refine lv_iload_n hx hb dX16_groundAll_118 rfl (lv_at hl 0 rfl) ?_
        refine lv_bipush (v := 20) hx hb dX16_groundAll_119 (by decide) ?_
        refine lv_icmp_ge (tgt := 137) hx hb dX16_groundAll_121 (by decide) (fun c0 => absurd c0 (by decide)) (fun _ => ?_)
        refine lv_aload_n hx hb dX16_groundAll_124 rfl (lv_at hl 1 rfl) ?_
        refine va_get (D := D) (ci := 20) (v := .ref m9) (C := RX16) (T := TX16) (N := 26) hx hb hts iv_k_X16_groundAll_X16 hown hK hP 0 rfl rfl 12 (by decide) (hts (.fieldLink RX16 40 "AnswerFoldModel" "keptOf" "[I") (by decide +kernel)) (fun _ h9 => h9) rfl dX16_groundAll_125 ?_
        refine lv_iload_n hx hb dX16_groundAll_128 rfl (lv_at hl 0 rfl) ?_
        refine lv_iconst (v := 0) hx hb dX16_groundAll_129 (by decide) ?_
        refine va_iast (D := D) hx hb hK hP hD hS 3 0 rfl rfl (vp_in_iff.mpr (by decide)) dX16_groundAll_130 (fun H locs hP hD hS => ?_)
        rw [wq_upd0] at hP hD
        have hP : va_P D vwCl [(m0, .inr (20, [.int 0, .int 0, .ref m1, .ref m2, .ref m3, .int 0, .ref m4, .ref m5, .ref m6, .int 1, .ref m7, .ref m8, .ref m9, .int 0, .ref m10, .int 0, .ref m11, .ref m12, .ref m13, .int 0, .ref m14, .int 0, .int 0, .int 0, .ref m15, .ref m16])), (m7, .inl (ty 3, 384, .inl (fun _ => 0))), (m8, .inl (ty 3, 384, .inl (fun _ => 0))), (m9, .inl (ty 0, 20, .inl (fun _ => 0))), (m12, .inl (ty 0, 384, .inl (fun _ => 0))), (m2, .inr (4, [.int 0, .ref td, .int 0])), (m10, .inr (4, [.int (0 + 1), .ref td, .int 0]))] H := hP
        have hD : va_D A [(m0, .inr (20, [.int 0, .int 0, .ref m1, .ref m2, .ref m3, .int 0, .ref m4, .ref m5, .ref m6, .int 1, .ref m7, .ref m8, .ref m9, .int 0, .ref m10, .int 0, .ref m11, .ref m12, .ref m13, .int 0, .ref m14, .int 0, .int 0, .int 0, .ref m15, .ref m16])), (m7, .inl (ty 3, 384, .inl (fun _ => 0))), (m8, .inl (ty 3, 384, .inl (fun _ => 0))), (m9, .inl (ty 0, 20, .inl (fun _ => 0))), (m12, .inl (ty 0, 384, .inl (fun _ => 0))), (m2, .inr (4, [.int 0, .ref td, .int 0])), (m10, .inr (4, [.int (0 + 1), .ref td, .int 0]))] := hD
        refine lv_iinc (v := 16) (lv' := [(1, .int 16), (0, .ref m0)]) hx hb dX16_groundAll_131 hl (k := 0) rfl (by decide) (by decide) rfl (fun ls hl => ?_)
        refine lv_goto (tgt := 118) hx hb dX16_groundAll_134 (by decide) ?_
        refine lv_iload_n hx hb dX16_groundAll_118 rfl (lv_at hl 0 rfl) ?_
        refine lv_bipush (v := 20) hx hb dX16_groundAll_119 (by decide) ?_
        refine lv_icmp_ge (tgt := 137) hx hb dX16_groundAll_121 (by decide) (fun c0 => absurd c0 (by decide)) (fun _ => ?_)
        refine lv_aload_n hx hb dX16_groundAll_124 rfl (lv_at hl 1 rfl) ?_
        refine va_get (D := D) (ci := 20) (v := .ref m9) (C := RX16) (T := TX16) (N := 26) hx hb hts iv_k_X16_groundAll_X16 hown hK hP 0 rfl rfl 12 (by decide) (hts (.fieldLink RX16 40 "AnswerFoldModel" "keptOf" "[I") (by decide +kernel)) (fun _ h9 => h9) rfl dX16_groundAll_125 ?_
        refine lv_iload_n hx hb dX16_groundAll_128 rfl (lv_at hl 0 rfl) ?_
        refine lv_iconst (v := 0) hx hb dX16_groundAll_129 (by decide) ?_
        refine va_iast (D := D) hx hb hK hP hD hS 3 0 rfl rfl (vp_in_iff.mpr (by decide)) dX16_groundAll_130 (fun H locs hP hD hS => ?_)
        rw [wq_upd0] at hP hD
        have hP : va_P D vwCl [(m0, .inr (20, [.int 0, .int 0, .ref m1, .ref m2, .ref m3, .int 0, .ref m4, .ref m5, .ref m6, .int 1, .ref m7, .ref m8, .ref m9, .int 0, .ref m10, .int 0, .ref m11, .ref m12, .ref m13, .int 0, .ref m14, .int 0, .int 0, .int 0, .ref m15, .ref m16])), (m7, .inl (ty 3, 384, .inl (fun _ => 0))), (m8, .inl (ty 3, 384, .inl (fun _ => 0))), (m9, .inl (ty 0, 20, .inl (fun _ => 0))), (m12, .inl (ty 0, 384, .inl (fun _ => 0))), (m2, .inr (4, [.int 0, .ref td, .int 0])), (m10, .inr (4, [.int (0 + 1), .ref td, .int 0]))] H := hP
        have hD : va_D A [(m0, .inr (20, [.int 0, .int 0, .ref m1, .ref m2, .ref m3, .int 0, .ref m4, .ref m5, .ref m6, .int 1, .ref m7, .ref m8, .ref m9, .int 0, .ref m10, .int 0, .ref m11, .ref m12, .ref m13, .int 0, .ref m14, .int 0, .int 0, .int 0, .ref m15, .ref m16])), (m7, .inl (ty 3, 384, .inl (fun _ => 0))), (m8, .inl (ty 3, 384, .inl (fun _ => 0))), (m9, .inl (ty 0, 20, .inl (fun _ => 0))), (m12, .inl (ty 0, 384, .inl (fun _ => 0))), (m2, .inr (4, [.int 0, .ref td, .int 0])), (m10, .inr (4, [.int (0 + 1), .ref td, .int 0]))] := hD
        refine lv_iinc (v := 17) (lv' := [(1, .int 17), (0, .ref m0)]) hx hb dX16_groundAll_131 hl (k := 0) rfl (by decide) (by decide) rfl (fun ls hl => ?_)
        refine lv_goto (tgt := 118) hx hb dX16_groundAll_134 (by decide) ?_
        refine lv_iload_n hx hb dX16_groundAll_118 rfl (lv_at hl 0 rfl) ?_
        refine lv_bipush (v := 20) hx hb dX16_groundAll_119 (by decide) ?_
        refine lv_icmp_ge (tgt := 137) hx hb dX16_groundAll_121 (by decide) (fun c0 => absurd c0 (by decide)) (fun _ => ?_)
        refine lv_aload_n hx hb dX16_groundAll_124 rfl (lv_at hl 1 rfl) ?_
        refine va_get (D := D) (ci := 20) (v := .ref m9) (C := RX16) (T := TX16) (N := 26) hx hb hts iv_k_X16_groundAll_X16 hown hK hP 0 rfl rfl 12 (by decide) (hts (.fieldLink RX16 40 "AnswerFoldModel" "keptOf" "[I") (by decide +kernel)) (fun _ h9 => h9) rfl dX16_groundAll_125 ?_
        refine lv_iload_n hx hb dX16_groundAll_128 rfl (lv_at hl 0 rfl) ?_
        refine lv_iconst (v := 0) hx hb dX16_groundAll_129 (by decide) ?_
        refine va_iast (D := D) hx hb hK hP hD hS 3 0 rfl rfl (vp_in_iff.mpr (by decide)) dX16_groundAll_130 (fun H locs hP hD hS => ?_)
        rw [wq_upd0] at hP hD
        have hP : va_P D vwCl [(m0, .inr (20, [.int 0, .int 0, .ref m1, .ref m2, .ref m3, .int 0, .ref m4, .ref m5, .ref m6, .int 1, .ref m7, .ref m8, .ref m9, .int 0, .ref m10, .int 0, .ref m11, .ref m12, .ref m13, .int 0, .ref m14, .int 0, .int 0, .int 0, .ref m15, .ref m16])), (m7, .inl (ty 3, 384, .inl (fun _ => 0))), (m8, .inl (ty 3, 384, .inl (fun _ => 0))), (m9, .inl (ty 0, 20, .inl (fun _ => 0))), (m12, .inl (ty 0, 384, .inl (fun _ => 0))), (m2, .inr (4, [.int 0, .ref td, .int 0])), (m10, .inr (4, [.int (0 + 1), .ref td, .int 0]))] H := hP
        have hD : va_D A [(m0, .inr (20, [.int 0, .int 0, .ref m1, .ref m2, .ref m3, .int 0, .ref m4, .ref m5, .ref m6, .int 1, .ref m7, .ref m8, .ref m9, .int 0, .ref m10, .int 0, .ref m11, .ref m12, .ref m13, .int 0, .ref m14, .int 0, .int 0, .int 0, .ref m15, .ref m16])), (m7, .inl (ty 3, 384, .inl (fun _ => 0))), (m8, .inl (ty 3, 384, .inl (fun _ => 0))), (m9, .inl (ty 0, 20, .inl (fun _ => 0))), (m12, .inl (ty 0, 384, .inl (fun _ => 0))), (m2, .inr (4, [.int 0, .ref td, .int 0])), (m10, .inr (4, [.int (0 + 1), .ref td, .int 0]))] := hD
        refine lv_iinc (v := 18) (lv' := [(1, .int 18), (0, .ref m0)]) hx hb dX16_groundAll_131 hl (k := 0) rfl (by decide) (by decide) rfl (fun ls hl => ?_)
        refine lv_goto (tgt := 118) hx hb dX16_groundAll_134 (by decide) ?_
        refine lv_iload_n hx hb dX16_groundAll_118 rfl (lv_at hl 0 rfl) ?_
        refine lv_bipush (v := 20) hx hb dX16_groundAll_119 (by decide) ?_
        refine lv_icmp_ge (tgt := 137) hx hb dX16_groundAll_121 (by decide) (fun c0 => absurd c0 (by decide)) (fun _ => ?_)
        refine lv_aload_n hx hb dX16_groundAll_124 rfl (lv_at hl 1 rfl) ?_
        refine va_get (D := D) (ci := 20) (v := .ref m9) (C := RX16) (T := TX16) (N := 26) hx hb hts iv_k_X16_groundAll_X16 hown hK hP 0 rfl rfl 12 (by decide) (hts (.fieldLink RX16 40 "AnswerFoldModel" "keptOf" "[I") (by decide +kernel)) (fun _ h9 => h9) rfl dX16_groundAll_125 ?_
        refine lv_iload_n hx hb dX16_groundAll_128 rfl (lv_at hl 0 rfl) ?_
        refine lv_iconst (v := 0) hx hb dX16_groundAll_129 (by decide) ?_
        refine va_iast (D := D) hx hb hK hP hD hS 3 0 rfl rfl (vp_in_iff.mpr (by decide)) dX16_groundAll_130 (fun H locs hP hD hS => ?_)
        rw [wq_upd0] at hP hD
        have hP : va_P D vwCl [(m0, .inr (20, [.int 0, .int 0, .ref m1, .ref m2, .ref m3, .int 0, .ref m4, .ref m5, .ref m6, .int 1, .ref m7, .ref m8, .ref m9, .int 0, .ref m10, .int 0, .ref m11, .ref m12, .ref m13, .int 0, .ref m14, .int 0, .int 0, .int 0, .ref m15, .ref m16])), (m7, .inl (ty 3, 384, .inl (fun _ => 0))), (m8, .inl (ty 3, 384, .inl (fun _ => 0))), (m9, .inl (ty 0, 20, .inl (fun _ => 0))), (m12, .inl (ty 0, 384, .inl (fun _ => 0))), (m2, .inr (4, [.int 0, .ref td, .int 0])), (m10, .inr (4, [.int (0 + 1), .ref td, .int 0]))] H := hP
        have hD : va_D A [(m0, .inr (20, [.int 0, .int 0, .ref m1, .ref m2, .ref m3, .int 0, .ref m4, .ref m5, .ref m6, .int 1, .ref m7, .ref m8, .ref m9, .int 0, .ref m10, .int 0, .ref m11, .ref m12, .ref m13, .int 0, .ref m14, .int 0, .int 0, .int 0, .ref m15, .ref m16])), (m7, .inl (ty 3, 384, .inl (fun _ => 0))), (m8, .inl (ty 3, 384, .inl (fun _ => 0))), (m9, .inl (ty 0, 20, .inl (fun _ => 0))), (m12, .inl (ty 0, 384, .inl (fun _ => 0))), (m2, .inr (4, [.int 0, .ref td, .int 0])), (m10, .inr (4, [.int (0 + 1), .ref td, .int 0]))] := hD
        refine lv_iinc (v := 19) (lv' := [(1, .int 19), (0, .ref m0)]) hx hb dX16_groundAll_131 hl (k := 0) rfl (by decide) (by decide) rfl (fun ls hl => ?_)
        refine lv_goto (tgt := 118) hx hb dX16_groundAll_134 (by decide) ?_
        refine lv_iload_n hx hb dX16_groundAll_118 rfl (lv_at hl 0 rfl) ?_
        refine lv_bipush (v := 20) hx hb dX16_groundAll_119 (by decide) ?_
        refine lv_icmp_ge (tgt := 137) hx hb dX16_groundAll_121 (by decide) (fun c0 => absurd c0 (by decide)) (fun _ => ?_)
        refine lv_aload_n hx hb dX16_groundAll_124 rfl (lv_at hl 1 rfl) ?_
        refine va_get (D := D) (ci := 20) (v := .ref m9) (C := RX16) (T := TX16) (N := 26) hx hb hts iv_k_X16_groundAll_X16 hown hK hP 0 rfl rfl 12 (by decide) (hts (.fieldLink RX16 40 "AnswerFoldModel" "keptOf" "[I") (by decide +kernel)) (fun _ h9 => h9) rfl dX16_groundAll_125 ?_
        refine lv_iload_n hx hb dX16_groundAll_128 rfl (lv_at hl 0 rfl) ?_
        refine lv_iconst (v := 0) hx hb dX16_groundAll_129 (by decide) ?_
        refine va_iast (D := D) hx hb hK hP hD hS 3 0 rfl rfl (vp_in_iff.mpr (by decide)) dX16_groundAll_130 (fun H locs hP hD hS => ?_)
        rw [wq_upd0] at hP hD
        have hP : va_P D vwCl [(m0, .inr (20, [.int 0, .int 0, .ref m1, .ref m2, .ref m3, .int 0, .ref m4, .ref m5, .ref m6, .int 1, .ref m7, .ref m8, .ref m9, .int 0, .ref m10, .int 0, .ref m11, .ref m12, .ref m13, .int 0, .ref m14, .int 0, .int 0, .int 0, .ref m15, .ref m16])), (m7, .inl (ty 3, 384, .inl (fun _ => 0))), (m8, .inl (ty 3, 384, .inl (fun _ => 0))), (m9, .inl (ty 0, 20, .inl (fun _ => 0))), (m12, .inl (ty 0, 384, .inl (fun _ => 0))), (m2, .inr (4, [.int 0, .ref td, .int 0])), (m10, .inr (4, [.int (0 + 1), .ref td, .int 0]))] H := hP
        have hD : va_D A [(m0, .inr (20, [.int 0, .int 0, .ref m1, .ref m2, .ref m3, .int 0, .ref m4, .ref m5, .ref m6, .int 1, .ref m7, .ref m8, .ref m9, .int 0, .ref m10, .int 0, .ref m11, .ref m12, .ref m13, .int 0, .ref m14, .int 0, .int 0, .int 0, .ref m15, .ref m16])), (m7, .inl (ty 3, 384, .inl (fun _ => 0))), (m8, .inl (ty 3, 384, .inl (fun _ => 0))), (m9, .inl (ty 0, 20, .inl (fun _ => 0))), (m12, .inl (ty 0, 384, .inl (fun _ => 0))), (m2, .inr (4, [.int 0, .ref td, .int 0])), (m10, .inr (4, [.int (0 + 1), .ref td, .int 0]))] := hD
        refine lv_iinc (v := 20) (lv' := [(1, .int 20), (0, .ref m0)]) hx hb dX16_groundAll_131 hl (k := 0) rfl (by decide) (by decide) rfl (fun ls hl => ?_)
        refine lv_goto (tgt := 118) hx hb dX16_groundAll_134 (by decide) ?_
        refine lv_iload_n hx hb dX16_groundAll_118 rfl (lv_at hl 0 rfl) ?_
        refine lv_bipush (v := 20) hx hb dX16_groundAll_119 (by decide) ?_
        refine lv_icmp_ge (tgt := 137) hx hb dX16_groundAll_121 (by decide) (fun _ => ?_) (fun c0 => absurd (by decide) c0)
        refine lv_iconst (v := 1) hx hb dX16_groundAll_137 (by decide) ?_
        refine lv_istore_n (lv' := [(1, .int 1), (0, .ref m0)]) hx hb dX16_groundAll_138 rfl hl (by decide) rfl (fun ls hl => ?_)
        refine lv_iload_n hx hb dX16_groundAll_139 rfl (lv_at hl 0 rfl) ?_
        refine lv_if_eq (tgt := 154) hx hb dX16_groundAll_140 (by decide) (fun c0 => absurd c0 (by decide)) (fun _ => ?_)
        refine lv_aload_n hx hb dX16_groundAll_143 rfl (lv_at hl 1 rfl) ?_
        obtain ⟨e135, hZe135⟩ := hE.dd "SURE" (by decide +kernel)
        refine va_gets hx hb hZe135 hS hown (hts (.fieldLink RX16 233 "AnswerFoldModel$Deed" "SURE" "LAnswerFoldModel$Deed;") (by decide +kernel)) (fun _ h9 => h9) dX16_groundAll_144 ?_
        refine wq_i (wc := [(m0, .inr (20, [.int 0, .int 0, .ref m1, .ref m2, .ref m3, .int 0, .ref m4, .ref m5, .ref m6, .int 1, .ref m7, .ref m8, .ref m9, .int 0, .ref m10, .int 0, .ref m11, .ref m12, .ref m13, .int 0, .ref m14, .int 0, .int 0, .int 0, .ref m15, .ref m16])), (m2, .inr (4, [.int 0, .ref td, .int 0]))]) (wr := [(m7, .inl (ty 3, 384, .inl (fun _ => 0))), (m8, .inl (ty 3, 384, .inl (fun _ => 0))), (m9, .inl (ty 0, 20, .inl (fun _ => 0))), (m12, .inl (ty 0, 384, .inl (fun _ => 0))), (m10, .inr (4, [.int (0 + 1), .ref td, .int 0]))]) (va_runV (As := [.ref e135]) (rest := []) ⟨hx, hb, hml, hown, hts⟩ (k_X16_goThroughAll l D ty td mi H.size m0 m1 m2 m3 m4 m5 m6 m7 m8 m9 m10 m11 m12 m13 m14 m15 m16 e135 1) (cwV 1 hts gv_k_X16_groundAll_1 rfl rfl rfl (by decide +kernel) ⟨(Nat.le_of_ble_eq_true rfl), (Nat.le_of_ble_eq_true rfl)⟩) (wq_preV hP hD hK hE hS hA [0, 5] rfl (by decide) 0 20 rfl rfl) rfl rfl hl.1 rfl (lv_room (Nat.le_of_ble_eq_true rfl)) dX16_groundAll_147 ⟨(Nat.le_of_ble_eq_true rfl), (Nat.le_of_ble_eq_true rfl)⟩) hS hA hP hD [0, 5] [1, 2, 3, 4, 6] rfl rfl (by decide) (by decide) (fun r u H locs hw hP hD hS => ?_)
        obtain ⟨rfl, rfl⟩ := hw
        have hP : va_P D vwCl [(m7, .inl (ty 3, 384, .inl (fun _ => 0))), (m8, .inl (ty 3, 384, .inl (fun _ => 0))), (m9, .inl (ty 0, 20, .inl (fun _ => 0))), (m12, .inl (ty 0, 384, .inl (fun _ => 0))), (m10, .inr (4, [.int (0 + 1), .ref td, .int 0])), (m0, .inr (20, [.int 0, .int 0, .ref m1, .ref m2, .ref m3, .int 0, .ref m4, .ref m5, .ref m6, .int 1, .ref m7, .ref m8, .ref m9, .int 0, .ref m10, .int 0, .ref m11, .ref m12, .ref m13, .int 0, .ref m14, .int 0, .int 0, .int 0, .ref m15, .ref m16])), (m2, .inr (4, [.int 0, .ref td, .int 0]))] H := hP
        have hD : va_D A [(m7, .inl (ty 3, 384, .inl (fun _ => 0))), (m8, .inl (ty 3, 384, .inl (fun _ => 0))), (m9, .inl (ty 0, 20, .inl (fun _ => 0))), (m12, .inl (ty 0, 384, .inl (fun _ => 0))), (m10, .inr (4, [.int (0 + 1), .ref td, .int 0])), (m0, .inr (20, [.int 0, .int 0, .ref m1, .ref m2, .ref m3, .int 0, .ref m4, .ref m5, .ref m6, .int 1, .ref m7, .ref m8, .ref m9, .int 0, .ref m10, .int 0, .ref m11, .ref m12, .ref m13, .int 0, .ref m14, .int 0, .int 0, .int 0, .ref m15, .ref m16])), (m2, .inr (4, [.int 0, .ref td, .int 0]))] := hD
        refine W.widen (k := 0) (n := 0) (Nat.le_of_ble_eq_true rfl) (Nat.le_of_ble_eq_true rfl) ?_
        refine lv_istore_n (lv' := [(1, .int 0), (0, .ref m0)]) hx hb dX16_groundAll_150 rfl hl (by decide) rfl (fun ls hl => ?_)
        refine lv_goto (tgt := 139) hx hb dX16_groundAll_151 (by decide) ?_
        refine lv_iload_n hx hb dX16_groundAll_139 rfl (lv_at hl 0 rfl) ?_
        refine lv_if_eq (tgt := 154) hx hb dX16_groundAll_140 (by decide) (fun _ => ?_) (fun c0 => absurd (by decide) c0)
        refine lv_iconst (v := 1) hx hb dX16_groundAll_154 (by decide) ?_
        refine lv_istore_n (lv' := [(1, .int 1), (0, .ref m0)]) hx hb dX16_groundAll_155 rfl hl (by decide) rfl (fun ls hl => ?_)
        refine lv_iload_n hx hb dX16_groundAll_156 rfl (lv_at hl 0 rfl) ?_
        refine lv_if_eq (tgt := 171) hx hb dX16_groundAll_157 (by decide) (fun c0 => absurd c0 (by decide)) (fun _ => ?_)
        refine lv_aload_n hx hb dX16_groundAll_160 rfl (lv_at hl 1 rfl) ?_
        obtain ⟨e136, hZe136⟩ := hE.dd "POSSIBLE" (by decide +kernel)
        refine va_gets hx hb hZe136 hS hown (hts (.fieldLink RX16 303 "AnswerFoldModel$Deed" "POSSIBLE" "LAnswerFoldModel$Deed;") (by decide +kernel)) (fun _ h9 => h9) dX16_groundAll_161 ?_
        refine wq_i (wc := [(m0, .inr (20, [.int 0, .int 0, .ref m1, .ref m2, .ref m3, .int 0, .ref m4, .ref m5, .ref m6, .int 1, .ref m7, .ref m8, .ref m9, .int 0, .ref m10, .int 0, .ref m11, .ref m12, .ref m13, .int 0, .ref m14, .int 0, .int 0, .int 0, .ref m15, .ref m16])), (m2, .inr (4, [.int 0, .ref td, .int 0]))]) (wr := [(m7, .inl (ty 3, 384, .inl (fun _ => 0))), (m8, .inl (ty 3, 384, .inl (fun _ => 0))), (m9, .inl (ty 0, 20, .inl (fun _ => 0))), (m12, .inl (ty 0, 384, .inl (fun _ => 0))), (m10, .inr (4, [.int (0 + 1), .ref td, .int 0]))]) (va_runV (As := [.ref e136]) (rest := []) ⟨hx, hb, hml, hown, hts⟩ (k_X16_goThroughAll l D ty td mi H.size m0 m1 m2 m3 m4 m5 m6 m7 m8 m9 m10 m11 m12 m13 m14 m15 m16 e136 1) (cwV 1 hts gv_k_X16_groundAll_2 rfl rfl rfl (by decide +kernel) ⟨(Nat.le_of_ble_eq_true rfl), (Nat.le_of_ble_eq_true rfl)⟩) (wq_preV hP hD hK hE hS hA [5, 6] rfl (by decide) 5 20 rfl rfl) rfl rfl hl.1 rfl (lv_room (Nat.le_of_ble_eq_true rfl)) dX16_groundAll_164 ⟨(Nat.le_of_ble_eq_true rfl), (Nat.le_of_ble_eq_true rfl)⟩) hS hA hP hD [5, 6] [0, 1, 2, 3, 4] rfl rfl (by decide) (by decide) (fun r u H locs hw hP hD hS => ?_)
        obtain ⟨rfl, rfl⟩ := hw
        have hP : va_P D vwCl [(m7, .inl (ty 3, 384, .inl (fun _ => 0))), (m8, .inl (ty 3, 384, .inl (fun _ => 0))), (m9, .inl (ty 0, 20, .inl (fun _ => 0))), (m12, .inl (ty 0, 384, .inl (fun _ => 0))), (m10, .inr (4, [.int (0 + 1), .ref td, .int 0])), (m0, .inr (20, [.int 0, .int 0, .ref m1, .ref m2, .ref m3, .int 0, .ref m4, .ref m5, .ref m6, .int 1, .ref m7, .ref m8, .ref m9, .int 0, .ref m10, .int 0, .ref m11, .ref m12, .ref m13, .int 0, .ref m14, .int 0, .int 0, .int 0, .ref m15, .ref m16])), (m2, .inr (4, [.int 0, .ref td, .int 0]))] H := hP
        have hD : va_D A [(m7, .inl (ty 3, 384, .inl (fun _ => 0))), (m8, .inl (ty 3, 384, .inl (fun _ => 0))), (m9, .inl (ty 0, 20, .inl (fun _ => 0))), (m12, .inl (ty 0, 384, .inl (fun _ => 0))), (m10, .inr (4, [.int (0 + 1), .ref td, .int 0])), (m0, .inr (20, [.int 0, .int 0, .ref m1, .ref m2, .ref m3, .int 0, .ref m4, .ref m5, .ref m6, .int 1, .ref m7, .ref m8, .ref m9, .int 0, .ref m10, .int 0, .ref m11, .ref m12, .ref m13, .int 0, .ref m14, .int 0, .int 0, .int 0, .ref m15, .ref m16])), (m2, .inr (4, [.int 0, .ref td, .int 0]))] := hD
        refine W.widen (k := 0) (n := 0) (Nat.le_of_ble_eq_true rfl) (Nat.le_of_ble_eq_true rfl) ?_
        refine lv_istore_n (lv' := [(1, .int 0), (0, .ref m0)]) hx hb dX16_groundAll_167 rfl hl (by decide) rfl (fun ls hl => ?_)
        refine lv_goto (tgt := 156) hx hb dX16_groundAll_168 (by decide) ?_
        refine lv_iload_n hx hb dX16_groundAll_156 rfl (lv_at hl 0 rfl) ?_
        refine lv_if_eq (tgt := 171) hx hb dX16_groundAll_157 (by decide) (fun _ => ?_) (fun c0 => absurd (by decide) c0)
        refine lv_iconst (v := 0) hx hb dX16_groundAll_171 (by decide) ?_
        refine lv_istore_n (lv' := [(2, .int 0), (1, .int 0), (0, .ref m0)]) hx hb dX16_groundAll_172 rfl hl (by decide) rfl (fun ls hl => ?_)
        have hf : (fun j => if j < 0 then (-1) else 0 : Nat → Int32) = fun _ => 0 := wq_fill0.symm
        have hP : va_P D vwCl [(m7, .inl (ty 3, 384, .inl (fun _ => 0))), (m8, .inl (ty 3, 384, .inl (fun _ => 0))), (m9, .inl (ty 0, 20, .inl (fun _ => 0))), (m12, .inl (ty 0, 384, .inl (fun j => if j < 0 then (-1) else 0))), (m10, .inr (4, [.int (0 + 1), .ref td, .int 0])), (m0, .inr (20, [.int 0, .int 0, .ref m1, .ref m2, .ref m3, .int 0, .ref m4, .ref m5, .ref m6, .int 1, .ref m7, .ref m8, .ref m9, .int 0, .ref m10, .int 0, .ref m11, .ref m12, .ref m13, .int 0, .ref m14, .int 0, .int 0, .int 0, .ref m15, .ref m16])), (m2, .inr (4, [.int 0, .ref td, .int 0]))] H := by rw [hf]; exact hP
        have hD : va_D A [(m7, .inl (ty 3, 384, .inl (fun _ => 0))), (m8, .inl (ty 3, 384, .inl (fun _ => 0))), (m9, .inl (ty 0, 20, .inl (fun _ => 0))), (m12, .inl (ty 0, 384, .inl (fun j => if j < 0 then (-1) else 0))), (m10, .inr (4, [.int (0 + 1), .ref td, .int 0])), (m0, .inr (20, [.int 0, .int 0, .ref m1, .ref m2, .ref m3, .int 0, .ref m4, .ref m5, .ref m6, .int 1, .ref m7, .ref m8, .ref m9, .int 0, .ref m10, .int 0, .ref m11, .ref m12, .ref m13, .int 0, .ref m14, .int 0, .int 0, .int 0, .ref m15, .ref m16])), (m2, .inr (4, [.int 0, .ref td, .int 0]))] := by rw [hf]; exact hD
        have LOOP : ∀ (n i : Nat), i ≤ 384 → 384 - i < n → ∀ (H : Heap) (locs : List Loc), va_P D vwCl [(m7, .inl (ty 3, 384, .inl (fun _ => 0))), (m8, .inl (ty 3, 384, .inl (fun _ => 0))), (m9, .inl (ty 0, 20, .inl (fun _ => 0))), (m12, .inl (ty 0, 384, .inl (fun j => if j < i then (-1) else 0))), (m10, .inr (4, [.int (0 + 1), .ref td, .int 0])), (m0, .inr (20, [.int 0, .int 0, .ref m1, .ref m2, .ref m3, .int 0, .ref m4, .ref m5, .ref m6, .int 1, .ref m7, .ref m8, .ref m9, .int 0, .ref m10, .int 0, .ref m11, .ref m12, .ref m13, .int 0, .ref m14, .int 0, .int 0, .int 0, .ref m15, .ref m16])), (m2, .inr (4, [.int 0, .ref td, .int 0]))] H → va_D A [(m7, .inl (ty 3, 384, .inl (fun _ => 0))), (m8, .inl (ty 3, 384, .inl (fun _ => 0))), (m9, .inl (ty 0, 20, .inl (fun _ => 0))), (m12, .inl (ty 0, 384, .inl (fun j => if j < i then (-1) else 0))), (m10, .inr (4, [.int (0 + 1), .ref td, .int 0])), (m0, .inr (20, [.int 0, .int 0, .ref m1, .ref m2, .ref m3, .int 0, .ref m4, .ref m5, .ref m6, .int 1, .ref m7, .ref m8, .ref m9, .int 0, .ref m10, .int 0, .ref m11, .ref m12, .ref m13, .int 0, .ref m14, .int 0, .int 0, .int 0, .ref m15, .ref m16])), (m2, .inr (4, [.int 0, .ref td, .int 0]))] → va_S A s.heap H locs → ∀ ls : Array Slot, lv_has ls 3 [(2, .int (nI i)), (1, .int 0), (0, .ref m0)] → W p l e (headSpec vs_k_X16_groundAll { frames := 2, cells := 0, slots := 0, locals := 47 }).room s m ([.ref m0] : List Value).toArray below meth c H locs 0 0 (MQ below (va_Qv (fun u : va_W => ((u = [(m7, .inl (ty 3, 384, .inl (fun _ => 0))), (m8, .inl (ty 3, 384, .inl (fun _ => 0))), (m9, .inl (ty 0, 20, .inl (fun _ => 0))), (m12, .inl (ty 0, 384, .inl (fun j => if j < 384 then (-1) else 0))), (m10, .inr (4, [.int (0 + 1), .ref td, .int 0])), (m0, .inr (20, [.int 0, .int 0, .ref m1, .ref m2, .ref m3, .int 0, .ref m4, .ref m5, .ref m6, .int 1, .ref m7, .ref m8, .ref m9, .int 0, .ref m10, .int 0, .ref m11, .ref m12, .ref m13, .int 0, .ref m14, .int 0, .int 0, .int 0, .ref m15, .ref m16])), (m2, .inr (4, [.int 0, .ref td, .int 0]))]))) (wq_B D A) A) ([.ref m0] : List Value).toArray s 0 0 A) (F0 m 173 ls []) := by
          intro n
          induction n with
          | zero => intro i h1 h2; omega
          | succ n ih =>
            intro i hi hn H locs hP hD hS ls hl
            refine lv_iload_n hx hb dX16_groundAll_173 rfl (lv_at hl 0 rfl) ?_
            refine lv_sipush (v := 384) hx hb dX16_groundAll_174 (by decide) ?_
            refine lv_icmp_ge (tgt := 241) hx hb dX16_groundAll_177 (by decide) (fun c0 => ?_) (fun c0 => ?_)
            · have hiN : i = 384 := wq_geN (N := 384) c0 hi (by decide)
              subst hiN
              have hl : lv_has ls 3 [(2, .int 384), (1, .int 0), (0, .ref m0)] := hl
              have hP : va_P D vwCl [(m7, .inl (ty 3, 384, .inl (fun _ => 0))), (m8, .inl (ty 3, 384, .inl (fun _ => 0))), (m9, .inl (ty 0, 20, .inl (fun _ => 0))), (m12, .inl (ty 0, 384, .inl (fun j => if j < 384 then (-1) else 0))), (m10, .inr (4, [.int (0 + 1), .ref td, .int 0])), (m0, .inr (20, [.int 0, .int 0, .ref m1, .ref m2, .ref m3, .int 0, .ref m4, .ref m5, .ref m6, .int 1, .ref m7, .ref m8, .ref m9, .int 0, .ref m10, .int 0, .ref m11, .ref m12, .ref m13, .int 0, .ref m14, .int 0, .int 0, .int 0, .ref m15, .ref m16])), (m2, .inr (4, [.int 0, .ref td, .int 0]))] H := hP
              have hD : va_D A [(m7, .inl (ty 3, 384, .inl (fun _ => 0))), (m8, .inl (ty 3, 384, .inl (fun _ => 0))), (m9, .inl (ty 0, 20, .inl (fun _ => 0))), (m12, .inl (ty 0, 384, .inl (fun j => if j < 384 then (-1) else 0))), (m10, .inr (4, [.int (0 + 1), .ref td, .int 0])), (m0, .inr (20, [.int 0, .int 0, .ref m1, .ref m2, .ref m3, .int 0, .ref m4, .ref m5, .ref m6, .int 1, .ref m7, .ref m8, .ref m9, .int 0, .ref m10, .int 0, .ref m11, .ref m12, .ref m13, .int 0, .ref m14, .int 0, .int 0, .int 0, .ref m15, .ref m16])), (m2, .inr (4, [.int 0, .ref td, .int 0]))] := hD
              refine lv_aload_n hx hb dX16_groundAll_241 rfl (lv_at hl 2 rfl) ?_
              obtain ⟨e137, hZe137⟩ := hE.dd "KEEP" (by decide +kernel)
              refine va_gets hx hb hZe137 hS hown (hts (.fieldLink RX16 247 "AnswerFoldModel$Deed" "KEEP" "LAnswerFoldModel$Deed;") (by decide +kernel)) (fun _ h9 => h9) dX16_groundAll_242 ?_
              refine wq_i (wc := [(m0, .inr (20, [.int 0, .int 0, .ref m1, .ref m2, .ref m3, .int 0, .ref m4, .ref m5, .ref m6, .int 1, .ref m7, .ref m8, .ref m9, .int 0, .ref m10, .int 0, .ref m11, .ref m12, .ref m13, .int 0, .ref m14, .int 0, .int 0, .int 0, .ref m15, .ref m16])), (m2, .inr (4, [.int 0, .ref td, .int 0]))]) (wr := [(m7, .inl (ty 3, 384, .inl (fun _ => 0))), (m8, .inl (ty 3, 384, .inl (fun _ => 0))), (m9, .inl (ty 0, 20, .inl (fun _ => 0))), (m12, .inl (ty 0, 384, .inl (fun j => if j < 384 then (-1) else 0))), (m10, .inr (4, [.int (0 + 1), .ref td, .int 0]))]) (va_runV (As := [.ref e137]) (rest := []) ⟨hx, hb, hml, hown, hts⟩ (k_X16_goThroughAll l D ty td mi H.size m0 m1 m2 m3 m4 m5 m6 m7 m8 m9 m10 m11 m12 m13 m14 m15 m16 e137 1) (cwV 1 hts gv_k_X16_groundAll_3 rfl rfl rfl (by decide +kernel) ⟨(Nat.le_of_ble_eq_true rfl), (Nat.le_of_ble_eq_true rfl)⟩) (wq_preV hP hD hK hE hS hA [5, 6] rfl (by decide) 5 20 rfl rfl) rfl rfl hl.1 rfl (lv_room (Nat.le_of_ble_eq_true rfl)) dX16_groundAll_245 ⟨(Nat.le_of_ble_eq_true rfl), (Nat.le_of_ble_eq_true rfl)⟩) hS hA hP hD [5, 6] [0, 1, 2, 3, 4] rfl rfl (by decide) (by decide) (fun r u H locs hw hP hD hS => ?_)
              obtain ⟨rfl, rfl⟩ := hw
              have hP : va_P D vwCl [(m7, .inl (ty 3, 384, .inl (fun _ => 0))), (m8, .inl (ty 3, 384, .inl (fun _ => 0))), (m9, .inl (ty 0, 20, .inl (fun _ => 0))), (m12, .inl (ty 0, 384, .inl (fun j => if j < 384 then (-1) else 0))), (m10, .inr (4, [.int (0 + 1), .ref td, .int 0])), (m0, .inr (20, [.int 0, .int 0, .ref m1, .ref m2, .ref m3, .int 0, .ref m4, .ref m5, .ref m6, .int 1, .ref m7, .ref m8, .ref m9, .int 0, .ref m10, .int 0, .ref m11, .ref m12, .ref m13, .int 0, .ref m14, .int 0, .int 0, .int 0, .ref m15, .ref m16])), (m2, .inr (4, [.int 0, .ref td, .int 0]))] H := hP
              have hD : va_D A [(m7, .inl (ty 3, 384, .inl (fun _ => 0))), (m8, .inl (ty 3, 384, .inl (fun _ => 0))), (m9, .inl (ty 0, 20, .inl (fun _ => 0))), (m12, .inl (ty 0, 384, .inl (fun j => if j < 384 then (-1) else 0))), (m10, .inr (4, [.int (0 + 1), .ref td, .int 0])), (m0, .inr (20, [.int 0, .int 0, .ref m1, .ref m2, .ref m3, .int 0, .ref m4, .ref m5, .ref m6, .int 1, .ref m7, .ref m8, .ref m9, .int 0, .ref m10, .int 0, .ref m11, .ref m12, .ref m13, .int 0, .ref m14, .int 0, .int 0, .int 0, .ref m15, .ref m16])), (m2, .inr (4, [.int 0, .ref td, .int 0]))] := hD
              refine W.widen (k := 0) (n := 0) (Nat.le_of_ble_eq_true rfl) (Nat.le_of_ble_eq_true rfl) ?_
              refine lv_pop hx hb dX16_groundAll_248 rfl ?_
              have hP9 := hP.sub (ws' := [(m7, .inl (ty 3, 384, .inl (fun _ => 0))), (m8, .inl (ty 3, 384, .inl (fun _ => 0))), (m9, .inl (ty 0, 20, .inl (fun _ => 0))), (m12, .inl (ty 0, 384, .inl (fun j => if j < 384 then (-1) else 0))), (m10, .inr (4, [.int (0 + 1), .ref td, .int 0])), (m0, .inr (20, [.int 0, .int 0, .ref m1, .ref m2, .ref m3, .int 0, .ref m4, .ref m5, .ref m6, .int 1, .ref m7, .ref m8, .ref m9, .int 0, .ref m10, .int 0, .ref m11, .ref m12, .ref m13, .int 0, .ref m14, .int 0, .int 0, .int 0, .ref m15, .ref m16])), (m2, .inr (4, [.int 0, .ref td, .int 0]))]) [0, 1, 2, 3, 4, 5, 6] rfl
              have hD9 := hD.sub (ws' := [(m7, .inl (ty 3, 384, .inl (fun _ => 0))), (m8, .inl (ty 3, 384, .inl (fun _ => 0))), (m9, .inl (ty 0, 20, .inl (fun _ => 0))), (m12, .inl (ty 0, 384, .inl (fun j => if j < 384 then (-1) else 0))), (m10, .inr (4, [.int (0 + 1), .ref td, .int 0])), (m0, .inr (20, [.int 0, .int 0, .ref m1, .ref m2, .ref m3, .int 0, .ref m4, .ref m5, .ref m6, .int 1, .ref m7, .ref m8, .ref m9, .int 0, .ref m10, .int 0, .ref m11, .ref m12, .ref m13, .int 0, .ref m14, .int 0, .int 0, .int 0, .ref m15, .ref m16])), (m2, .inr (4, [.int 0, .ref td, .int 0]))]) [0, 1, 2, 3, 4, 5, 6] (by decide) rfl
              refine W.widen (k := 0) (n := 0) (Nat.le_of_ble_eq_true rfl) (Nat.le_of_ble_eq_true rfl) ?_
              exact W.vret hx hb hr (fun t ht hW => ⟨⟨[(m7, .inl (ty 3, 384, .inl (fun _ => 0))), (m8, .inl (ty 3, 384, .inl (fun _ => 0))), (m9, .inl (ty 0, 20, .inl (fun _ => 0))), (m12, .inl (ty 0, 384, .inl (fun j => if j < 384 then (-1) else 0))), (m10, .inr (4, [.int (0 + 1), .ref td, .int 0])), (m0, .inr (20, [.int 0, .int 0, .ref m1, .ref m2, .ref m3, .int 0, .ref m4, .ref m5, .ref m6, .int 1, .ref m7, .ref m8, .ref m9, .int 0, .ref m10, .int 0, .ref m11, .ref m12, .ref m13, .int 0, .ref m14, .int 0, .int 0, .int 0, .ref m15, .ref m16])), (m2, .inr (4, [.int 0, .ref td, .int 0]))], rfl, rfl, wq_B.of ht hP9 hD9⟩, hS.F ht⟩) hS.2.2 dX16_groundAll_249
            · have hlt : i < 384 := wq_ltN (N := 384) c0 hi (by decide)
              refine lv_aload_n hx hb dX16_groundAll_180 rfl (lv_at hl 2 rfl) ?_
              refine va_get (D := D) (ci := 20) (v := .ref m12) (C := RX16) (T := TX16) (N := 26) hx hb hts iv_k_X16_groundAll_X16 hown hK hP 5 rfl rfl 17 (by decide) (hts (.fieldLink RX16 49 "AnswerFoldModel" "bitOf" "[I") (by decide +kernel)) (fun _ h9 => h9) rfl dX16_groundAll_181 ?_
              refine lv_iload_n hx hb dX16_groundAll_184 rfl (lv_at hl 0 rfl) ?_
              refine lv_iconst (v := (-1)) hx hb dX16_groundAll_185 (by decide) ?_
              refine va_iast (D := D) hx hb hK hP hD hS 3 0 rfl rfl (by first | assumption | exact vp_in_nI (by omega) (by omega)) dX16_groundAll_186 (fun H locs hP hD hS => ?_)
              have hP : va_P D vwCl [(m7, .inl (ty 3, 384, .inl (fun _ => 0))), (m8, .inl (ty 3, 384, .inl (fun _ => 0))), (m9, .inl (ty 0, 20, .inl (fun _ => 0))), (m12, .inl (ty 0, 384, .inl (upd (fun j => if j < i then (-1) else 0) (nI i).toNatClampNeg (-1)))), (m10, .inr (4, [.int (0 + 1), .ref td, .int 0])), (m0, .inr (20, [.int 0, .int 0, .ref m1, .ref m2, .ref m3, .int 0, .ref m4, .ref m5, .ref m6, .int 1, .ref m7, .ref m8, .ref m9, .int 0, .ref m10, .int 0, .ref m11, .ref m12, .ref m13, .int 0, .ref m14, .int 0, .int 0, .int 0, .ref m15, .ref m16])), (m2, .inr (4, [.int 0, .ref td, .int 0]))] H := hP
              have hD : va_D A [(m7, .inl (ty 3, 384, .inl (fun _ => 0))), (m8, .inl (ty 3, 384, .inl (fun _ => 0))), (m9, .inl (ty 0, 20, .inl (fun _ => 0))), (m12, .inl (ty 0, 384, .inl (upd (fun j => if j < i then (-1) else 0) (nI i).toNatClampNeg (-1)))), (m10, .inr (4, [.int (0 + 1), .ref td, .int 0])), (m0, .inr (20, [.int 0, .int 0, .ref m1, .ref m2, .ref m3, .int 0, .ref m4, .ref m5, .ref m6, .int 1, .ref m7, .ref m8, .ref m9, .int 0, .ref m10, .int 0, .ref m11, .ref m12, .ref m13, .int 0, .ref m14, .int 0, .int 0, .int 0, .ref m15, .ref m16])), (m2, .inr (4, [.int 0, .ref td, .int 0]))] := hD
              refine lv_aload_n hx hb dX16_groundAll_187 rfl (lv_at hl 2 rfl) ?_
              refine va_get (D := D) (ci := 20) (v := .ref m8) (C := RX16) (T := TX16) (N := 26) hx hb hts iv_k_X16_groundAll_X16 hown hK hP 5 rfl rfl 11 (by decide) (hts (.fieldLink RX16 37 "AnswerFoldModel" "possible" "[Z") (by decide +kernel)) (fun _ h9 => h9) rfl dX16_groundAll_188 ?_
              refine lv_iload_n hx hb dX16_groundAll_191 rfl (lv_at hl 0 rfl) ?_
              refine va_zald (D := D) hx hb hK hP 1 3 rfl rfl (by first | assumption | exact vp_in_nI (by omega) (by omega)) dX16_groundAll_192 ?_
              refine lv_topi (nm_r (e' := 0) (by first | rfl | decide | exact wq_sel hlt (by decide)) ?_)
              refine lv_if_eq (tgt := 235) hx hb dX16_groundAll_193 (by decide) (fun _ => ?_) (fun c0 => absurd (by decide) c0)
              refine lv_iinc (v := nI (i + 1)) (lv' := [(2, .int (nI (i + 1))), (1, .int 0), (0, .ref m0)]) hx hb dX16_groundAll_235 hl (k := 0) rfl (by exact nI_1 i) (by decide) rfl (fun ls hl => ?_)
              refine lv_goto (tgt := 173) hx hb dX16_groundAll_238 (by decide) ?_
              have hf : (fun j => if j < (i + 1) then (-1) else 0 : Nat → Int32) = upd (fun j => if j < i then (-1) else 0) (nI i).toNatClampNeg (-1) := (wq_fill (by omega)).symm
              have hP : va_P D vwCl [(m7, .inl (ty 3, 384, .inl (fun _ => 0))), (m8, .inl (ty 3, 384, .inl (fun _ => 0))), (m9, .inl (ty 0, 20, .inl (fun _ => 0))), (m12, .inl (ty 0, 384, .inl (fun j => if j < (i + 1) then (-1) else 0))), (m10, .inr (4, [.int (0 + 1), .ref td, .int 0])), (m0, .inr (20, [.int 0, .int 0, .ref m1, .ref m2, .ref m3, .int 0, .ref m4, .ref m5, .ref m6, .int 1, .ref m7, .ref m8, .ref m9, .int 0, .ref m10, .int 0, .ref m11, .ref m12, .ref m13, .int 0, .ref m14, .int 0, .int 0, .int 0, .ref m15, .ref m16])), (m2, .inr (4, [.int 0, .ref td, .int 0]))] H := by rw [hf]; exact hP
              have hD : va_D A [(m7, .inl (ty 3, 384, .inl (fun _ => 0))), (m8, .inl (ty 3, 384, .inl (fun _ => 0))), (m9, .inl (ty 0, 20, .inl (fun _ => 0))), (m12, .inl (ty 0, 384, .inl (fun j => if j < (i + 1) then (-1) else 0))), (m10, .inr (4, [.int (0 + 1), .ref td, .int 0])), (m0, .inr (20, [.int 0, .int 0, .ref m1, .ref m2, .ref m3, .int 0, .ref m4, .ref m5, .ref m6, .int 1, .ref m7, .ref m8, .ref m9, .int 0, .ref m10, .int 0, .ref m11, .ref m12, .ref m13, .int 0, .ref m14, .int 0, .int 0, .int 0, .ref m15, .ref m16])), (m2, .inr (4, [.int 0, .ref td, .int 0]))] := by rw [hf]; exact hD
              have hP : va_P D vwCl [(m7, .inl (ty 3, 384, .inl (fun _ => 0))), (m8, .inl (ty 3, 384, .inl (fun _ => 0))), (m9, .inl (ty 0, 20, .inl (fun _ => 0))), (m12, .inl (ty 0, 384, .inl (fun j => if j < (i + 1) then (-1) else 0))), (m10, .inr (4, [.int (0 + 1), .ref td, .int 0])), (m0, .inr (20, [.int 0, .int 0, .ref m1, .ref m2, .ref m3, .int 0, .ref m4, .ref m5, .ref m6, .int 1, .ref m7, .ref m8, .ref m9, .int 0, .ref m10, .int 0, .ref m11, .ref m12, .ref m13, .int 0, .ref m14, .int 0, .int 0, .int 0, .ref m15, .ref m16])), (m2, .inr (4, [.int 0, .ref td, .int 0]))] H := hP
              have hD : va_D A [(m7, .inl (ty 3, 384, .inl (fun _ => 0))), (m8, .inl (ty 3, 384, .inl (fun _ => 0))), (m9, .inl (ty 0, 20, .inl (fun _ => 0))), (m12, .inl (ty 0, 384, .inl (fun j => if j < (i + 1) then (-1) else 0))), (m10, .inr (4, [.int (0 + 1), .ref td, .int 0])), (m0, .inr (20, [.int 0, .int 0, .ref m1, .ref m2, .ref m3, .int 0, .ref m4, .ref m5, .ref m6, .int 1, .ref m7, .ref m8, .ref m9, .int 0, .ref m10, .int 0, .ref m11, .ref m12, .ref m13, .int 0, .ref m14, .int 0, .int 0, .int 0, .ref m15, .ref m16])), (m2, .inr (4, [.int 0, .ref td, .int 0]))] := hD
              exact ih (i + 1) (by omega) (by omega) _ _ (hP.sub [0, 1, 2, 3, 4, 5, 6] rfl) (hD.sub [0, 1, 2, 3, 4, 5, 6] (by decide) rfl) hS _ (lv_sub hl [0, 1, 2] rfl)
        exact LOOP 385 0 (by omega) (by omega) _ _ hP hD hS _ hl
      · have hlt : i < 384 := wq_ltN (N := 384) c0 hi (by decide)
        refine lv_aload_n hx hb dX16_groundAll_39 rfl (lv_at hl 1 rfl) ?_
        refine lv_iload_n hx hb dX16_groundAll_40 rfl (lv_at hl 0 rfl) ?_
        refine wq_i (wc := [(m0, .inr (20, [.int 0, .int 0, .ref m1, .ref m2, .ref m3, .int 0, .ref m4, .ref m5, .ref m6, .int 1, .ref m7, .ref m8, .ref m9, .int 0, .ref m10, .int 0, .ref m11, .ref m12, .ref m13, .int 0, .ref m14, .int 0, .int 0, .int 0, .ref m15, .ref m16]))]) (wr := [(m7, .inl (ty 3, 384, .inl (fun _ => 0))), (m8, .inl (ty 3, 384, .inl (fun _ => 0))), (m9, .inl (ty 0, 20, .inl (fun _ => 0))), (m12, .inl (ty 0, 384, .inl (fun _ => 0))), (m2, .inr (4, [.int 0, .ref td, .int 0])), (m10, .inr (4, [.int (0 + 1), .ref td, .int 0]))]) (va_runV (As := [.int (nI i)]) (rest := []) ⟨hx, hb, hml, hown, hts⟩ (k_X16_externalOf l D ty td mi H.size m0 m1 m2 m3 m4 m5 m6 m7 m8 m9 m10 m11 m12 m13 m14 m15 m16 (nI i) 1) (cwV 1 hts gv_k_X16_groundAll_4 rfl rfl rfl (by decide +kernel) ⟨(Nat.le_of_ble_eq_true rfl), (Nat.le_of_ble_eq_true rfl)⟩) (wq_preV hP hD hK hE hS hA [0] rfl (by decide) 0 20 rfl rfl) rfl rfl hl.1 rfl (lv_room (Nat.le_of_ble_eq_true rfl)) dX16_groundAll_41 ⟨(Nat.le_of_ble_eq_true rfl), (Nat.le_of_ble_eq_true rfl)⟩) hS hA hP hD [0] [1, 2, 3, 4, 5, 6] rfl rfl (by decide) (by decide) (fun r u H locs hw hP hD hS => ?_)
        obtain ⟨rfl, rfl⟩ := hw
        have hP : va_P D vwCl [(m7, .inl (ty 3, 384, .inl (fun _ => 0))), (m8, .inl (ty 3, 384, .inl (fun _ => 0))), (m9, .inl (ty 0, 20, .inl (fun _ => 0))), (m12, .inl (ty 0, 384, .inl (fun _ => 0))), (m2, .inr (4, [.int 0, .ref td, .int 0])), (m10, .inr (4, [.int (0 + 1), .ref td, .int 0])), (m0, .inr (20, [.int 0, .int 0, .ref m1, .ref m2, .ref m3, .int 0, .ref m4, .ref m5, .ref m6, .int 1, .ref m7, .ref m8, .ref m9, .int 0, .ref m10, .int 0, .ref m11, .ref m12, .ref m13, .int 0, .ref m14, .int 0, .int 0, .int 0, .ref m15, .ref m16]))] H := hP
        have hD : va_D A [(m7, .inl (ty 3, 384, .inl (fun _ => 0))), (m8, .inl (ty 3, 384, .inl (fun _ => 0))), (m9, .inl (ty 0, 20, .inl (fun _ => 0))), (m12, .inl (ty 0, 384, .inl (fun _ => 0))), (m2, .inr (4, [.int 0, .ref td, .int 0])), (m10, .inr (4, [.int (0 + 1), .ref td, .int 0])), (m0, .inr (20, [.int 0, .int 0, .ref m1, .ref m2, .ref m3, .int 0, .ref m4, .ref m5, .ref m6, .int 1, .ref m7, .ref m8, .ref m9, .int 0, .ref m10, .int 0, .ref m11, .ref m12, .ref m13, .int 0, .ref m14, .int 0, .int 0, .int 0, .ref m15, .ref m16]))] := hD
        refine W.widen (k := 0) (n := 0) (Nat.le_of_ble_eq_true rfl) (Nat.le_of_ble_eq_true rfl) ?_
        refine lv_istore_n (lv' := [(2, .int (-1)), (1, .int (nI i)), (0, .ref m0)]) hx hb dX16_groundAll_44 rfl hl (by decide) rfl (fun ls hl => ?_)
        refine lv_aload_n hx hb dX16_groundAll_45 rfl (lv_at hl 2 rfl) ?_
        refine va_get (D := D) (ci := 20) (v := .ref m7) (C := RX16) (T := TX16) (N := 26) hx hb hts iv_k_X16_groundAll_X16 hown hK hP 6 rfl rfl 10 (by decide) (hts (.fieldLink RX16 33 "AnswerFoldModel" "sure" "[Z") (by decide +kernel)) (fun _ h9 => h9) rfl dX16_groundAll_46 ?_
        refine lv_iload_n hx hb dX16_groundAll_49 rfl (lv_at hl 1 rfl) ?_
        refine lv_iload_n hx hb dX16_groundAll_50 rfl (lv_at hl 0 rfl) ?_
        refine lv_iconst (v := (-1)) hx hb dX16_groundAll_51 (by decide) ?_
        refine lv_icmp_eq (tgt := 70) hx hb dX16_groundAll_52 (by decide) (fun _ => ?_) (fun c0 => absurd (by decide) c0)
        refine lv_iconst (v := 0) hx hb dX16_groundAll_70 (by decide) ?_
        refine va_zast (D := D) hx hb hK hP hD hS 0 3 rfl rfl (by first | assumption | exact vp_in_nI (by omega) (by omega)) dX16_groundAll_71 (fun H locs hP hD hS => ?_)
        rw [wq_upd0n] at hP hD
        have hP : va_P D vwCl [(m7, .inl (ty 3, 384, .inl (fun _ => 0))), (m8, .inl (ty 3, 384, .inl (fun _ => 0))), (m9, .inl (ty 0, 20, .inl (fun _ => 0))), (m12, .inl (ty 0, 384, .inl (fun _ => 0))), (m2, .inr (4, [.int 0, .ref td, .int 0])), (m10, .inr (4, [.int (0 + 1), .ref td, .int 0])), (m0, .inr (20, [.int 0, .int 0, .ref m1, .ref m2, .ref m3, .int 0, .ref m4, .ref m5, .ref m6, .int 1, .ref m7, .ref m8, .ref m9, .int 0, .ref m10, .int 0, .ref m11, .ref m12, .ref m13, .int 0, .ref m14, .int 0, .int 0, .int 0, .ref m15, .ref m16]))] H := hP
        have hD : va_D A [(m7, .inl (ty 3, 384, .inl (fun _ => 0))), (m8, .inl (ty 3, 384, .inl (fun _ => 0))), (m9, .inl (ty 0, 20, .inl (fun _ => 0))), (m12, .inl (ty 0, 384, .inl (fun _ => 0))), (m2, .inr (4, [.int 0, .ref td, .int 0])), (m10, .inr (4, [.int (0 + 1), .ref td, .int 0])), (m0, .inr (20, [.int 0, .int 0, .ref m1, .ref m2, .ref m3, .int 0, .ref m4, .ref m5, .ref m6, .int 1, .ref m7, .ref m8, .ref m9, .int 0, .ref m10, .int 0, .ref m11, .ref m12, .ref m13, .int 0, .ref m14, .int 0, .int 0, .int 0, .ref m15, .ref m16]))] := hD
        refine lv_aload_n hx hb dX16_groundAll_72 rfl (lv_at hl 2 rfl) ?_
        refine va_get (D := D) (ci := 20) (v := .ref m8) (C := RX16) (T := TX16) (N := 26) hx hb hts iv_k_X16_groundAll_X16 hown hK hP 6 rfl rfl 11 (by decide) (hts (.fieldLink RX16 37 "AnswerFoldModel" "possible" "[Z") (by decide +kernel)) (fun _ h9 => h9) rfl dX16_groundAll_73 ?_
        refine lv_iload_n hx hb dX16_groundAll_76 rfl (lv_at hl 1 rfl) ?_
        refine lv_iload_n hx hb dX16_groundAll_77 rfl (lv_at hl 0 rfl) ?_
        refine lv_iconst (v := (-1)) hx hb dX16_groundAll_78 (by decide) ?_
        refine lv_icmp_eq (tgt := 108) hx hb dX16_groundAll_79 (by decide) (fun _ => ?_) (fun c0 => absurd (by decide) c0)
        refine lv_iconst (v := 0) hx hb dX16_groundAll_108 (by decide) ?_
        refine va_zast (D := D) hx hb hK hP hD hS 1 3 rfl rfl (by first | assumption | exact vp_in_nI (by omega) (by omega)) dX16_groundAll_109 (fun H locs hP hD hS => ?_)
        rw [wq_upd0n] at hP hD
        have hP : va_P D vwCl [(m7, .inl (ty 3, 384, .inl (fun _ => 0))), (m8, .inl (ty 3, 384, .inl (fun _ => 0))), (m9, .inl (ty 0, 20, .inl (fun _ => 0))), (m12, .inl (ty 0, 384, .inl (fun _ => 0))), (m2, .inr (4, [.int 0, .ref td, .int 0])), (m10, .inr (4, [.int (0 + 1), .ref td, .int 0])), (m0, .inr (20, [.int 0, .int 0, .ref m1, .ref m2, .ref m3, .int 0, .ref m4, .ref m5, .ref m6, .int 1, .ref m7, .ref m8, .ref m9, .int 0, .ref m10, .int 0, .ref m11, .ref m12, .ref m13, .int 0, .ref m14, .int 0, .int 0, .int 0, .ref m15, .ref m16]))] H := hP
        have hD : va_D A [(m7, .inl (ty 3, 384, .inl (fun _ => 0))), (m8, .inl (ty 3, 384, .inl (fun _ => 0))), (m9, .inl (ty 0, 20, .inl (fun _ => 0))), (m12, .inl (ty 0, 384, .inl (fun _ => 0))), (m2, .inr (4, [.int 0, .ref td, .int 0])), (m10, .inr (4, [.int (0 + 1), .ref td, .int 0])), (m0, .inr (20, [.int 0, .int 0, .ref m1, .ref m2, .ref m3, .int 0, .ref m4, .ref m5, .ref m6, .int 1, .ref m7, .ref m8, .ref m9, .int 0, .ref m10, .int 0, .ref m11, .ref m12, .ref m13, .int 0, .ref m14, .int 0, .int 0, .int 0, .ref m15, .ref m16]))] := hD
        refine lv_iinc (v := nI (i + 1)) (lv' := [(1, .int (nI (i + 1))), (2, .int (-1)), (0, .ref m0)]) hx hb dX16_groundAll_110 hl (k := 1) rfl (by exact nI_1 i) (by decide) rfl (fun ls hl => ?_)
        refine lv_goto (tgt := 32) hx hb dX16_groundAll_113 (by decide) ?_
        have hP : va_P D vwCl [(m7, .inl (ty 3, 384, .inl (fun _ => 0))), (m8, .inl (ty 3, 384, .inl (fun _ => 0))), (m9, .inl (ty 0, 20, .inl (fun _ => 0))), (m12, .inl (ty 0, 384, .inl (fun _ => 0))), (m2, .inr (4, [.int 0, .ref td, .int 0])), (m10, .inr (4, [.int (0 + 1), .ref td, .int 0])), (m0, .inr (20, [.int 0, .int 0, .ref m1, .ref m2, .ref m3, .int 0, .ref m4, .ref m5, .ref m6, .int 1, .ref m7, .ref m8, .ref m9, .int 0, .ref m10, .int 0, .ref m11, .ref m12, .ref m13, .int 0, .ref m14, .int 0, .int 0, .int 0, .ref m15, .ref m16]))] H := hP
        have hD : va_D A [(m7, .inl (ty 3, 384, .inl (fun _ => 0))), (m8, .inl (ty 3, 384, .inl (fun _ => 0))), (m9, .inl (ty 0, 20, .inl (fun _ => 0))), (m12, .inl (ty 0, 384, .inl (fun _ => 0))), (m2, .inr (4, [.int 0, .ref td, .int 0])), (m10, .inr (4, [.int (0 + 1), .ref td, .int 0])), (m0, .inr (20, [.int 0, .int 0, .ref m1, .ref m2, .ref m3, .int 0, .ref m4, .ref m5, .ref m6, .int 1, .ref m7, .ref m8, .ref m9, .int 0, .ref m10, .int 0, .ref m11, .ref m12, .ref m13, .int 0, .ref m14, .int 0, .int 0, .int 0, .ref m15, .ref m16]))] := hD
        exact ih (i + 1) (by omega) (by omega) _ _ (hP.sub [6, 0, 1, 2, 3, 4, 5] rfl) (hD.sub [6, 0, 1, 2, 3, 4, 5] (by decide) rfl) hS _ (lv_sub hl [0, 2] rfl)
  exact LOOP 385 0 (by omega) (by omega) _ _ hP hD hS _ hl
def vs_k_X16_open : List Cond := .code yX16_open cX16_open 1 (some .int) :: ([.fieldLink RX16 65 "AnswerFoldModel" "thrown" "I", .methodLink RX16 306 yX16_groundAll, .instanceMethod yX16_groundAll, .selects RX16 yX16_groundAll yX16_groundAll, .initialized RX16, .fieldLink RX16 296 "AnswerFoldModel" "openMany" "I"] ++ (u_ws RX16 TX16 26 ++ (vs_k_X16_groundAll)))
theorem iv_k_X16_open_X16 : ∀ w ∈ u_ws RX16 TX16 26, w ∈ vs_k_X16_open := (fun _ h => List.mem_cons_of_mem _ (List.mem_append_right _ (List.mem_append_left _ h)))
set_option maxRecDepth 20000 in
theorem gv_k_X16_open_0 : GoodIn vs_k_X16_open (wsV RX16 306 RX16 yX16_groundAll vs_k_X16_groundAll) := goodIn_app (goodIn_sub (by decide +kernel) (by decide +kernel)) (goodIn_sub (fun _ h => List.mem_cons_of_mem _ (List.mem_append_right _ (List.mem_append_right _ (h)))) (by decide +kernel))
set_option maxHeartbeats 4000000 in
set_option maxRecDepth 100000 in
theorem k_X16_open (l : Launch) (D : va_G) (ty : Nat → ClassId) (td mi sz : Nat) (m0 : Nat) (m1 : Nat) (m2 : Nat) (m3 : Nat) (m4 : Nat) (m5 : Nat) (m6 : Nat) (m7 : Nat) (m8 : Nat) (m9 : Nat) (m10 : Nat) (m11 : Nat) (m12 : Nat) (m13 : Nat) (m14 : Nat) (m15 : Nat) (m16 : Nat) : Met l yX16_open vs_k_X16_open { frames := 3, cells := 0, slots := 0, locals := 69 } (va_Pc [.ref m0] (wq_P D ty td mi [(m0, .inr (20, [.int 0, .int 0, .ref m1, .ref m2, .ref m3, .int 0, .ref m4, .ref m5, .ref m6, .int 0, .ref m7, .ref m8, .ref m9, .int 0, .ref m10, .int 0, .ref m11, .ref m12, .ref m13, .int 0, .ref m14, .int 0, .int 0, .int 0, .ref m15, .ref m16])), (m10, .inr (4, [.int 0, .ref td, .int 0])), (m7, .inl (ty 3, 384, .inl (fun _ => 0))), (m8, .inl (ty 3, 384, .inl (fun _ => 0))), (m9, .inl (ty 0, 20, .inl (fun _ => 0))), (m12, .inl (ty 0, 384, .inl (fun _ => 0))), (m2, .inr (4, [.int 0, .ref td, .int 0]))] sz)) (va_Qi (fun (r : Int32) (u : va_W) => (r = 0 ∧ (u = [(m0, .inr (20, [.int 0, .int 0, .ref m1, .ref m2, .ref m3, .int 0, .ref m4, .ref m5, .ref m6, .int 1, .ref m7, .ref m8, .ref m9, .int 0, .ref m10, .int 0, .ref m11, .ref m12, .ref m13, .int 0, .ref m14, .int 0, .int 0, .int 0, .ref m15, .ref m16]))]))) (wq_B D (va_A [(m0, .inr (20, [.int 0, .int 0, .ref m1, .ref m2, .ref m3, .int 0, .ref m4, .ref m5, .ref m6, .int 0, .ref m7, .ref m8, .ref m9, .int 0, .ref m10, .int 0, .ref m11, .ref m12, .ref m13, .int 0, .ref m14, .int 0, .int 0, .int 0, .ref m15, .ref m16])), (m10, .inr (4, [.int 0, .ref td, .int 0])), (m7, .inl (ty 3, 384, .inl (fun _ => 0))), (m8, .inl (ty 3, 384, .inl (fun _ => 0))), (m9, .inl (ty 0, 20, .inl (fun _ => 0))), (m12, .inl (ty 0, 384, .inl (fun _ => 0))), (m2, .inr (4, [.int 0, .ref td, .int 0]))] sz)) (va_A [(m0, .inr (20, [.int 0, .int 0, .ref m1, .ref m2, .ref m3, .int 0, .ref m4, .ref m5, .ref m6, .int 0, .ref m7, .ref m8, .ref m9, .int 0, .ref m10, .int 0, .ref m11, .ref m12, .ref m13, .int 0, .ref m14, .int 0, .int 0, .int 0, .ref m15, .ref m16])), (m10, .inr (4, [.int 0, .ref td, .int 0])), (m7, .inl (ty 3, 384, .inl (fun _ => 0))), (m8, .inl (ty 3, 384, .inl (fun _ => 0))), (m9, .inl (ty 0, 20, .inl (fun _ => 0))), (m12, .inl (ty 0, 384, .inl (fun _ => 0))), (m2, .inr (4, [.int 0, .ref td, .int 0]))] sz)) 0 0 (va_A [(m0, .inr (20, [.int 0, .int 0, .ref m1, .ref m2, .ref m3, .int 0, .ref m4, .ref m5, .ref m6, .int 0, .ref m7, .ref m8, .ref m9, .int 0, .ref m10, .int 0, .ref m11, .ref m12, .ref m13, .int 0, .ref m14, .int 0, .int 0, .int 0, .ref m15, .ref m16])), (m10, .inr (4, [.int 0, .ref td, .int 0])), (m7, .inl (ty 3, 384, .inl (fun _ => 0))), (m8, .inl (ty 3, 384, .inl (fun _ => 0))), (m9, .inl (ty 0, 20, .inl (fun _ => 0))), (m12, .inl (ty 0, 384, .inl (fun _ => 0))), (m2, .inr (4, [.int 0, .ref td, .int 0]))] sz) := by
  refine Met.ofW (cc := cX16_open) (maxL := 1) (ret := (some .int)) (by decide) rfl ?_
  intro p e s m args below meth c s₁ B hml hv
  obtain ⟨rfl, hsz, hP, hK, hD0, hE⟩ := hv
  have hx := B.exec
  have hb := B.bytes
  have hr := B.returns
  have hts := atoms_spec (ws := vs_k_X16_open) B.pre
  have hown : s.vm.findClass RX16 = some m.cls := findClass_of_methodNamed B.named
  have hlocks := B.notSynchronized
  subst hsz
  have hD := hD0.self (sz := s.heap.size)
  generalize hAe : va_A [(m0, .inr (20, [.int 0, .int 0, .ref m1, .ref m2, .ref m3, .int 0, .ref m4, .ref m5, .ref m6, .int 0, .ref m7, .ref m8, .ref m9, .int 0, .ref m10, .int 0, .ref m11, .ref m12, .ref m13, .int 0, .ref m14, .int 0, .int 0, .int 0, .ref m15, .ref m16])), (m10, .inr (4, [.int 0, .ref td, .int 0])), (m7, .inl (ty 3, 384, .inl (fun _ => 0))), (m8, .inl (ty 3, 384, .inl (fun _ => 0))), (m9, .inl (ty 0, 20, .inl (fun _ => 0))), (m12, .inl (ty 0, 384, .inl (fun _ => 0))), (m2, .inr (4, [.int 0, .ref td, .int 0]))] s.heap.size = A at hD hE ⊢
  have hA : ∀ q : Nat, s.heap.size ≤ q → A q := fun q h => by rw [← hAe]; exact Or.inr h
  have hS : va_S A s.heap s.heap [] := va_S.rf
  have hP : va_P D vwCl [(m0, .inr (20, [.int 0, .int 0, .ref m1, .ref m2, .ref m3, .int 0, .ref m4, .ref m5, .ref m6, .int 0, .ref m7, .ref m8, .ref m9, .int 0, .ref m10, .int 0, .ref m11, .ref m12, .ref m13, .int 0, .ref m14, .int 0, .int 0, .int 0, .ref m15, .ref m16])), (m10, .inr (4, [.int 0, .ref td, .int 0])), (m7, .inl (ty 3, 384, .inl (fun _ => 0))), (m8, .inl (ty 3, 384, .inl (fun _ => 0))), (m9, .inl (ty 0, 20, .inl (fun _ => 0))), (m12, .inl (ty 0, 384, .inl (fun _ => 0))), (m2, .inr (4, [.int 0, .ref td, .int 0]))] s.heap := hP
  have hl := lv_entry ([.ref m0]) (n := 1) (Nat.le_of_ble_eq_true rfl)
  rw [lg_entry_eq]
  generalize (lg_sl ([.ref m0]) ++ List.replicate (1 - (lg_sl ([.ref m0])).length) Slot.unset).toArray = ls at hl ⊢
  have hl : lv_has ls 1 [(0, .ref m0)] := hl
  refine lv_aload_n hx hb dX16_open_0 rfl (lv_at hl 0 rfl) ?_
  refine lv_iconst (v := 0) hx hb dX16_open_1 (by decide) ?_
  refine va_put (D := D) (ci := 20) (v := .int 0) (ty := tyX16 0) (C := RX16) (T := TX16) (N := 26) hx hb hts iv_k_X16_open_X16 tyX16 tyX16_ok nmX16 hown hK hP hD hS 0 rfl rfl 0 (by decide) (hts (.fieldLink RX16 65 "AnswerFoldModel" "thrown" "I") (by decide +kernel)) (fun _ h9 => h9) rfl (by decide +kernel) rfl rfl (Nat.le_of_ble_eq_true rfl) dX16_open_2 (fun H locs hP hD hS => ?_)
  have hP : va_P D vwCl [(m0, .inr (20, [.int 0, .int 0, .ref m1, .ref m2, .ref m3, .int 0, .ref m4, .ref m5, .ref m6, .int 0, .ref m7, .ref m8, .ref m9, .int 0, .ref m10, .int 0, .ref m11, .ref m12, .ref m13, .int 0, .ref m14, .int 0, .int 0, .int 0, .ref m15, .ref m16])), (m10, .inr (4, [.int 0, .ref td, .int 0])), (m7, .inl (ty 3, 384, .inl (fun _ => 0))), (m8, .inl (ty 3, 384, .inl (fun _ => 0))), (m9, .inl (ty 0, 20, .inl (fun _ => 0))), (m12, .inl (ty 0, 384, .inl (fun _ => 0))), (m2, .inr (4, [.int 0, .ref td, .int 0]))] H := hP
  have hD : va_D A [(m0, .inr (20, [.int 0, .int 0, .ref m1, .ref m2, .ref m3, .int 0, .ref m4, .ref m5, .ref m6, .int 0, .ref m7, .ref m8, .ref m9, .int 0, .ref m10, .int 0, .ref m11, .ref m12, .ref m13, .int 0, .ref m14, .int 0, .int 0, .int 0, .ref m15, .ref m16])), (m10, .inr (4, [.int 0, .ref td, .int 0])), (m7, .inl (ty 3, 384, .inl (fun _ => 0))), (m8, .inl (ty 3, 384, .inl (fun _ => 0))), (m9, .inl (ty 0, 20, .inl (fun _ => 0))), (m12, .inl (ty 0, 384, .inl (fun _ => 0))), (m2, .inr (4, [.int 0, .ref td, .int 0]))] := hD
  refine lv_aload_n hx hb dX16_open_5 rfl (lv_at hl 0 rfl) ?_
  refine wq_v (wc := [(m0, .inr (20, [.int 0, .int 0, .ref m1, .ref m2, .ref m3, .int 0, .ref m4, .ref m5, .ref m6, .int 0, .ref m7, .ref m8, .ref m9, .int 0, .ref m10, .int 0, .ref m11, .ref m12, .ref m13, .int 0, .ref m14, .int 0, .int 0, .int 0, .ref m15, .ref m16])), (m10, .inr (4, [.int 0, .ref td, .int 0])), (m7, .inl (ty 3, 384, .inl (fun _ => 0))), (m8, .inl (ty 3, 384, .inl (fun _ => 0))), (m9, .inl (ty 0, 20, .inl (fun _ => 0))), (m12, .inl (ty 0, 384, .inl (fun _ => 0))), (m2, .inr (4, [.int 0, .ref td, .int 0]))]) (wr := []) (va_runV (As := []) (rest := []) ⟨hx, hb, hml, hown, hts⟩ (k_X16_groundAll l D ty td mi H.size m0 m1 m2 m3 m4 m5 m6 m7 m8 m9 m10 m11 m12 m13 m14 m15 m16) (cwV 0 hts gv_k_X16_open_0 rfl rfl rfl (by decide +kernel) ⟨(Nat.le_of_ble_eq_true rfl), (Nat.le_of_ble_eq_true rfl)⟩) (wq_preV hP hD hK hE hS hA [0, 1, 2, 3, 4, 5, 6] rfl (by decide) 0 20 rfl rfl) rfl rfl hl.1 rfl (lv_room (Nat.le_of_ble_eq_true rfl)) dX16_open_6 ⟨(Nat.le_of_ble_eq_true rfl), (Nat.le_of_ble_eq_true rfl)⟩) hS hA hP hD [0, 1, 2, 3, 4, 5, 6] [] rfl rfl (by decide) (by decide) (fun u H locs hw hP hD hS => ?_)
  obtain rfl := hw
  have hP : va_P D vwCl [(m7, .inl (ty 3, 384, .inl (fun _ => 0))), (m8, .inl (ty 3, 384, .inl (fun _ => 0))), (m9, .inl (ty 0, 20, .inl (fun _ => 0))), (m12, .inl (ty 0, 384, .inl (fun j => if j < 384 then (-1) else 0))), (m10, .inr (4, [.int (0 + 1), .ref td, .int 0])), (m0, .inr (20, [.int 0, .int 0, .ref m1, .ref m2, .ref m3, .int 0, .ref m4, .ref m5, .ref m6, .int 1, .ref m7, .ref m8, .ref m9, .int 0, .ref m10, .int 0, .ref m11, .ref m12, .ref m13, .int 0, .ref m14, .int 0, .int 0, .int 0, .ref m15, .ref m16])), (m2, .inr (4, [.int 0, .ref td, .int 0]))] H := hP
  have hD : va_D A [(m7, .inl (ty 3, 384, .inl (fun _ => 0))), (m8, .inl (ty 3, 384, .inl (fun _ => 0))), (m9, .inl (ty 0, 20, .inl (fun _ => 0))), (m12, .inl (ty 0, 384, .inl (fun j => if j < 384 then (-1) else 0))), (m10, .inr (4, [.int (0 + 1), .ref td, .int 0])), (m0, .inr (20, [.int 0, .int 0, .ref m1, .ref m2, .ref m3, .int 0, .ref m4, .ref m5, .ref m6, .int 1, .ref m7, .ref m8, .ref m9, .int 0, .ref m10, .int 0, .ref m11, .ref m12, .ref m13, .int 0, .ref m14, .int 0, .int 0, .int 0, .ref m15, .ref m16])), (m2, .inr (4, [.int 0, .ref td, .int 0]))] := hD
  refine W.widen (k := 0) (n := 0) (Nat.le_of_ble_eq_true rfl) (Nat.le_of_ble_eq_true rfl) ?_
  refine lv_aload_n hx hb dX16_open_9 rfl (lv_at hl 0 rfl) ?_
  refine va_get (D := D) (ci := 20) (v := .int 0) (C := RX16) (T := TX16) (N := 26) hx hb hts iv_k_X16_open_X16 hown hK hP 5 rfl rfl 15 (by decide) (hts (.fieldLink RX16 296 "AnswerFoldModel" "openMany" "I") (by decide +kernel)) (fun _ h9 => h9) rfl dX16_open_10 ?_
  have hP9 := hP.sub (ws' := [(m0, .inr (20, [.int 0, .int 0, .ref m1, .ref m2, .ref m3, .int 0, .ref m4, .ref m5, .ref m6, .int 1, .ref m7, .ref m8, .ref m9, .int 0, .ref m10, .int 0, .ref m11, .ref m12, .ref m13, .int 0, .ref m14, .int 0, .int 0, .int 0, .ref m15, .ref m16]))]) [5] rfl
  have hD9 := hD.sub (ws' := [(m0, .inr (20, [.int 0, .int 0, .ref m1, .ref m2, .ref m3, .int 0, .ref m4, .ref m5, .ref m6, .int 1, .ref m7, .ref m8, .ref m9, .int 0, .ref m10, .int 0, .ref m11, .ref m12, .ref m13, .int 0, .ref m14, .int 0, .int 0, .int 0, .ref m15, .ref m16]))]) [5] (by decide) rfl
  refine W.widen (k := 0) (n := 0) (Nat.le_of_ble_eq_true rfl) (Nat.le_of_ble_eq_true rfl) ?_
  exact W.iret (v := 0) hx hb hr (fun t ht hW => ⟨⟨0, [(m0, .inr (20, [.int 0, .int 0, .ref m1, .ref m2, .ref m3, .int 0, .ref m4, .ref m5, .ref m6, .int 1, .ref m7, .ref m8, .ref m9, .int 0, .ref m10, .int 0, .ref m11, .ref m12, .ref m13, .int 0, .ref m14, .int 0, .int 0, .int 0, .ref m15, .ref m16]))], rfl, ⟨rfl, rfl⟩, wq_B.of ht hP9 hD9⟩, hS.F ht⟩) hS.2.2 dX16_open_13
def vs_k_X16_findAssumed : List Cond := .code yX16_findAssumed cX16_findAssumed 4 (some .boolean) :: ([.fieldLink RX16 312 "AnswerFoldModel" "must" "I", .fieldLink RX16 315 "AnswerFoldModel" "mustNot" "I", .fieldLink RX16 49 "AnswerFoldModel" "bitOf" "[I", .fieldLink RX16 30 "AnswerFoldModel" "assumed" "[I"] ++ (u_ws RX16 TX16 26))
theorem iv_k_X16_findAssumed_X16 : ∀ w ∈ u_ws RX16 TX16 26, w ∈ vs_k_X16_findAssumed := (fun _ h => List.mem_cons_of_mem _ (List.mem_append_right _ (h)))
set_option maxHeartbeats 4000000 in
set_option maxRecDepth 100000 in
theorem k_X16_findAssumed (l : Launch) (D : va_G) (ty : Nat → ClassId) (td mi sz : Nat) (m0 : Nat) (m1 : Nat) (m2 : Nat) (m3 : Nat) (m4 : Nat) (m5 : Nat) (m6 : Nat) (m7 : Nat) (m8 : Nat) (m9 : Nat) (m10 : Nat) (m11 : Nat) (m12 : Nat) (m13 : Nat) (m14 : Nat) (m15 : Nat) (m16 : Nat) : Met l yX16_findAssumed vs_k_X16_findAssumed { frames := 0, cells := 0, slots := 0, locals := 0 } (va_Pc [.ref m0] (wq_P D ty td mi [(m0, .inr (20, [.int 0, .int 0, .ref m1, .ref m2, .ref m3, .int 0, .ref m4, .ref m5, .ref m6, .int 1, .ref m7, .ref m8, .ref m9, .int 0, .ref m10, .int 0, .ref m11, .ref m12, .ref m13, .int 0, .ref m14, .int 0, .int 0, .int 0, .ref m15, .ref m16])), (m12, .inl (ty 0, 384, .inl (fun j => if j < 384 then (-1) else 0))), (m6, .inl (ty 0, 384, .inl (fun _ => 0))), (m7, .inl (ty 3, 384, .inl (fun _ => 0)))] sz)) (va_Qi (fun (r : Int32) (u : va_W) => (r = 1 ∧ (u = [(m0, .inr (20, [.int 0, .int 0, .ref m1, .ref m2, .ref m3, .int 0, .ref m4, .ref m5, .ref m6, .int 1, .ref m7, .ref m8, .ref m9, .int 0, .ref m10, .int 0, .ref m11, .ref m12, .ref m13, .int 0, .ref m14, .int 0, .int 0, .int 0, .ref m15, .ref m16])), (m12, .inl (ty 0, 384, .inl (fun j => if j < 384 then (-1) else 0))), (m6, .inl (ty 0, 384, .inl (fun _ => 0))), (m7, .inl (ty 3, 384, .inl (fun _ => 0)))]))) (wq_B D (va_A [(m0, .inr (20, [.int 0, .int 0, .ref m1, .ref m2, .ref m3, .int 0, .ref m4, .ref m5, .ref m6, .int 1, .ref m7, .ref m8, .ref m9, .int 0, .ref m10, .int 0, .ref m11, .ref m12, .ref m13, .int 0, .ref m14, .int 0, .int 0, .int 0, .ref m15, .ref m16])), (m12, .inl (ty 0, 384, .inl (fun j => if j < 384 then (-1) else 0))), (m6, .inl (ty 0, 384, .inl (fun _ => 0))), (m7, .inl (ty 3, 384, .inl (fun _ => 0)))] sz)) (va_A [(m0, .inr (20, [.int 0, .int 0, .ref m1, .ref m2, .ref m3, .int 0, .ref m4, .ref m5, .ref m6, .int 1, .ref m7, .ref m8, .ref m9, .int 0, .ref m10, .int 0, .ref m11, .ref m12, .ref m13, .int 0, .ref m14, .int 0, .int 0, .int 0, .ref m15, .ref m16])), (m12, .inl (ty 0, 384, .inl (fun j => if j < 384 then (-1) else 0))), (m6, .inl (ty 0, 384, .inl (fun _ => 0))), (m7, .inl (ty 3, 384, .inl (fun _ => 0)))] sz)) 0 0 (va_A [(m0, .inr (20, [.int 0, .int 0, .ref m1, .ref m2, .ref m3, .int 0, .ref m4, .ref m5, .ref m6, .int 1, .ref m7, .ref m8, .ref m9, .int 0, .ref m10, .int 0, .ref m11, .ref m12, .ref m13, .int 0, .ref m14, .int 0, .int 0, .int 0, .ref m15, .ref m16])), (m12, .inl (ty 0, 384, .inl (fun j => if j < 384 then (-1) else 0))), (m6, .inl (ty 0, 384, .inl (fun _ => 0))), (m7, .inl (ty 3, 384, .inl (fun _ => 0)))] sz) := by
  refine Met.ofW (cc := cX16_findAssumed) (maxL := 4) (ret := (some .boolean)) (by decide) rfl ?_
  intro p e s m args below meth c s₁ B hml hv
  obtain ⟨rfl, hsz, hP, hK, hD0, hE⟩ := hv
  have hx := B.exec
  have hb := B.bytes
  have hr := B.returns
  have hts := atoms_spec (ws := vs_k_X16_findAssumed) B.pre
  have hown : s.vm.findClass RX16 = some m.cls := findClass_of_methodNamed B.named
  have hlocks := B.notSynchronized
  subst hsz
  have hD := hD0.self (sz := s.heap.size)
  generalize hAe : va_A [(m0, .inr (20, [.int 0, .int 0, .ref m1, .ref m2, .ref m3, .int 0, .ref m4, .ref m5, .ref m6, .int 1, .ref m7, .ref m8, .ref m9, .int 0, .ref m10, .int 0, .ref m11, .ref m12, .ref m13, .int 0, .ref m14, .int 0, .int 0, .int 0, .ref m15, .ref m16])), (m12, .inl (ty 0, 384, .inl (fun j => if j < 384 then (-1) else 0))), (m6, .inl (ty 0, 384, .inl (fun _ => 0))), (m7, .inl (ty 3, 384, .inl (fun _ => 0)))] s.heap.size = A at hD hE ⊢
  have hA : ∀ q : Nat, s.heap.size ≤ q → A q := fun q h => by rw [← hAe]; exact Or.inr h
  have hS : va_S A s.heap s.heap [] := va_S.rf
  have hP : va_P D vwCl [(m0, .inr (20, [.int 0, .int 0, .ref m1, .ref m2, .ref m3, .int 0, .ref m4, .ref m5, .ref m6, .int 1, .ref m7, .ref m8, .ref m9, .int 0, .ref m10, .int 0, .ref m11, .ref m12, .ref m13, .int 0, .ref m14, .int 0, .int 0, .int 0, .ref m15, .ref m16])), (m12, .inl (ty 0, 384, .inl (fun j => if j < 384 then (-1) else 0))), (m6, .inl (ty 0, 384, .inl (fun _ => 0))), (m7, .inl (ty 3, 384, .inl (fun _ => 0)))] s.heap := hP
  have hl := lv_entry ([.ref m0]) (n := 4) (Nat.le_of_ble_eq_true rfl)
  rw [lg_entry_eq]
  generalize (lg_sl ([.ref m0]) ++ List.replicate (4 - (lg_sl ([.ref m0])).length) Slot.unset).toArray = ls at hl ⊢
  have hl : lv_has ls 4 [(0, .ref m0)] := hl
  refine lv_aload_n hx hb dX16_findAssumed_0 rfl (lv_at hl 0 rfl) ?_
  refine lv_iconst (v := 0) hx hb dX16_findAssumed_1 (by decide) ?_
  refine va_put (D := D) (ci := 20) (v := .int 0) (ty := tyX16 21) (C := RX16) (T := TX16) (N := 26) hx hb hts iv_k_X16_findAssumed_X16 tyX16 tyX16_ok nmX16 hown hK hP hD hS 0 rfl rfl 21 (by decide) (hts (.fieldLink RX16 312 "AnswerFoldModel" "must" "I") (by decide +kernel)) (fun _ h9 => h9) rfl (by decide +kernel) rfl rfl (Nat.le_of_ble_eq_true rfl) dX16_findAssumed_2 (fun H locs hP hD hS => ?_)
  have hP : va_P D vwCl [(m0, .inr (20, [.int 0, .int 0, .ref m1, .ref m2, .ref m3, .int 0, .ref m4, .ref m5, .ref m6, .int 1, .ref m7, .ref m8, .ref m9, .int 0, .ref m10, .int 0, .ref m11, .ref m12, .ref m13, .int 0, .ref m14, .int 0, .int 0, .int 0, .ref m15, .ref m16])), (m12, .inl (ty 0, 384, .inl (fun j => if j < 384 then (-1) else 0))), (m6, .inl (ty 0, 384, .inl (fun _ => 0))), (m7, .inl (ty 3, 384, .inl (fun _ => 0)))] H := hP
  have hD : va_D A [(m0, .inr (20, [.int 0, .int 0, .ref m1, .ref m2, .ref m3, .int 0, .ref m4, .ref m5, .ref m6, .int 1, .ref m7, .ref m8, .ref m9, .int 0, .ref m10, .int 0, .ref m11, .ref m12, .ref m13, .int 0, .ref m14, .int 0, .int 0, .int 0, .ref m15, .ref m16])), (m12, .inl (ty 0, 384, .inl (fun j => if j < 384 then (-1) else 0))), (m6, .inl (ty 0, 384, .inl (fun _ => 0))), (m7, .inl (ty 3, 384, .inl (fun _ => 0)))] := hD
  refine lv_aload_n hx hb dX16_findAssumed_5 rfl (lv_at hl 0 rfl) ?_
  refine lv_iconst (v := 0) hx hb dX16_findAssumed_6 (by decide) ?_
  refine va_put (D := D) (ci := 20) (v := .int 0) (ty := tyX16 22) (C := RX16) (T := TX16) (N := 26) hx hb hts iv_k_X16_findAssumed_X16 tyX16 tyX16_ok nmX16 hown hK hP hD hS 0 rfl rfl 22 (by decide) (hts (.fieldLink RX16 315 "AnswerFoldModel" "mustNot" "I") (by decide +kernel)) (fun _ h9 => h9) rfl (by decide +kernel) rfl rfl (Nat.le_of_ble_eq_true rfl) dX16_findAssumed_7 (fun H locs hP hD hS => ?_)
  have hP : va_P D vwCl [(m0, .inr (20, [.int 0, .int 0, .ref m1, .ref m2, .ref m3, .int 0, .ref m4, .ref m5, .ref m6, .int 1, .ref m7, .ref m8, .ref m9, .int 0, .ref m10, .int 0, .ref m11, .ref m12, .ref m13, .int 0, .ref m14, .int 0, .int 0, .int 0, .ref m15, .ref m16])), (m12, .inl (ty 0, 384, .inl (fun j => if j < 384 then (-1) else 0))), (m6, .inl (ty 0, 384, .inl (fun _ => 0))), (m7, .inl (ty 3, 384, .inl (fun _ => 0)))] H := hP
  have hD : va_D A [(m0, .inr (20, [.int 0, .int 0, .ref m1, .ref m2, .ref m3, .int 0, .ref m4, .ref m5, .ref m6, .int 1, .ref m7, .ref m8, .ref m9, .int 0, .ref m10, .int 0, .ref m11, .ref m12, .ref m13, .int 0, .ref m14, .int 0, .int 0, .int 0, .ref m15, .ref m16])), (m12, .inl (ty 0, 384, .inl (fun j => if j < 384 then (-1) else 0))), (m6, .inl (ty 0, 384, .inl (fun _ => 0))), (m7, .inl (ty 3, 384, .inl (fun _ => 0)))] := hD
  refine lv_iconst (v := 1) hx hb dX16_findAssumed_10 (by decide) ?_
  refine lv_istore_n (lv' := [(1, .int 1), (0, .ref m0)]) hx hb dX16_findAssumed_11 rfl hl (by decide) rfl (fun ls hl => ?_)
  refine lv_iconst (v := 0) hx hb dX16_findAssumed_12 (by decide) ?_
  refine lv_istore_n (lv' := [(2, .int 0), (1, .int 1), (0, .ref m0)]) hx hb dX16_findAssumed_13 rfl hl (by decide) rfl (fun ls hl => ?_)
  have LOOP : ∀ (n i : Nat), i ≤ 384 → 384 - i < n → ∀ (H : Heap) (locs : List Loc), va_P D vwCl [(m0, .inr (20, [.int 0, .int 0, .ref m1, .ref m2, .ref m3, .int 0, .ref m4, .ref m5, .ref m6, .int 1, .ref m7, .ref m8, .ref m9, .int 0, .ref m10, .int 0, .ref m11, .ref m12, .ref m13, .int 0, .ref m14, .int 0, .int 0, .int 0, .ref m15, .ref m16])), (m12, .inl (ty 0, 384, .inl (fun j => if j < 384 then (-1) else 0))), (m6, .inl (ty 0, 384, .inl (fun _ => 0))), (m7, .inl (ty 3, 384, .inl (fun _ => 0)))] H → va_D A [(m0, .inr (20, [.int 0, .int 0, .ref m1, .ref m2, .ref m3, .int 0, .ref m4, .ref m5, .ref m6, .int 1, .ref m7, .ref m8, .ref m9, .int 0, .ref m10, .int 0, .ref m11, .ref m12, .ref m13, .int 0, .ref m14, .int 0, .int 0, .int 0, .ref m15, .ref m16])), (m12, .inl (ty 0, 384, .inl (fun j => if j < 384 then (-1) else 0))), (m6, .inl (ty 0, 384, .inl (fun _ => 0))), (m7, .inl (ty 3, 384, .inl (fun _ => 0)))] → va_S A s.heap H locs → ∀ ls : Array Slot, lv_has ls 4 [(2, .int (nI i)), (1, .int 1), (0, .ref m0)] → W p l e (headSpec vs_k_X16_findAssumed { frames := 0, cells := 0, slots := 0, locals := 0 }).room s m ([.ref m0] : List Value).toArray below meth c H locs 0 0 (MQ below (va_Qi (fun (r : Int32) (u : va_W) => (r = 1 ∧ (u = [(m0, .inr (20, [.int 0, .int 0, .ref m1, .ref m2, .ref m3, .int 0, .ref m4, .ref m5, .ref m6, .int 1, .ref m7, .ref m8, .ref m9, .int 0, .ref m10, .int 0, .ref m11, .ref m12, .ref m13, .int 0, .ref m14, .int 0, .int 0, .int 0, .ref m15, .ref m16])), (m12, .inl (ty 0, 384, .inl (fun j => if j < 384 then (-1) else 0))), (m6, .inl (ty 0, 384, .inl (fun _ => 0))), (m7, .inl (ty 3, 384, .inl (fun _ => 0)))]))) (wq_B D A) A) ([.ref m0] : List Value).toArray s 0 0 A) (F0 m 14 ls []) := by
    intro n
    induction n with
    | zero => intro i h1 h2; omega
    | succ n ih =>
      intro i hi hn H locs hP hD hS ls hl
      refine lv_iload_n hx hb dX16_findAssumed_14 rfl (lv_at hl 0 rfl) ?_
      refine lv_sipush (v := 384) hx hb dX16_findAssumed_15 (by decide) ?_
      refine lv_icmp_ge (tgt := 159) hx hb dX16_findAssumed_18 (by decide) (fun c0 => ?_) (fun c0 => ?_)
      · have hiN : i = 384 := wq_geN (N := 384) c0 hi (by decide)
        subst hiN
        have hl : lv_has ls 4 [(2, .int 384), (1, .int 1), (0, .ref m0)] := hl
        have hP : va_P D vwCl [(m0, .inr (20, [.int 0, .int 0, .ref m1, .ref m2, .ref m3, .int 0, .ref m4, .ref m5, .ref m6, .int 1, .ref m7, .ref m8, .ref m9, .int 0, .ref m10, .int 0, .ref m11, .ref m12, .ref m13, .int 0, .ref m14, .int 0, .int 0, .int 0, .ref m15, .ref m16])), (m12, .inl (ty 0, 384, .inl (fun j => if j < 384 then (-1) else 0))), (m6, .inl (ty 0, 384, .inl (fun _ => 0))), (m7, .inl (ty 3, 384, .inl (fun _ => 0)))] H := hP
        have hD : va_D A [(m0, .inr (20, [.int 0, .int 0, .ref m1, .ref m2, .ref m3, .int 0, .ref m4, .ref m5, .ref m6, .int 1, .ref m7, .ref m8, .ref m9, .int 0, .ref m10, .int 0, .ref m11, .ref m12, .ref m13, .int 0, .ref m14, .int 0, .int 0, .int 0, .ref m15, .ref m16])), (m12, .inl (ty 0, 384, .inl (fun j => if j < 384 then (-1) else 0))), (m6, .inl (ty 0, 384, .inl (fun _ => 0))), (m7, .inl (ty 3, 384, .inl (fun _ => 0)))] := hD
        refine lv_iload_n hx hb dX16_findAssumed_159 rfl (lv_at hl 1 rfl) ?_
        have hP9 := hP.sub (ws' := [(m0, .inr (20, [.int 0, .int 0, .ref m1, .ref m2, .ref m3, .int 0, .ref m4, .ref m5, .ref m6, .int 1, .ref m7, .ref m8, .ref m9, .int 0, .ref m10, .int 0, .ref m11, .ref m12, .ref m13, .int 0, .ref m14, .int 0, .int 0, .int 0, .ref m15, .ref m16])), (m12, .inl (ty 0, 384, .inl (fun j => if j < 384 then (-1) else 0))), (m6, .inl (ty 0, 384, .inl (fun _ => 0))), (m7, .inl (ty 3, 384, .inl (fun _ => 0)))]) [0, 1, 2, 3] rfl
        have hD9 := hD.sub (ws' := [(m0, .inr (20, [.int 0, .int 0, .ref m1, .ref m2, .ref m3, .int 0, .ref m4, .ref m5, .ref m6, .int 1, .ref m7, .ref m8, .ref m9, .int 0, .ref m10, .int 0, .ref m11, .ref m12, .ref m13, .int 0, .ref m14, .int 0, .int 0, .int 0, .ref m15, .ref m16])), (m12, .inl (ty 0, 384, .inl (fun j => if j < 384 then (-1) else 0))), (m6, .inl (ty 0, 384, .inl (fun _ => 0))), (m7, .inl (ty 3, 384, .inl (fun _ => 0)))]) [0, 1, 2, 3] (by decide) rfl
        refine W.widen (k := 0) (n := 0) (Nat.le_of_ble_eq_true rfl) (Nat.le_of_ble_eq_true rfl) ?_
        exact W.zret (v := 1) hx hb hr rfl (fun t ht hW => ⟨⟨1, [(m0, .inr (20, [.int 0, .int 0, .ref m1, .ref m2, .ref m3, .int 0, .ref m4, .ref m5, .ref m6, .int 1, .ref m7, .ref m8, .ref m9, .int 0, .ref m10, .int 0, .ref m11, .ref m12, .ref m13, .int 0, .ref m14, .int 0, .int 0, .int 0, .ref m15, .ref m16])), (m12, .inl (ty 0, 384, .inl (fun j => if j < 384 then (-1) else 0))), (m6, .inl (ty 0, 384, .inl (fun _ => 0))), (m7, .inl (ty 3, 384, .inl (fun _ => 0)))], rfl, ⟨rfl, rfl⟩, wq_B.of ht hP9 hD9⟩, hS.F ht⟩) hS.2.2 dX16_findAssumed_160
      · have hlt : i < 384 := wq_ltN (N := 384) c0 hi (by decide)
        refine lv_aload_n hx hb dX16_findAssumed_21 rfl (lv_at hl 2 rfl) ?_
        refine va_get (D := D) (ci := 20) (v := .ref m12) (C := RX16) (T := TX16) (N := 26) hx hb hts iv_k_X16_findAssumed_X16 hown hK hP 0 rfl rfl 17 (by decide) (hts (.fieldLink RX16 49 "AnswerFoldModel" "bitOf" "[I") (by decide +kernel)) (fun _ h9 => h9) rfl dX16_findAssumed_22 ?_
        refine lv_iload_n hx hb dX16_findAssumed_25 rfl (lv_at hl 0 rfl) ?_
        refine va_iald (D := D) hx hb hK hP 1 0 rfl rfl (by first | assumption | exact vp_in_nI (by omega) (by omega)) dX16_findAssumed_26 ?_
        refine lv_topi (nm_r (e' := (-1)) (by first | rfl | decide | exact wq_sel hlt (by decide)) ?_)
        refine lv_if_lt (tgt := 34) hx hb dX16_findAssumed_27 (by decide) (fun _ => ?_) (fun c0 => absurd (by decide) c0)
        refine lv_iconst (v := 0) hx hb dX16_findAssumed_34 (by decide) ?_
        refine lv_istore_n (lv' := [(3, .int 0), (2, .int (nI i)), (1, .int 1), (0, .ref m0)]) hx hb dX16_findAssumed_35 rfl hl (by decide) rfl (fun ls hl => ?_)
        refine lv_aload_n hx hb dX16_findAssumed_36 rfl (lv_at hl 3 rfl) ?_
        refine lv_dup hx hb dX16_findAssumed_37 rfl ?_
        refine va_get (D := D) (ci := 20) (v := .int 0) (C := RX16) (T := TX16) (N := 26) hx hb hts iv_k_X16_findAssumed_X16 hown hK hP 0 rfl rfl 21 (by decide) (hts (.fieldLink RX16 312 "AnswerFoldModel" "must" "I") (by decide +kernel)) (fun _ h9 => h9) rfl dX16_findAssumed_38 ?_
        refine lv_aload_n hx hb dX16_findAssumed_41 rfl (lv_at hl 3 rfl) ?_
        refine va_get (D := D) (ci := 20) (v := .ref m6) (C := RX16) (T := TX16) (N := 26) hx hb hts iv_k_X16_findAssumed_X16 hown hK hP 0 rfl rfl 8 (by decide) (hts (.fieldLink RX16 30 "AnswerFoldModel" "assumed" "[I") (by decide +kernel)) (fun _ h9 => h9) rfl dX16_findAssumed_42 ?_
        refine lv_iload_n hx hb dX16_findAssumed_45 rfl (lv_at hl 1 rfl) ?_
        refine va_iald (D := D) hx hb hK hP 2 0 rfl rfl (by first | assumption | exact vp_in_nI (by omega) (by omega)) dX16_findAssumed_46 ?_
        refine lv_topi (nm_r (e' := 0) (by first | rfl | decide | exact wq_sel hlt (by decide)) ?_)
        refine lv_iconst (v := 1) hx hb dX16_findAssumed_47 (by decide) ?_
        refine lv_icmp_ne (tgt := 66) hx hb dX16_findAssumed_48 (by decide) (fun _ => ?_) (fun c0 => absurd c0 (by decide))
        refine lv_iconst (v := 0) hx hb dX16_findAssumed_66 (by decide) ?_
        refine lv_ior hx hb dX16_findAssumed_67 ?_
        refine lv_topi (nm_r (e' := 0) (by decide) ?_)
        refine va_put (D := D) (ci := 20) (v := .int 0) (ty := tyX16 21) (C := RX16) (T := TX16) (N := 26) hx hb hts iv_k_X16_findAssumed_X16 tyX16 tyX16_ok nmX16 hown hK hP hD hS 0 rfl rfl 21 (by decide) (hts (.fieldLink RX16 312 "AnswerFoldModel" "must" "I") (by decide +kernel)) (fun _ h9 => h9) rfl (by decide +kernel) rfl rfl (Nat.le_of_ble_eq_true rfl) dX16_findAssumed_68 (fun H locs hP hD hS => ?_)
        have hP : va_P D vwCl [(m0, .inr (20, [.int 0, .int 0, .ref m1, .ref m2, .ref m3, .int 0, .ref m4, .ref m5, .ref m6, .int 1, .ref m7, .ref m8, .ref m9, .int 0, .ref m10, .int 0, .ref m11, .ref m12, .ref m13, .int 0, .ref m14, .int 0, .int 0, .int 0, .ref m15, .ref m16])), (m12, .inl (ty 0, 384, .inl (fun j => if j < 384 then (-1) else 0))), (m6, .inl (ty 0, 384, .inl (fun _ => 0))), (m7, .inl (ty 3, 384, .inl (fun _ => 0)))] H := hP
        have hD : va_D A [(m0, .inr (20, [.int 0, .int 0, .ref m1, .ref m2, .ref m3, .int 0, .ref m4, .ref m5, .ref m6, .int 1, .ref m7, .ref m8, .ref m9, .int 0, .ref m10, .int 0, .ref m11, .ref m12, .ref m13, .int 0, .ref m14, .int 0, .int 0, .int 0, .ref m15, .ref m16])), (m12, .inl (ty 0, 384, .inl (fun j => if j < 384 then (-1) else 0))), (m6, .inl (ty 0, 384, .inl (fun _ => 0))), (m7, .inl (ty 3, 384, .inl (fun _ => 0)))] := hD
        refine lv_aload_n hx hb dX16_findAssumed_71 rfl (lv_at hl 3 rfl) ?_
        refine lv_dup hx hb dX16_findAssumed_72 rfl ?_
        refine va_get (D := D) (ci := 20) (v := .int 0) (C := RX16) (T := TX16) (N := 26) hx hb hts iv_k_X16_findAssumed_X16 hown hK hP 0 rfl rfl 22 (by decide) (hts (.fieldLink RX16 315 "AnswerFoldModel" "mustNot" "I") (by decide +kernel)) (fun _ h9 => h9) rfl dX16_findAssumed_73 ?_
        refine lv_aload_n hx hb dX16_findAssumed_76 rfl (lv_at hl 3 rfl) ?_
        refine va_get (D := D) (ci := 20) (v := .ref m6) (C := RX16) (T := TX16) (N := 26) hx hb hts iv_k_X16_findAssumed_X16 hown hK hP 0 rfl rfl 8 (by decide) (hts (.fieldLink RX16 30 "AnswerFoldModel" "assumed" "[I") (by decide +kernel)) (fun _ h9 => h9) rfl dX16_findAssumed_77 ?_
        refine lv_iload_n hx hb dX16_findAssumed_80 rfl (lv_at hl 1 rfl) ?_
        refine va_iald (D := D) hx hb hK hP 2 0 rfl rfl (by first | assumption | exact vp_in_nI (by omega) (by omega)) dX16_findAssumed_81 ?_
        refine lv_topi (nm_r (e' := 0) (by first | rfl | decide | exact wq_sel hlt (by decide)) ?_)
        refine lv_iconst (v := 2) hx hb dX16_findAssumed_82 (by decide) ?_
        refine lv_icmp_ne (tgt := 101) hx hb dX16_findAssumed_83 (by decide) (fun _ => ?_) (fun c0 => absurd c0 (by decide))
        refine lv_iconst (v := 0) hx hb dX16_findAssumed_101 (by decide) ?_
        refine lv_ior hx hb dX16_findAssumed_102 ?_
        refine lv_topi (nm_r (e' := 0) (by decide) ?_)
        refine va_put (D := D) (ci := 20) (v := .int 0) (ty := tyX16 22) (C := RX16) (T := TX16) (N := 26) hx hb hts iv_k_X16_findAssumed_X16 tyX16 tyX16_ok nmX16 hown hK hP hD hS 0 rfl rfl 22 (by decide) (hts (.fieldLink RX16 315 "AnswerFoldModel" "mustNot" "I") (by decide +kernel)) (fun _ h9 => h9) rfl (by decide +kernel) rfl rfl (Nat.le_of_ble_eq_true rfl) dX16_findAssumed_103 (fun H locs hP hD hS => ?_)
        have hP : va_P D vwCl [(m0, .inr (20, [.int 0, .int 0, .ref m1, .ref m2, .ref m3, .int 0, .ref m4, .ref m5, .ref m6, .int 1, .ref m7, .ref m8, .ref m9, .int 0, .ref m10, .int 0, .ref m11, .ref m12, .ref m13, .int 0, .ref m14, .int 0, .int 0, .int 0, .ref m15, .ref m16])), (m12, .inl (ty 0, 384, .inl (fun j => if j < 384 then (-1) else 0))), (m6, .inl (ty 0, 384, .inl (fun _ => 0))), (m7, .inl (ty 3, 384, .inl (fun _ => 0)))] H := hP
        have hD : va_D A [(m0, .inr (20, [.int 0, .int 0, .ref m1, .ref m2, .ref m3, .int 0, .ref m4, .ref m5, .ref m6, .int 1, .ref m7, .ref m8, .ref m9, .int 0, .ref m10, .int 0, .ref m11, .ref m12, .ref m13, .int 0, .ref m14, .int 0, .int 0, .int 0, .ref m15, .ref m16])), (m12, .inl (ty 0, 384, .inl (fun j => if j < 384 then (-1) else 0))), (m6, .inl (ty 0, 384, .inl (fun _ => 0))), (m7, .inl (ty 3, 384, .inl (fun _ => 0)))] := hD
        refine lv_iload_n hx hb dX16_findAssumed_106 rfl (lv_at hl 2 rfl) ?_
        refine lv_if_eq (tgt := 151) hx hb dX16_findAssumed_107 (by decide) (fun c0 => absurd c0 (by decide)) (fun _ => ?_)
        refine lv_iload_n hx hb dX16_findAssumed_110 rfl (lv_at hl 0 rfl) ?_
        refine lv_if_ne (tgt := 147) hx hb dX16_findAssumed_111 (by decide) (fun c0 => absurd (by decide) c0) (fun _ => ?_)
        refine lv_aload_n hx hb dX16_findAssumed_114 rfl (lv_at hl 3 rfl) ?_
        refine va_get (D := D) (ci := 20) (v := .ref m6) (C := RX16) (T := TX16) (N := 26) hx hb hts iv_k_X16_findAssumed_X16 hown hK hP 0 rfl rfl 8 (by decide) (hts (.fieldLink RX16 30 "AnswerFoldModel" "assumed" "[I") (by decide +kernel)) (fun _ h9 => h9) rfl dX16_findAssumed_115 ?_
        refine lv_iload_n hx hb dX16_findAssumed_118 rfl (lv_at hl 1 rfl) ?_
        refine va_iald (D := D) hx hb hK hP 2 0 rfl rfl (by first | assumption | exact vp_in_nI (by omega) (by omega)) dX16_findAssumed_119 ?_
        refine lv_topi (nm_r (e' := 0) (by first | rfl | decide | exact wq_sel hlt (by decide)) ?_)
        refine lv_if_eq (tgt := 147) hx hb dX16_findAssumed_120 (by decide) (fun _ => ?_) (fun c0 => absurd (by decide) c0)
        refine lv_iconst (v := 1) hx hb dX16_findAssumed_147 (by decide) ?_
        refine lv_goto (tgt := 152) hx hb dX16_findAssumed_148 (by decide) ?_
        refine lv_istore_n (lv' := [(1, .int 1), (3, .int 0), (2, .int (nI i)), (0, .ref m0)]) hx hb dX16_findAssumed_152 rfl hl (by decide) rfl (fun ls hl => ?_)
        refine lv_iinc (v := nI (i + 1)) (lv' := [(2, .int (nI (i + 1))), (1, .int 1), (3, .int 0), (0, .ref m0)]) hx hb dX16_findAssumed_153 hl (k := 2) rfl (by exact nI_1 i) (by decide) rfl (fun ls hl => ?_)
        refine lv_goto (tgt := 14) hx hb dX16_findAssumed_156 (by decide) ?_
        have hP : va_P D vwCl [(m0, .inr (20, [.int 0, .int 0, .ref m1, .ref m2, .ref m3, .int 0, .ref m4, .ref m5, .ref m6, .int 1, .ref m7, .ref m8, .ref m9, .int 0, .ref m10, .int 0, .ref m11, .ref m12, .ref m13, .int 0, .ref m14, .int 0, .int 0, .int 0, .ref m15, .ref m16])), (m12, .inl (ty 0, 384, .inl (fun j => if j < 384 then (-1) else 0))), (m6, .inl (ty 0, 384, .inl (fun _ => 0))), (m7, .inl (ty 3, 384, .inl (fun _ => 0)))] H := hP
        have hD : va_D A [(m0, .inr (20, [.int 0, .int 0, .ref m1, .ref m2, .ref m3, .int 0, .ref m4, .ref m5, .ref m6, .int 1, .ref m7, .ref m8, .ref m9, .int 0, .ref m10, .int 0, .ref m11, .ref m12, .ref m13, .int 0, .ref m14, .int 0, .int 0, .int 0, .ref m15, .ref m16])), (m12, .inl (ty 0, 384, .inl (fun j => if j < 384 then (-1) else 0))), (m6, .inl (ty 0, 384, .inl (fun _ => 0))), (m7, .inl (ty 3, 384, .inl (fun _ => 0)))] := hD
        exact ih (i + 1) (by omega) (by omega) _ _ (hP.sub [0, 1, 2, 3] rfl) (hD.sub [0, 1, 2, 3] (by decide) rfl) hS _ (lv_sub hl [0, 1, 3] rfl)
  exact LOOP 385 0 (by omega) (by omega) _ _ hP hD hS _ hl
def vs_k_X16_fits : List Cond := .code yX16_fits cX16_fits 2 (some .boolean) :: ([.fieldLink RX16 312 "AnswerFoldModel" "must" "I", .fieldLink RX16 315 "AnswerFoldModel" "mustNot" "I"] ++ (u_ws RX16 TX16 26))
theorem iv_k_X16_fits_X16 : ∀ w ∈ u_ws RX16 TX16 26, w ∈ vs_k_X16_fits := (fun _ h => List.mem_cons_of_mem _ (List.mem_append_right _ (h)))
set_option maxHeartbeats 4000000 in
set_option maxRecDepth 100000 in
theorem k_X16_fits (l : Launch) (D : va_G) (ty : Nat → ClassId) (td mi sz : Nat) (m0 : Nat) (m1 : Nat) (m2 : Nat) (m3 : Nat) (m4 : Nat) (m5 : Nat) (m6 : Nat) (m7 : Nat) (m8 : Nat) (m9 : Nat) (m10 : Nat) (m11 : Nat) (m12 : Nat) (m13 : Nat) (m14 : Nat) (m15 : Nat) (m16 : Nat) : Met l yX16_fits vs_k_X16_fits { frames := 0, cells := 0, slots := 0, locals := 0 } (va_Pc [.ref m0, .int 0] (wq_P D ty td mi [(m0, .inr (20, [.int 0, .int 0, .ref m1, .ref m2, .ref m3, .int 0, .ref m4, .ref m5, .ref m6, .int 1, .ref m7, .ref m8, .ref m9, .int 0, .ref m10, .int 0, .ref m11, .ref m12, .ref m13, .int 0, .ref m14, .int 0, .int 0, .int 0, .ref m15, .ref m16]))] sz)) (va_Qi (fun (r : Int32) (u : va_W) => (r = 1 ∧ (u = [(m0, .inr (20, [.int 0, .int 0, .ref m1, .ref m2, .ref m3, .int 0, .ref m4, .ref m5, .ref m6, .int 1, .ref m7, .ref m8, .ref m9, .int 0, .ref m10, .int 0, .ref m11, .ref m12, .ref m13, .int 0, .ref m14, .int 0, .int 0, .int 0, .ref m15, .ref m16]))]))) (wq_B D (va_A [(m0, .inr (20, [.int 0, .int 0, .ref m1, .ref m2, .ref m3, .int 0, .ref m4, .ref m5, .ref m6, .int 1, .ref m7, .ref m8, .ref m9, .int 0, .ref m10, .int 0, .ref m11, .ref m12, .ref m13, .int 0, .ref m14, .int 0, .int 0, .int 0, .ref m15, .ref m16]))] sz)) (va_A [(m0, .inr (20, [.int 0, .int 0, .ref m1, .ref m2, .ref m3, .int 0, .ref m4, .ref m5, .ref m6, .int 1, .ref m7, .ref m8, .ref m9, .int 0, .ref m10, .int 0, .ref m11, .ref m12, .ref m13, .int 0, .ref m14, .int 0, .int 0, .int 0, .ref m15, .ref m16]))] sz)) 0 0 (va_A [(m0, .inr (20, [.int 0, .int 0, .ref m1, .ref m2, .ref m3, .int 0, .ref m4, .ref m5, .ref m6, .int 1, .ref m7, .ref m8, .ref m9, .int 0, .ref m10, .int 0, .ref m11, .ref m12, .ref m13, .int 0, .ref m14, .int 0, .int 0, .int 0, .ref m15, .ref m16]))] sz) := by
  refine Met.ofW (cc := cX16_fits) (maxL := 2) (ret := (some .boolean)) (by decide) rfl ?_
  intro p e s m args below meth c s₁ B hml hv
  obtain ⟨rfl, hsz, hP, hK, hD0, hE⟩ := hv
  have hx := B.exec
  have hb := B.bytes
  have hr := B.returns
  have hts := atoms_spec (ws := vs_k_X16_fits) B.pre
  have hown : s.vm.findClass RX16 = some m.cls := findClass_of_methodNamed B.named
  have hlocks := B.notSynchronized
  subst hsz
  have hD := hD0.self (sz := s.heap.size)
  generalize hAe : va_A [(m0, .inr (20, [.int 0, .int 0, .ref m1, .ref m2, .ref m3, .int 0, .ref m4, .ref m5, .ref m6, .int 1, .ref m7, .ref m8, .ref m9, .int 0, .ref m10, .int 0, .ref m11, .ref m12, .ref m13, .int 0, .ref m14, .int 0, .int 0, .int 0, .ref m15, .ref m16]))] s.heap.size = A at hD hE ⊢
  have hA : ∀ q : Nat, s.heap.size ≤ q → A q := fun q h => by rw [← hAe]; exact Or.inr h
  have hS : va_S A s.heap s.heap [] := va_S.rf
  have hP : va_P D vwCl [(m0, .inr (20, [.int 0, .int 0, .ref m1, .ref m2, .ref m3, .int 0, .ref m4, .ref m5, .ref m6, .int 1, .ref m7, .ref m8, .ref m9, .int 0, .ref m10, .int 0, .ref m11, .ref m12, .ref m13, .int 0, .ref m14, .int 0, .int 0, .int 0, .ref m15, .ref m16]))] s.heap := hP
  have hl := lv_entry ([.ref m0, .int 0]) (n := 2) (Nat.le_of_ble_eq_true rfl)
  rw [lg_entry_eq]
  generalize (lg_sl ([.ref m0, .int 0]) ++ List.replicate (2 - (lg_sl ([.ref m0, .int 0])).length) Slot.unset).toArray = ls at hl ⊢
  have hl : lv_has ls 2 [(0, .ref m0), (1, .int 0)] := hl
  refine lv_iload_n hx hb dX16_fits_0 rfl (lv_at hl 1 rfl) ?_
  refine lv_aload_n hx hb dX16_fits_1 rfl (lv_at hl 0 rfl) ?_
  refine va_get (D := D) (ci := 20) (v := .int 0) (C := RX16) (T := TX16) (N := 26) hx hb hts iv_k_X16_fits_X16 hown hK hP 0 rfl rfl 21 (by decide) (hts (.fieldLink RX16 312 "AnswerFoldModel" "must" "I") (by decide +kernel)) (fun _ h9 => h9) rfl dX16_fits_2 ?_
  refine lv_iand hx hb dX16_fits_5 ?_
  refine lv_topi (nm_r (e' := 0) (by decide) ?_)
  refine lv_aload_n hx hb dX16_fits_6 rfl (lv_at hl 0 rfl) ?_
  refine va_get (D := D) (ci := 20) (v := .int 0) (C := RX16) (T := TX16) (N := 26) hx hb hts iv_k_X16_fits_X16 hown hK hP 0 rfl rfl 21 (by decide) (hts (.fieldLink RX16 312 "AnswerFoldModel" "must" "I") (by decide +kernel)) (fun _ h9 => h9) rfl dX16_fits_7 ?_
  refine lv_icmp_ne (tgt := 26) hx hb dX16_fits_10 (by decide) (fun c0 => absurd (by decide) c0) (fun _ => ?_)
  refine lv_iload_n hx hb dX16_fits_13 rfl (lv_at hl 1 rfl) ?_
  refine lv_aload_n hx hb dX16_fits_14 rfl (lv_at hl 0 rfl) ?_
  refine va_get (D := D) (ci := 20) (v := .int 0) (C := RX16) (T := TX16) (N := 26) hx hb hts iv_k_X16_fits_X16 hown hK hP 0 rfl rfl 22 (by decide) (hts (.fieldLink RX16 315 "AnswerFoldModel" "mustNot" "I") (by decide +kernel)) (fun _ h9 => h9) rfl dX16_fits_15 ?_
  refine lv_iand hx hb dX16_fits_18 ?_
  refine lv_topi (nm_r (e' := 0) (by decide) ?_)
  refine lv_if_ne (tgt := 26) hx hb dX16_fits_19 (by decide) (fun c0 => absurd (by decide) c0) (fun _ => ?_)
  refine lv_iconst (v := 1) hx hb dX16_fits_22 (by decide) ?_
  refine lv_goto (tgt := 27) hx hb dX16_fits_23 (by decide) ?_
  have hP9 := hP.sub (ws' := [(m0, .inr (20, [.int 0, .int 0, .ref m1, .ref m2, .ref m3, .int 0, .ref m4, .ref m5, .ref m6, .int 1, .ref m7, .ref m8, .ref m9, .int 0, .ref m10, .int 0, .ref m11, .ref m12, .ref m13, .int 0, .ref m14, .int 0, .int 0, .int 0, .ref m15, .ref m16]))]) [0] rfl
  have hD9 := hD.sub (ws' := [(m0, .inr (20, [.int 0, .int 0, .ref m1, .ref m2, .ref m3, .int 0, .ref m4, .ref m5, .ref m6, .int 1, .ref m7, .ref m8, .ref m9, .int 0, .ref m10, .int 0, .ref m11, .ref m12, .ref m13, .int 0, .ref m14, .int 0, .int 0, .int 0, .ref m15, .ref m16]))]) [0] (by decide) rfl
  refine W.widen (k := 0) (n := 0) (Nat.le_of_ble_eq_true rfl) (Nat.le_of_ble_eq_true rfl) ?_
  exact W.zret (v := 1) hx hb hr rfl (fun t ht hW => ⟨⟨1, [(m0, .inr (20, [.int 0, .int 0, .ref m1, .ref m2, .ref m3, .int 0, .ref m4, .ref m5, .ref m6, .int 1, .ref m7, .ref m8, .ref m9, .int 0, .ref m10, .int 0, .ref m11, .ref m12, .ref m13, .int 0, .ref m14, .int 0, .int 0, .int 0, .ref m15, .ref m16]))], rfl, ⟨rfl, rfl⟩, wq_B.of ht hP9 hD9⟩, hS.F ht⟩) hS.2.2 dX16_fits_27
def vs_k_X16_isClosed : List Cond := .code yX16_isClosed cX16_isClosed 7 (some .boolean) :: ([.fieldLink RX16 43 "AnswerFoldModel" "kept" "Ljava/util/ArrayList;", .methodLink RX16 167 yJx4a65c_iterator_32c93, .instanceMethod yJx4a65c_iterator_32c93, .selects RJx4a65c yJx4a65c_iterator_32c93 yJx4a65c_iterator_32c93, .initialized RJx4a65c, .methodLink RX16 171 ⟨"java/util/Iterator", "hasNext", "()Z"⟩, .selects RJx35411 ⟨"java/util/Iterator", "hasNext", "()Z"⟩ yJx35411_hasNext_aae02, .instanceMethod yJx35411_hasNext_aae02, .initialized RJx35411] ++ (u_ws RX16 TX16 26 ++ (vs_k_iterator ++ (vs_k_hasNext))))
theorem iv_k_X16_isClosed_X16 : ∀ w ∈ u_ws RX16 TX16 26, w ∈ vs_k_X16_isClosed := (fun _ h => List.mem_cons_of_mem _ (List.mem_append_right _ (List.mem_append_left _ h)))
set_option maxRecDepth 20000 in
theorem gv_k_X16_isClosed_0 : GoodIn vs_k_X16_isClosed (wsV RX16 167 RJx4a65c yJx4a65c_iterator_32c93 vs_k_iterator) := goodIn_app (goodIn_sub (by decide +kernel) (by decide +kernel)) (goodIn_sub (fun _ h => List.mem_cons_of_mem _ (List.mem_append_right _ (List.mem_append_right _ (List.mem_append_left _ h)))) (by decide +kernel))
set_option maxRecDepth 20000 in
theorem gv_k_X16_isClosed_1 : GoodIn vs_k_X16_isClosed (va_wsF RX16 171 RJx35411 ⟨"java/util/Iterator", "hasNext", "()Z"⟩ yJx35411_hasNext_aae02 vs_k_hasNext) := goodIn_app (goodIn_sub (by decide +kernel) (by decide +kernel)) (goodIn_sub (fun _ h => List.mem_cons_of_mem _ (List.mem_append_right _ (List.mem_append_right _ (List.mem_append_right _ (h))))) (by decide +kernel))
set_option maxHeartbeats 4000000 in
set_option maxRecDepth 100000 in
theorem k_X16_isClosed (l : Launch) (D : va_G) (ty : Nat → ClassId) (td mi sz : Nat) (m0 : Nat) (m1 : Nat) (m2 : Nat) (m3 : Nat) (m4 : Nat) (m5 : Nat) (m6 : Nat) (m7 : Nat) (m8 : Nat) (m9 : Nat) (m10 : Nat) (m11 : Nat) (m12 : Nat) (m13 : Nat) (m14 : Nat) (m15 : Nat) (m16 : Nat) (k7 : Int32) : Met l yX16_isClosed vs_k_X16_isClosed { frames := 3, cells := 1, slots := 4, locals := 53 } (va_Pc [.ref m0, .int 0] (wq_P D ty td mi [(m0, .inr (20, [.int 0, .int 0, .ref m1, .ref m2, .ref m3, .int 0, .ref m4, .ref m5, .ref m6, .int 1, .ref m7, .ref m8, .ref m9, .int 0, .ref m10, .int 0, .ref m11, .ref m12, .ref m13, .int 0, .ref m14, .int 0, .int 0, .int 0, .ref m15, .ref m16])), (m10, .inr (4, [.int k7, .ref td, .int 0]))] sz)) (va_Qi (fun (r : Int32) (u : va_W) => (∃ (q138 : Nat), r = 1 ∧ (u = [(m0, .inr (20, [.int 0, .int 0, .ref m1, .ref m2, .ref m3, .int 0, .ref m4, .ref m5, .ref m6, .int 1, .ref m7, .ref m8, .ref m9, .int 0, .ref m10, .int 0, .ref m11, .ref m12, .ref m13, .int 0, .ref m14, .int 0, .int 0, .int 0, .ref m15, .ref m16])), (q138, .inr (3, [.int 0, .int (-1), .int k7, .ref m10])), (m10, .inr (4, [.int k7, .ref td, .int 0]))]))) (wq_B D (va_A [(m0, .inr (20, [.int 0, .int 0, .ref m1, .ref m2, .ref m3, .int 0, .ref m4, .ref m5, .ref m6, .int 1, .ref m7, .ref m8, .ref m9, .int 0, .ref m10, .int 0, .ref m11, .ref m12, .ref m13, .int 0, .ref m14, .int 0, .int 0, .int 0, .ref m15, .ref m16])), (m10, .inr (4, [.int k7, .ref td, .int 0]))] sz)) (va_A [(m0, .inr (20, [.int 0, .int 0, .ref m1, .ref m2, .ref m3, .int 0, .ref m4, .ref m5, .ref m6, .int 1, .ref m7, .ref m8, .ref m9, .int 0, .ref m10, .int 0, .ref m11, .ref m12, .ref m13, .int 0, .ref m14, .int 0, .int 0, .int 0, .ref m15, .ref m16])), (m10, .inr (4, [.int k7, .ref td, .int 0]))] sz)) 1 4 (va_A [(m0, .inr (20, [.int 0, .int 0, .ref m1, .ref m2, .ref m3, .int 0, .ref m4, .ref m5, .ref m6, .int 1, .ref m7, .ref m8, .ref m9, .int 0, .ref m10, .int 0, .ref m11, .ref m12, .ref m13, .int 0, .ref m14, .int 0, .int 0, .int 0, .ref m15, .ref m16])), (m10, .inr (4, [.int k7, .ref td, .int 0]))] sz) := by
  refine Met.ofW (cc := cX16_isClosed) (maxL := 7) (ret := (some .boolean)) (by decide) rfl ?_
  intro p e s m args below meth c s₁ B hml hv
  obtain ⟨rfl, hsz, hP, hK, hD0, hE⟩ := hv
  have hx := B.exec
  have hb := B.bytes
  have hr := B.returns
  have hts := atoms_spec (ws := vs_k_X16_isClosed) B.pre
  have hown : s.vm.findClass RX16 = some m.cls := findClass_of_methodNamed B.named
  have hlocks := B.notSynchronized
  subst hsz
  have hD := hD0.self (sz := s.heap.size)
  generalize hAe : va_A [(m0, .inr (20, [.int 0, .int 0, .ref m1, .ref m2, .ref m3, .int 0, .ref m4, .ref m5, .ref m6, .int 1, .ref m7, .ref m8, .ref m9, .int 0, .ref m10, .int 0, .ref m11, .ref m12, .ref m13, .int 0, .ref m14, .int 0, .int 0, .int 0, .ref m15, .ref m16])), (m10, .inr (4, [.int k7, .ref td, .int 0]))] s.heap.size = A at hD hE ⊢
  have hA : ∀ q : Nat, s.heap.size ≤ q → A q := fun q h => by rw [← hAe]; exact Or.inr h
  have hS : va_S A s.heap s.heap [] := va_S.rf
  have hP : va_P D vwCl [(m0, .inr (20, [.int 0, .int 0, .ref m1, .ref m2, .ref m3, .int 0, .ref m4, .ref m5, .ref m6, .int 1, .ref m7, .ref m8, .ref m9, .int 0, .ref m10, .int 0, .ref m11, .ref m12, .ref m13, .int 0, .ref m14, .int 0, .int 0, .int 0, .ref m15, .ref m16])), (m10, .inr (4, [.int k7, .ref td, .int 0]))] s.heap := hP
  have hl := lv_entry ([.ref m0, .int 0]) (n := 7) (Nat.le_of_ble_eq_true rfl)
  rw [lg_entry_eq]
  generalize (lg_sl ([.ref m0, .int 0]) ++ List.replicate (7 - (lg_sl ([.ref m0, .int 0])).length) Slot.unset).toArray = ls at hl ⊢
  have hl : lv_has ls 7 [(0, .ref m0), (1, .int 0)] := hl
  refine lv_iconst (v := 1) hx hb dX16_isClosed_0 (by decide) ?_
  refine lv_istore_n (lv' := [(2, .int 1), (0, .ref m0), (1, .int 0)]) hx hb dX16_isClosed_1 rfl hl (by decide) rfl (fun ls hl => ?_)
  refine lv_aload_n hx hb dX16_isClosed_2 rfl (lv_at hl 1 rfl) ?_
  refine va_get (D := D) (ci := 20) (v := .ref m10) (C := RX16) (T := TX16) (N := 26) hx hb hts iv_k_X16_isClosed_X16 hown hK hP 0 rfl rfl 14 (by decide) (hts (.fieldLink RX16 43 "AnswerFoldModel" "kept" "Ljava/util/ArrayList;") (by decide +kernel)) (fun _ h9 => h9) rfl dX16_isClosed_3 ?_
  refine wq_r (wc := [(m10, .inr (4, [.int k7, .ref td, .int 0]))]) (wr := [(m0, .inr (20, [.int 0, .int 0, .ref m1, .ref m2, .ref m3, .int 0, .ref m4, .ref m5, .ref m6, .int 1, .ref m7, .ref m8, .ref m9, .int 0, .ref m10, .int 0, .ref m11, .ref m12, .ref m13, .int 0, .ref m14, .int 0, .int 0, .int 0, .ref m15, .ref m16]))]) (va_runV (As := []) (rest := []) ⟨hx, hb, hml, hown, hts⟩ (k_iterator l D ty td mi s.heap.size m10 k7) (cwV 0 hts gv_k_X16_isClosed_0 rfl rfl rfl (by decide +kernel) ⟨(Nat.le_of_ble_eq_true rfl), (Nat.le_of_ble_eq_true rfl)⟩) (wq_preV hP hD hK hE hS hA [1] rfl (by decide) 1 4 rfl rfl) rfl rfl hl.1 rfl (lv_room (Nat.le_of_ble_eq_true rfl)) dX16_isClosed_6 ⟨(Nat.le_of_ble_eq_true rfl), (Nat.le_of_ble_eq_true rfl)⟩) hS hA hP hD [1] [0] rfl rfl (by decide) (by decide) (fun r u H locs hw hP hD hS => ?_)
  obtain ⟨q138, rfl, rfl⟩ := hw
  have hP : va_P D vwCl [(m0, .inr (20, [.int 0, .int 0, .ref m1, .ref m2, .ref m3, .int 0, .ref m4, .ref m5, .ref m6, .int 1, .ref m7, .ref m8, .ref m9, .int 0, .ref m10, .int 0, .ref m11, .ref m12, .ref m13, .int 0, .ref m14, .int 0, .int 0, .int 0, .ref m15, .ref m16])), (q138, .inr (3, [.int 0, .int (-1), .int k7, .ref m10])), (m10, .inr (4, [.int k7, .ref td, .int 0]))] H := hP
  have hD : va_D A [(m0, .inr (20, [.int 0, .int 0, .ref m1, .ref m2, .ref m3, .int 0, .ref m4, .ref m5, .ref m6, .int 1, .ref m7, .ref m8, .ref m9, .int 0, .ref m10, .int 0, .ref m11, .ref m12, .ref m13, .int 0, .ref m14, .int 0, .int 0, .int 0, .ref m15, .ref m16])), (q138, .inr (3, [.int 0, .int (-1), .int k7, .ref m10])), (m10, .inr (4, [.int k7, .ref td, .int 0]))] := hD
  refine W.widen (k := 1) (n := 4) (Nat.le_of_ble_eq_true rfl) (Nat.le_of_ble_eq_true rfl) ?_
  refine lv_astore_n (lv' := [(3, .ref q138), (2, .int 1), (0, .ref m0), (1, .int 0)]) hx hb dX16_isClosed_9 rfl hl (by decide) rfl (fun ls hl => ?_)
  refine lv_aload_n hx hb dX16_isClosed_10 rfl (lv_at hl 0 rfl) ?_
  refine wq_Fi (wc := [(q138, .inr (3, [.int 0, .int (-1), .int k7, .ref m10])), (m10, .inr (4, [.int k7, .ref td, .int 0]))]) (wr := [(m0, .inr (20, [.int 0, .int 0, .ref m1, .ref m2, .ref m3, .int 0, .ref m4, .ref m5, .ref m6, .int 1, .ref m7, .ref m8, .ref m9, .int 0, .ref m10, .int 0, .ref m11, .ref m12, .ref m13, .int 0, .ref m14, .int 0, .int 0, .int 0, .ref m15, .ref m16]))]) (va_runF (As := []) (rest := []) (hK.1 3 _ rfl).2 ⟨hx, hb, hml, hown, hts⟩ (k_hasNext l D ty td mi H.size q138 m10 k7 (-1) k7) (va_cwF 0 hts gv_k_X16_isClosed_1 rfl rfl rfl (hE.fw (C := RJx35411) _ _ (by decide +kernel)) (by decide +kernel) ⟨(Nat.le_of_ble_eq_true rfl), (Nat.le_of_ble_eq_true rfl)⟩) (wq_preV hP hD hK hE hS hA [1, 2] rfl (by decide) 1 3 rfl rfl) rfl rfl hl.1 rfl (lv_room (Nat.le_of_ble_eq_true rfl)) dX16_isClosed_11 ⟨(Nat.le_of_ble_eq_true rfl), (Nat.le_of_ble_eq_true rfl)⟩) hS hA hP hD [1, 2] [0] rfl rfl (by decide) (by decide) (fun r u H locs hw hP hD hS => ?_)
  obtain ⟨rfl, rfl⟩ := hw
  have hP : va_P D vwCl [(m0, .inr (20, [.int 0, .int 0, .ref m1, .ref m2, .ref m3, .int 0, .ref m4, .ref m5, .ref m6, .int 1, .ref m7, .ref m8, .ref m9, .int 0, .ref m10, .int 0, .ref m11, .ref m12, .ref m13, .int 0, .ref m14, .int 0, .int 0, .int 0, .ref m15, .ref m16])), (q138, .inr (3, [.int 0, .int (-1), .int k7, .ref m10])), (m10, .inr (4, [.int k7, .ref td, .int 0]))] H := hP
  have hD : va_D A [(m0, .inr (20, [.int 0, .int 0, .ref m1, .ref m2, .ref m3, .int 0, .ref m4, .ref m5, .ref m6, .int 1, .ref m7, .ref m8, .ref m9, .int 0, .ref m10, .int 0, .ref m11, .ref m12, .ref m13, .int 0, .ref m14, .int 0, .int 0, .int 0, .ref m15, .ref m16])), (q138, .inr (3, [.int 0, .int (-1), .int k7, .ref m10])), (m10, .inr (4, [.int k7, .ref td, .int 0]))] := hD
  refine W.widen (k := 1) (n := 4) (Nat.le_of_ble_eq_true rfl) (Nat.le_of_ble_eq_true rfl) ?_
  refine lv_if_eq (tgt := 140) hx hb dX16_isClosed_16 (by decide) (fun _ => ?_) (fun c0 => absurd (by decide) c0)
  refine lv_iload_n hx hb dX16_isClosed_140 rfl (lv_at hl 1 rfl) ?_
  have hP9 := hP.sub (ws' := [(m0, .inr (20, [.int 0, .int 0, .ref m1, .ref m2, .ref m3, .int 0, .ref m4, .ref m5, .ref m6, .int 1, .ref m7, .ref m8, .ref m9, .int 0, .ref m10, .int 0, .ref m11, .ref m12, .ref m13, .int 0, .ref m14, .int 0, .int 0, .int 0, .ref m15, .ref m16])), (q138, .inr (3, [.int 0, .int (-1), .int k7, .ref m10])), (m10, .inr (4, [.int k7, .ref td, .int 0]))]) [0, 1, 2] rfl
  have hD9 := hD.sub (ws' := [(m0, .inr (20, [.int 0, .int 0, .ref m1, .ref m2, .ref m3, .int 0, .ref m4, .ref m5, .ref m6, .int 1, .ref m7, .ref m8, .ref m9, .int 0, .ref m10, .int 0, .ref m11, .ref m12, .ref m13, .int 0, .ref m14, .int 0, .int 0, .int 0, .ref m15, .ref m16])), (q138, .inr (3, [.int 0, .int (-1), .int k7, .ref m10])), (m10, .inr (4, [.int k7, .ref td, .int 0]))]) [0, 1, 2] (by decide) rfl
  refine W.widen (k := 1) (n := 4) (Nat.le_of_ble_eq_true rfl) (Nat.le_of_ble_eq_true rfl) ?_
  exact W.zret (v := 1) hx hb hr rfl (fun t ht hW => ⟨⟨1, [(m0, .inr (20, [.int 0, .int 0, .ref m1, .ref m2, .ref m3, .int 0, .ref m4, .ref m5, .ref m6, .int 1, .ref m7, .ref m8, .ref m9, .int 0, .ref m10, .int 0, .ref m11, .ref m12, .ref m13, .int 0, .ref m14, .int 0, .int 0, .int 0, .ref m15, .ref m16])), (q138, .inr (3, [.int 0, .int (-1), .int k7, .ref m10])), (m10, .inr (4, [.int k7, .ref td, .int 0]))], rfl, ⟨q138, rfl, rfl⟩, wq_B.of ht hP9 hD9⟩, hS.F ht⟩) hS.2.2 dX16_isClosed_141
def vs_k_X16_isAnswer : List Cond := .code yX16_isAnswer cX16_isAnswer 4 (some .boolean) :: ([.methodLink RX16 329 yX16_isClosed, .instanceMethod yX16_isClosed, .selects RX16 yX16_isClosed yX16_isClosed, .initialized RX16] ++ (vs_k_X16_isClosed))
set_option maxRecDepth 20000 in
theorem gv_k_X16_isAnswer_0 : GoodIn vs_k_X16_isAnswer (wsV RX16 329 RX16 yX16_isClosed vs_k_X16_isClosed) := goodIn_app (goodIn_sub (by decide +kernel) (by decide +kernel)) (goodIn_sub (fun _ h => List.mem_cons_of_mem _ (List.mem_append_right _ (h))) (by decide +kernel))
set_option maxHeartbeats 4000000 in
set_option maxRecDepth 100000 in
theorem k_X16_isAnswer (l : Launch) (D : va_G) (ty : Nat → ClassId) (td mi sz : Nat) (m0 : Nat) (m1 : Nat) (m2 : Nat) (m3 : Nat) (m4 : Nat) (m5 : Nat) (m6 : Nat) (m7 : Nat) (m8 : Nat) (m9 : Nat) (m10 : Nat) (m11 : Nat) (m12 : Nat) (m13 : Nat) (m14 : Nat) (m15 : Nat) (m16 : Nat) (k7 : Int32) : Met l yX16_isAnswer vs_k_X16_isAnswer { frames := 4, cells := 1, slots := 4, locals := 79 } (va_Pc [.ref m0, .int 0] (wq_P D ty td mi [(m0, .inr (20, [.int 0, .int 0, .ref m1, .ref m2, .ref m3, .int 0, .ref m4, .ref m5, .ref m6, .int 1, .ref m7, .ref m8, .ref m9, .int 0, .ref m10, .int 0, .ref m11, .ref m12, .ref m13, .int 0, .ref m14, .int 0, .int 0, .int 0, .ref m15, .ref m16])), (m10, .inr (4, [.int k7, .ref td, .int 0]))] sz)) (va_Qi (fun (r : Int32) (u : va_W) => (∃ (q139 : Nat), r = 1 ∧ (u = [(m0, .inr (20, [.int 0, .int 0, .ref m1, .ref m2, .ref m3, .int 0, .ref m4, .ref m5, .ref m6, .int 1, .ref m7, .ref m8, .ref m9, .int 0, .ref m10, .int 0, .ref m11, .ref m12, .ref m13, .int 0, .ref m14, .int 0, .int 0, .int 0, .ref m15, .ref m16])), (q139, .inr (3, [.int 0, .int (-1), .int k7, .ref m10])), (m10, .inr (4, [.int k7, .ref td, .int 0]))]))) (wq_B D (va_A [(m0, .inr (20, [.int 0, .int 0, .ref m1, .ref m2, .ref m3, .int 0, .ref m4, .ref m5, .ref m6, .int 1, .ref m7, .ref m8, .ref m9, .int 0, .ref m10, .int 0, .ref m11, .ref m12, .ref m13, .int 0, .ref m14, .int 0, .int 0, .int 0, .ref m15, .ref m16])), (m10, .inr (4, [.int k7, .ref td, .int 0]))] sz)) (va_A [(m0, .inr (20, [.int 0, .int 0, .ref m1, .ref m2, .ref m3, .int 0, .ref m4, .ref m5, .ref m6, .int 1, .ref m7, .ref m8, .ref m9, .int 0, .ref m10, .int 0, .ref m11, .ref m12, .ref m13, .int 0, .ref m14, .int 0, .int 0, .int 0, .ref m15, .ref m16])), (m10, .inr (4, [.int k7, .ref td, .int 0]))] sz)) 1 4 (va_A [(m0, .inr (20, [.int 0, .int 0, .ref m1, .ref m2, .ref m3, .int 0, .ref m4, .ref m5, .ref m6, .int 1, .ref m7, .ref m8, .ref m9, .int 0, .ref m10, .int 0, .ref m11, .ref m12, .ref m13, .int 0, .ref m14, .int 0, .int 0, .int 0, .ref m15, .ref m16])), (m10, .inr (4, [.int k7, .ref td, .int 0]))] sz) := by
  refine Met.ofW (cc := cX16_isAnswer) (maxL := 4) (ret := (some .boolean)) (by decide) rfl ?_
  intro p e s m args below meth c s₁ B hml hv
  obtain ⟨rfl, hsz, hP, hK, hD0, hE⟩ := hv
  have hx := B.exec
  have hb := B.bytes
  have hr := B.returns
  have hts := atoms_spec (ws := vs_k_X16_isAnswer) B.pre
  have hown : s.vm.findClass RX16 = some m.cls := findClass_of_methodNamed B.named
  have hlocks := B.notSynchronized
  subst hsz
  have hD := hD0.self (sz := s.heap.size)
  generalize hAe : va_A [(m0, .inr (20, [.int 0, .int 0, .ref m1, .ref m2, .ref m3, .int 0, .ref m4, .ref m5, .ref m6, .int 1, .ref m7, .ref m8, .ref m9, .int 0, .ref m10, .int 0, .ref m11, .ref m12, .ref m13, .int 0, .ref m14, .int 0, .int 0, .int 0, .ref m15, .ref m16])), (m10, .inr (4, [.int k7, .ref td, .int 0]))] s.heap.size = A at hD hE ⊢
  have hA : ∀ q : Nat, s.heap.size ≤ q → A q := fun q h => by rw [← hAe]; exact Or.inr h
  have hS : va_S A s.heap s.heap [] := va_S.rf
  have hP : va_P D vwCl [(m0, .inr (20, [.int 0, .int 0, .ref m1, .ref m2, .ref m3, .int 0, .ref m4, .ref m5, .ref m6, .int 1, .ref m7, .ref m8, .ref m9, .int 0, .ref m10, .int 0, .ref m11, .ref m12, .ref m13, .int 0, .ref m14, .int 0, .int 0, .int 0, .ref m15, .ref m16])), (m10, .inr (4, [.int k7, .ref td, .int 0]))] s.heap := hP
  have hl := lv_entry ([.ref m0, .int 0]) (n := 4) (Nat.le_of_ble_eq_true rfl)
  rw [lg_entry_eq]
  generalize (lg_sl ([.ref m0, .int 0]) ++ List.replicate (4 - (lg_sl ([.ref m0, .int 0])).length) Slot.unset).toArray = ls at hl ⊢
  have hl : lv_has ls 4 [(0, .ref m0), (1, .int 0)] := hl
  refine lv_aload_n hx hb dX16_isAnswer_0 rfl (lv_at hl 0 rfl) ?_
  refine lv_iload_n hx hb dX16_isAnswer_1 rfl (lv_at hl 1 rfl) ?_
  refine wq_i (wc := [(m0, .inr (20, [.int 0, .int 0, .ref m1, .ref m2, .ref m3, .int 0, .ref m4, .ref m5, .ref m6, .int 1, .ref m7, .ref m8, .ref m9, .int 0, .ref m10, .int 0, .ref m11, .ref m12, .ref m13, .int 0, .ref m14, .int 0, .int 0, .int 0, .ref m15, .ref m16])), (m10, .inr (4, [.int k7, .ref td, .int 0]))]) (wr := []) (va_runV (As := [.int 0]) (rest := []) ⟨hx, hb, hml, hown, hts⟩ (k_X16_isClosed l D ty td mi s.heap.size m0 m1 m2 m3 m4 m5 m6 m7 m8 m9 m10 m11 m12 m13 m14 m15 m16 k7) (cwV 1 hts gv_k_X16_isAnswer_0 rfl rfl rfl (by decide +kernel) ⟨(Nat.le_of_ble_eq_true rfl), (Nat.le_of_ble_eq_true rfl)⟩) (wq_preV hP hD hK hE hS hA [0, 1] rfl (by decide) 0 20 rfl rfl) rfl rfl hl.1 rfl (lv_room (Nat.le_of_ble_eq_true rfl)) dX16_isAnswer_2 ⟨(Nat.le_of_ble_eq_true rfl), (Nat.le_of_ble_eq_true rfl)⟩) hS hA hP hD [0, 1] [] rfl rfl (by decide) (by decide) (fun r u H locs hw hP hD hS => ?_)
  obtain ⟨q139, rfl, rfl⟩ := hw
  have hP : va_P D vwCl [(m0, .inr (20, [.int 0, .int 0, .ref m1, .ref m2, .ref m3, .int 0, .ref m4, .ref m5, .ref m6, .int 1, .ref m7, .ref m8, .ref m9, .int 0, .ref m10, .int 0, .ref m11, .ref m12, .ref m13, .int 0, .ref m14, .int 0, .int 0, .int 0, .ref m15, .ref m16])), (q139, .inr (3, [.int 0, .int (-1), .int k7, .ref m10])), (m10, .inr (4, [.int k7, .ref td, .int 0]))] H := hP
  have hD : va_D A [(m0, .inr (20, [.int 0, .int 0, .ref m1, .ref m2, .ref m3, .int 0, .ref m4, .ref m5, .ref m6, .int 1, .ref m7, .ref m8, .ref m9, .int 0, .ref m10, .int 0, .ref m11, .ref m12, .ref m13, .int 0, .ref m14, .int 0, .int 0, .int 0, .ref m15, .ref m16])), (q139, .inr (3, [.int 0, .int (-1), .int k7, .ref m10])), (m10, .inr (4, [.int k7, .ref td, .int 0]))] := hD
  refine W.widen (k := 1) (n := 4) (Nat.le_of_ble_eq_true rfl) (Nat.le_of_ble_eq_true rfl) ?_
  refine lv_if_ne (tgt := 10) hx hb dX16_isAnswer_5 (by decide) (fun _ => ?_) (fun c0 => absurd c0 (by decide))
  refine lv_iload_n hx hb dX16_isAnswer_10 rfl (lv_at hl 1 rfl) ?_
  refine lv_istore_n (lv' := [(2, .int 0), (0, .ref m0), (1, .int 0)]) hx hb dX16_isAnswer_11 rfl hl (by decide) rfl (fun ls hl => ?_)
  refine lv_iload_n hx hb dX16_isAnswer_12 rfl (lv_at hl 0 rfl) ?_
  refine lv_if_eq (tgt := 43) hx hb dX16_isAnswer_13 (by decide) (fun _ => ?_) (fun c0 => absurd (by decide) c0)
  refine lv_iconst (v := 1) hx hb dX16_isAnswer_43 (by decide) ?_
  refine lv_istore_n (lv' := [(2, .int 1), (0, .ref m0), (1, .int 0)]) hx hb dX16_isAnswer_44 rfl hl (by decide) rfl (fun ls hl => ?_)
  refine lv_iload_n hx hb dX16_isAnswer_45 rfl (lv_at hl 2 rfl) ?_
  refine lv_istore_n (lv' := [(3, .int 0), (2, .int 1), (0, .ref m0), (1, .int 0)]) hx hb dX16_isAnswer_46 rfl hl (by decide) rfl (fun ls hl => ?_)
  refine lv_iload_n hx hb dX16_isAnswer_47 rfl (lv_at hl 0 rfl) ?_
  refine lv_if_eq (tgt := 79) hx hb dX16_isAnswer_48 (by decide) (fun _ => ?_) (fun c0 => absurd (by decide) c0)
  refine lv_iload_n hx hb dX16_isAnswer_79 rfl (lv_at hl 1 rfl) ?_
  have hP9 := hP.sub (ws' := [(m0, .inr (20, [.int 0, .int 0, .ref m1, .ref m2, .ref m3, .int 0, .ref m4, .ref m5, .ref m6, .int 1, .ref m7, .ref m8, .ref m9, .int 0, .ref m10, .int 0, .ref m11, .ref m12, .ref m13, .int 0, .ref m14, .int 0, .int 0, .int 0, .ref m15, .ref m16])), (q139, .inr (3, [.int 0, .int (-1), .int k7, .ref m10])), (m10, .inr (4, [.int k7, .ref td, .int 0]))]) [0, 1, 2] rfl
  have hD9 := hD.sub (ws' := [(m0, .inr (20, [.int 0, .int 0, .ref m1, .ref m2, .ref m3, .int 0, .ref m4, .ref m5, .ref m6, .int 1, .ref m7, .ref m8, .ref m9, .int 0, .ref m10, .int 0, .ref m11, .ref m12, .ref m13, .int 0, .ref m14, .int 0, .int 0, .int 0, .ref m15, .ref m16])), (q139, .inr (3, [.int 0, .int (-1), .int k7, .ref m10])), (m10, .inr (4, [.int k7, .ref td, .int 0]))]) [0, 1, 2] (by decide) rfl
  refine W.widen (k := 1) (n := 4) (Nat.le_of_ble_eq_true rfl) (Nat.le_of_ble_eq_true rfl) ?_
  exact W.zret (v := 1) hx hb hr rfl (fun t ht hW => ⟨⟨1, [(m0, .inr (20, [.int 0, .int 0, .ref m1, .ref m2, .ref m3, .int 0, .ref m4, .ref m5, .ref m6, .int 1, .ref m7, .ref m8, .ref m9, .int 0, .ref m10, .int 0, .ref m11, .ref m12, .ref m13, .int 0, .ref m14, .int 0, .int 0, .int 0, .ref m15, .ref m16])), (q139, .inr (3, [.int 0, .int (-1), .int k7, .ref m10])), (m10, .inr (4, [.int k7, .ref td, .int 0]))], rfl, ⟨q139, rfl, rfl⟩, wq_B.of ht hP9 hD9⟩, hS.F ht⟩) hS.2.2 dX16_isAnswer_80
def vs_k_X16_findLeads : List Cond := .code yX16_findLeads cX16_findLeads 12 none :: ([.fieldLink RX16 296 "AnswerFoldModel" "openMany" "I", .fieldLink RX16 43 "AnswerFoldModel" "kept" "Ljava/util/ArrayList;", .methodLink RX16 167 yJx4a65c_iterator_32c93, .instanceMethod yJx4a65c_iterator_32c93, .selects RJx4a65c yJx4a65c_iterator_32c93 yJx4a65c_iterator_32c93, .initialized RJx4a65c, .methodLink RX16 171 ⟨"java/util/Iterator", "hasNext", "()Z"⟩, .selects RJx35411 ⟨"java/util/Iterator", "hasNext", "()Z"⟩ yJx35411_hasNext_aae02, .instanceMethod yJx35411_hasNext_aae02, .initialized RJx35411] ++ (u_ws RX16 TX16 26 ++ (vs_k_iterator ++ (vs_k_hasNext))))
theorem iv_k_X16_findLeads_X16 : ∀ w ∈ u_ws RX16 TX16 26, w ∈ vs_k_X16_findLeads := (fun _ h => List.mem_cons_of_mem _ (List.mem_append_right _ (List.mem_append_left _ h)))
set_option maxRecDepth 20000 in
theorem gv_k_X16_findLeads_0 : GoodIn vs_k_X16_findLeads (wsV RX16 167 RJx4a65c yJx4a65c_iterator_32c93 vs_k_iterator) := goodIn_app (goodIn_sub (by decide +kernel) (by decide +kernel)) (goodIn_sub (fun _ h => List.mem_cons_of_mem _ (List.mem_append_right _ (List.mem_append_right _ (List.mem_append_left _ h)))) (by decide +kernel))
set_option maxRecDepth 20000 in
theorem gv_k_X16_findLeads_1 : GoodIn vs_k_X16_findLeads (va_wsF RX16 171 RJx35411 ⟨"java/util/Iterator", "hasNext", "()Z"⟩ yJx35411_hasNext_aae02 vs_k_hasNext) := goodIn_app (goodIn_sub (by decide +kernel) (by decide +kernel)) (goodIn_sub (fun _ h => List.mem_cons_of_mem _ (List.mem_append_right _ (List.mem_append_right _ (List.mem_append_right _ (h))))) (by decide +kernel))
set_option maxHeartbeats 4000000 in
set_option maxRecDepth 100000 in
theorem k_X16_findLeads (l : Launch) (D : va_G) (ty : Nat → ClassId) (td mi sz : Nat) (m0 : Nat) (m1 : Nat) (m2 : Nat) (m3 : Nat) (m4 : Nat) (m5 : Nat) (m6 : Nat) (m7 : Nat) (m8 : Nat) (m9 : Nat) (m10 : Nat) (m11 : Nat) (m12 : Nat) (m13 : Nat) (m14 : Nat) (m15 : Nat) (m16 : Nat) (k7 : Int32) : Met l yX16_findLeads vs_k_X16_findLeads { frames := 3, cells := 1, slots := 4, locals := 53 } (va_Pc [.ref m0] (wq_P D ty td mi [(m0, .inr (20, [.int 0, .int 0, .ref m1, .ref m2, .ref m3, .int 0, .ref m4, .ref m5, .ref m6, .int 1, .ref m7, .ref m8, .ref m9, .int 0, .ref m10, .int 0, .ref m11, .ref m12, .ref m13, .int 0, .ref m14, .int 0, .int 0, .int 0, .ref m15, .ref m16])), (m10, .inr (4, [.int k7, .ref td, .int 0]))] sz)) (va_Qv (fun u : va_W => (∃ (q140 : Nat), (u = [(m0, .inr (20, [.int 0, .int 0, .ref m1, .ref m2, .ref m3, .int 0, .ref m4, .ref m5, .ref m6, .int 1, .ref m7, .ref m8, .ref m9, .int 0, .ref m10, .int 0, .ref m11, .ref m12, .ref m13, .int 0, .ref m14, .int 0, .int 0, .int 0, .ref m15, .ref m16])), (q140, .inr (3, [.int 0, .int (-1), .int k7, .ref m10])), (m10, .inr (4, [.int k7, .ref td, .int 0]))]))) (wq_B D (va_A [(m0, .inr (20, [.int 0, .int 0, .ref m1, .ref m2, .ref m3, .int 0, .ref m4, .ref m5, .ref m6, .int 1, .ref m7, .ref m8, .ref m9, .int 0, .ref m10, .int 0, .ref m11, .ref m12, .ref m13, .int 0, .ref m14, .int 0, .int 0, .int 0, .ref m15, .ref m16])), (m10, .inr (4, [.int k7, .ref td, .int 0]))] sz)) (va_A [(m0, .inr (20, [.int 0, .int 0, .ref m1, .ref m2, .ref m3, .int 0, .ref m4, .ref m5, .ref m6, .int 1, .ref m7, .ref m8, .ref m9, .int 0, .ref m10, .int 0, .ref m11, .ref m12, .ref m13, .int 0, .ref m14, .int 0, .int 0, .int 0, .ref m15, .ref m16])), (m10, .inr (4, [.int k7, .ref td, .int 0]))] sz)) 1 4 (va_A [(m0, .inr (20, [.int 0, .int 0, .ref m1, .ref m2, .ref m3, .int 0, .ref m4, .ref m5, .ref m6, .int 1, .ref m7, .ref m8, .ref m9, .int 0, .ref m10, .int 0, .ref m11, .ref m12, .ref m13, .int 0, .ref m14, .int 0, .int 0, .int 0, .ref m15, .ref m16])), (m10, .inr (4, [.int k7, .ref td, .int 0]))] sz) := by
  refine Met.ofW (cc := cX16_findLeads) (maxL := 12) (ret := none) (by decide) rfl ?_
  intro p e s m args below meth c s₁ B hml hv
  obtain ⟨rfl, hsz, hP, hK, hD0, hE⟩ := hv
  have hx := B.exec
  have hb := B.bytes
  have hr := B.returns
  have hts := atoms_spec (ws := vs_k_X16_findLeads) B.pre
  have hown : s.vm.findClass RX16 = some m.cls := findClass_of_methodNamed B.named
  have hlocks := B.notSynchronized
  subst hsz
  have hD := hD0.self (sz := s.heap.size)
  generalize hAe : va_A [(m0, .inr (20, [.int 0, .int 0, .ref m1, .ref m2, .ref m3, .int 0, .ref m4, .ref m5, .ref m6, .int 1, .ref m7, .ref m8, .ref m9, .int 0, .ref m10, .int 0, .ref m11, .ref m12, .ref m13, .int 0, .ref m14, .int 0, .int 0, .int 0, .ref m15, .ref m16])), (m10, .inr (4, [.int k7, .ref td, .int 0]))] s.heap.size = A at hD hE ⊢
  have hA : ∀ q : Nat, s.heap.size ≤ q → A q := fun q h => by rw [← hAe]; exact Or.inr h
  have hS : va_S A s.heap s.heap [] := va_S.rf
  have hP : va_P D vwCl [(m0, .inr (20, [.int 0, .int 0, .ref m1, .ref m2, .ref m3, .int 0, .ref m4, .ref m5, .ref m6, .int 1, .ref m7, .ref m8, .ref m9, .int 0, .ref m10, .int 0, .ref m11, .ref m12, .ref m13, .int 0, .ref m14, .int 0, .int 0, .int 0, .ref m15, .ref m16])), (m10, .inr (4, [.int k7, .ref td, .int 0]))] s.heap := hP
  have hl := lv_entry ([.ref m0]) (n := 12) (Nat.le_of_ble_eq_true rfl)
  rw [lg_entry_eq]
  generalize (lg_sl ([.ref m0]) ++ List.replicate (12 - (lg_sl ([.ref m0])).length) Slot.unset).toArray = ls at hl ⊢
  have hl : lv_has ls 12 [(0, .ref m0)] := hl
  refine lv_aload_n hx hb dX16_findLeads_0 rfl (lv_at hl 0 rfl) ?_
  refine va_get (D := D) (ci := 20) (v := .int 0) (C := RX16) (T := TX16) (N := 26) hx hb hts iv_k_X16_findLeads_X16 hown hK hP 0 rfl rfl 15 (by decide) (hts (.fieldLink RX16 296 "AnswerFoldModel" "openMany" "I") (by decide +kernel)) (fun _ h9 => h9) rfl dX16_findLeads_1 ?_
  refine lv_istore_n (lv' := [(1, .int 0), (0, .ref m0)]) hx hb dX16_findLeads_4 rfl hl (by decide) rfl (fun ls hl => ?_)
  refine lv_iconst (v := 0) hx hb dX16_findLeads_5 (by decide) ?_
  refine lv_istore_n (lv' := [(2, .int 0), (1, .int 0), (0, .ref m0)]) hx hb dX16_findLeads_6 rfl hl (by decide) rfl (fun ls hl => ?_)
  refine lv_iload_n hx hb dX16_findLeads_7 rfl (lv_at hl 0 rfl) ?_
  refine lv_iload_n hx hb dX16_findLeads_8 rfl (lv_at hl 1 rfl) ?_
  refine lv_iload_n hx hb dX16_findLeads_9 rfl (lv_at hl 1 rfl) ?_
  refine lv_imul hx hb dX16_findLeads_10 ?_
  refine lv_topi (nm_r (e' := 0) (by decide) ?_)
  refine lv_icmp_ge (tgt := 27) hx hb dX16_findLeads_11 (by decide) (fun _ => ?_) (fun c0 => absurd (by decide) c0)
  refine lv_aload_n hx hb dX16_findLeads_27 rfl (lv_at hl 2 rfl) ?_
  refine va_get (D := D) (ci := 20) (v := .ref m10) (C := RX16) (T := TX16) (N := 26) hx hb hts iv_k_X16_findLeads_X16 hown hK hP 0 rfl rfl 14 (by decide) (hts (.fieldLink RX16 43 "AnswerFoldModel" "kept" "Ljava/util/ArrayList;") (by decide +kernel)) (fun _ h9 => h9) rfl dX16_findLeads_28 ?_
  refine wq_r (wc := [(m10, .inr (4, [.int k7, .ref td, .int 0]))]) (wr := [(m0, .inr (20, [.int 0, .int 0, .ref m1, .ref m2, .ref m3, .int 0, .ref m4, .ref m5, .ref m6, .int 1, .ref m7, .ref m8, .ref m9, .int 0, .ref m10, .int 0, .ref m11, .ref m12, .ref m13, .int 0, .ref m14, .int 0, .int 0, .int 0, .ref m15, .ref m16]))]) (va_runV (As := []) (rest := []) ⟨hx, hb, hml, hown, hts⟩ (k_iterator l D ty td mi s.heap.size m10 k7) (cwV 0 hts gv_k_X16_findLeads_0 rfl rfl rfl (by decide +kernel) ⟨(Nat.le_of_ble_eq_true rfl), (Nat.le_of_ble_eq_true rfl)⟩) (wq_preV hP hD hK hE hS hA [1] rfl (by decide) 1 4 rfl rfl) rfl rfl hl.1 rfl (lv_room (Nat.le_of_ble_eq_true rfl)) dX16_findLeads_31 ⟨(Nat.le_of_ble_eq_true rfl), (Nat.le_of_ble_eq_true rfl)⟩) hS hA hP hD [1] [0] rfl rfl (by decide) (by decide) (fun r u H locs hw hP hD hS => ?_)
  obtain ⟨q140, rfl, rfl⟩ := hw
  have hP : va_P D vwCl [(m0, .inr (20, [.int 0, .int 0, .ref m1, .ref m2, .ref m3, .int 0, .ref m4, .ref m5, .ref m6, .int 1, .ref m7, .ref m8, .ref m9, .int 0, .ref m10, .int 0, .ref m11, .ref m12, .ref m13, .int 0, .ref m14, .int 0, .int 0, .int 0, .ref m15, .ref m16])), (q140, .inr (3, [.int 0, .int (-1), .int k7, .ref m10])), (m10, .inr (4, [.int k7, .ref td, .int 0]))] H := hP
  have hD : va_D A [(m0, .inr (20, [.int 0, .int 0, .ref m1, .ref m2, .ref m3, .int 0, .ref m4, .ref m5, .ref m6, .int 1, .ref m7, .ref m8, .ref m9, .int 0, .ref m10, .int 0, .ref m11, .ref m12, .ref m13, .int 0, .ref m14, .int 0, .int 0, .int 0, .ref m15, .ref m16])), (q140, .inr (3, [.int 0, .int (-1), .int k7, .ref m10])), (m10, .inr (4, [.int k7, .ref td, .int 0]))] := hD
  refine W.widen (k := 1) (n := 4) (Nat.le_of_ble_eq_true rfl) (Nat.le_of_ble_eq_true rfl) ?_
  refine lv_astore_n (lv' := [(2, .ref q140), (1, .int 0), (0, .ref m0)]) hx hb dX16_findLeads_34 rfl hl (by decide) rfl (fun ls hl => ?_)
  refine lv_aload_n hx hb dX16_findLeads_35 rfl (lv_at hl 0 rfl) ?_
  refine wq_Fi (wc := [(q140, .inr (3, [.int 0, .int (-1), .int k7, .ref m10])), (m10, .inr (4, [.int k7, .ref td, .int 0]))]) (wr := [(m0, .inr (20, [.int 0, .int 0, .ref m1, .ref m2, .ref m3, .int 0, .ref m4, .ref m5, .ref m6, .int 1, .ref m7, .ref m8, .ref m9, .int 0, .ref m10, .int 0, .ref m11, .ref m12, .ref m13, .int 0, .ref m14, .int 0, .int 0, .int 0, .ref m15, .ref m16]))]) (va_runF (As := []) (rest := []) (hK.1 3 _ rfl).2 ⟨hx, hb, hml, hown, hts⟩ (k_hasNext l D ty td mi H.size q140 m10 k7 (-1) k7) (va_cwF 0 hts gv_k_X16_findLeads_1 rfl rfl rfl (hE.fw (C := RJx35411) _ _ (by decide +kernel)) (by decide +kernel) ⟨(Nat.le_of_ble_eq_true rfl), (Nat.le_of_ble_eq_true rfl)⟩) (wq_preV hP hD hK hE hS hA [1, 2] rfl (by decide) 1 3 rfl rfl) rfl rfl hl.1 rfl (lv_room (Nat.le_of_ble_eq_true rfl)) dX16_findLeads_36 ⟨(Nat.le_of_ble_eq_true rfl), (Nat.le_of_ble_eq_true rfl)⟩) hS hA hP hD [1, 2] [0] rfl rfl (by decide) (by decide) (fun r u H locs hw hP hD hS => ?_)
  obtain ⟨rfl, rfl⟩ := hw
  have hP : va_P D vwCl [(m0, .inr (20, [.int 0, .int 0, .ref m1, .ref m2, .ref m3, .int 0, .ref m4, .ref m5, .ref m6, .int 1, .ref m7, .ref m8, .ref m9, .int 0, .ref m10, .int 0, .ref m11, .ref m12, .ref m13, .int 0, .ref m14, .int 0, .int 0, .int 0, .ref m15, .ref m16])), (q140, .inr (3, [.int 0, .int (-1), .int k7, .ref m10])), (m10, .inr (4, [.int k7, .ref td, .int 0]))] H := hP
  have hD : va_D A [(m0, .inr (20, [.int 0, .int 0, .ref m1, .ref m2, .ref m3, .int 0, .ref m4, .ref m5, .ref m6, .int 1, .ref m7, .ref m8, .ref m9, .int 0, .ref m10, .int 0, .ref m11, .ref m12, .ref m13, .int 0, .ref m14, .int 0, .int 0, .int 0, .ref m15, .ref m16])), (q140, .inr (3, [.int 0, .int (-1), .int k7, .ref m10])), (m10, .inr (4, [.int k7, .ref td, .int 0]))] := hD
  refine W.widen (k := 1) (n := 4) (Nat.le_of_ble_eq_true rfl) (Nat.le_of_ble_eq_true rfl) ?_
  refine lv_if_eq (tgt := 174) hx hb dX16_findLeads_41 (by decide) (fun _ => ?_) (fun c0 => absurd (by decide) c0)
  refine lv_iconst (v := 0) hx hb dX16_findLeads_174 (by decide) ?_
  refine lv_istore_n (lv' := [(2, .int 0), (1, .int 0), (0, .ref m0)]) hx hb dX16_findLeads_175 rfl hl (by decide) rfl (fun ls hl => ?_)
  refine lv_iload_n hx hb dX16_findLeads_176 rfl (lv_at hl 0 rfl) ?_
  refine lv_iload_n hx hb dX16_findLeads_177 rfl (lv_at hl 1 rfl) ?_
  refine lv_icmp_ge (tgt := 272) hx hb dX16_findLeads_178 (by decide) (fun _ => ?_) (fun c0 => absurd (by decide) c0)
  have hP9 := hP.sub (ws' := [(m0, .inr (20, [.int 0, .int 0, .ref m1, .ref m2, .ref m3, .int 0, .ref m4, .ref m5, .ref m6, .int 1, .ref m7, .ref m8, .ref m9, .int 0, .ref m10, .int 0, .ref m11, .ref m12, .ref m13, .int 0, .ref m14, .int 0, .int 0, .int 0, .ref m15, .ref m16])), (q140, .inr (3, [.int 0, .int (-1), .int k7, .ref m10])), (m10, .inr (4, [.int k7, .ref td, .int 0]))]) [0, 1, 2] rfl
  have hD9 := hD.sub (ws' := [(m0, .inr (20, [.int 0, .int 0, .ref m1, .ref m2, .ref m3, .int 0, .ref m4, .ref m5, .ref m6, .int 1, .ref m7, .ref m8, .ref m9, .int 0, .ref m10, .int 0, .ref m11, .ref m12, .ref m13, .int 0, .ref m14, .int 0, .int 0, .int 0, .ref m15, .ref m16])), (q140, .inr (3, [.int 0, .int (-1), .int k7, .ref m10])), (m10, .inr (4, [.int k7, .ref td, .int 0]))]) [0, 1, 2] (by decide) rfl
  refine W.widen (k := 1) (n := 4) (Nat.le_of_ble_eq_true rfl) (Nat.le_of_ble_eq_true rfl) ?_
  exact W.vret hx hb hr (fun t ht hW => ⟨⟨[(m0, .inr (20, [.int 0, .int 0, .ref m1, .ref m2, .ref m3, .int 0, .ref m4, .ref m5, .ref m6, .int 1, .ref m7, .ref m8, .ref m9, .int 0, .ref m10, .int 0, .ref m11, .ref m12, .ref m13, .int 0, .ref m14, .int 0, .int 0, .int 0, .ref m15, .ref m16])), (q140, .inr (3, [.int 0, .int (-1), .int k7, .ref m10])), (m10, .inr (4, [.int k7, .ref td, .int 0]))], rfl, ⟨q140, rfl⟩, wq_B.of ht hP9 hD9⟩, hS.F ht⟩) hS.2.2 dX16_findLeads_272
def vs_k_X16_loops : List Cond := .code yX16_loops cX16_loops 5 (some .int) :: ([.fieldLink RX16 65 "AnswerFoldModel" "thrown" "I", .methodLink RX16 306 yX16_groundAll, .instanceMethod yX16_groundAll, .selects RX16 yX16_groundAll yX16_groundAll, .initialized RX16, .fieldLink RX16 261 "AnswerFoldModel" "keptAll" "I", .methodLink RX16 87 yX16_fails, .instanceMethod yX16_fails, .selects RX16 yX16_fails yX16_fails, .methodLink RX16 309 yX16_findLeads, .instanceMethod yX16_findLeads, .selects RX16 yX16_findLeads yX16_findLeads, .fieldLink RX16 296 "AnswerFoldModel" "openMany" "I"] ++ (u_ws RX16 TX16 26 ++ (vs_k_X16_groundAll ++ (vs_k_X16_fails_0_1 ++ (vs_k_X16_findLeads)))))
theorem iv_k_X16_loops_X16 : ∀ w ∈ u_ws RX16 TX16 26, w ∈ vs_k_X16_loops := (fun _ h => List.mem_cons_of_mem _ (List.mem_append_right _ (List.mem_append_left _ h)))
set_option maxRecDepth 20000 in
theorem gv_k_X16_loops_0 : GoodIn vs_k_X16_loops (wsV RX16 306 RX16 yX16_groundAll vs_k_X16_groundAll) := goodIn_app (goodIn_sub (by decide +kernel) (by decide +kernel)) (goodIn_sub (fun _ h => List.mem_cons_of_mem _ (List.mem_append_right _ (List.mem_append_right _ (List.mem_append_left _ h)))) (by decide +kernel))
set_option maxRecDepth 20000 in
theorem gv_k_X16_loops_1 : GoodIn vs_k_X16_loops (wsV RX16 87 RX16 yX16_fails vs_k_X16_fails_0_1) := goodIn_app (goodIn_sub (by decide +kernel) (by decide +kernel)) (goodIn_sub (fun _ h => List.mem_cons_of_mem _ (List.mem_append_right _ (List.mem_append_right _ (List.mem_append_right _ (List.mem_append_left _ h))))) (by decide +kernel))
set_option maxRecDepth 20000 in
theorem gv_k_X16_loops_2 : GoodIn vs_k_X16_loops (wsV RX16 309 RX16 yX16_findLeads vs_k_X16_findLeads) := goodIn_app (goodIn_sub (by decide +kernel) (by decide +kernel)) (goodIn_sub (fun _ h => List.mem_cons_of_mem _ (List.mem_append_right _ (List.mem_append_right _ (List.mem_append_right _ (List.mem_append_right _ (h)))))) (by decide +kernel))
set_option maxHeartbeats 4000000 in
set_option maxRecDepth 100000 in
theorem k_X16_loops (l : Launch) (D : va_G) (ty : Nat → ClassId) (td mi sz : Nat) (m0 : Nat) (m1 : Nat) (m2 : Nat) (m3 : Nat) (m4 : Nat) (m5 : Nat) (m6 : Nat) (m7 : Nat) (m8 : Nat) (m9 : Nat) (m10 : Nat) (m11 : Nat) (m12 : Nat) (m13 : Nat) (m14 : Nat) (m15 : Nat) (m16 : Nat) : Met l yX16_loops vs_k_X16_loops { frames := 4, cells := 1, slots := 4, locals := 84 } (va_Pc [.ref m0] (wq_P D ty td mi [(m0, .inr (20, [.int 0, .int 0, .ref m1, .ref m2, .ref m3, .int 0, .ref m4, .ref m5, .ref m6, .int 0, .ref m7, .ref m8, .ref m9, .int 0, .ref m10, .int 0, .ref m11, .ref m12, .ref m13, .int 0, .ref m14, .int 0, .int 0, .int 0, .ref m15, .ref m16])), (m10, .inr (4, [.int 0, .ref td, .int 0])), (m7, .inl (ty 3, 384, .inl (fun _ => 0))), (m8, .inl (ty 3, 384, .inl (fun _ => 0))), (m9, .inl (ty 0, 20, .inl (fun _ => 0))), (m12, .inl (ty 0, 384, .inl (fun _ => 0))), (m2, .inr (4, [.int 0, .ref td, .int 0]))] sz)) (va_Qi (fun (r : Int32) (u : va_W) => (r = 0 ∧ (u = [(m0, .inr (20, [.int 0, .int 0, .ref m1, .ref m2, .ref m3, .int 0, .ref m4, .ref m5, .ref m6, .int 1, .ref m7, .ref m8, .ref m9, .int 0, .ref m10, .int 0, .ref m11, .ref m12, .ref m13, .int 0, .ref m14, .int 0, .int 0, .int 0, .ref m15, .ref m16]))]))) (wq_B D (va_A [(m0, .inr (20, [.int 0, .int 0, .ref m1, .ref m2, .ref m3, .int 0, .ref m4, .ref m5, .ref m6, .int 0, .ref m7, .ref m8, .ref m9, .int 0, .ref m10, .int 0, .ref m11, .ref m12, .ref m13, .int 0, .ref m14, .int 0, .int 0, .int 0, .ref m15, .ref m16])), (m10, .inr (4, [.int 0, .ref td, .int 0])), (m7, .inl (ty 3, 384, .inl (fun _ => 0))), (m8, .inl (ty 3, 384, .inl (fun _ => 0))), (m9, .inl (ty 0, 20, .inl (fun _ => 0))), (m12, .inl (ty 0, 384, .inl (fun _ => 0))), (m2, .inr (4, [.int 0, .ref td, .int 0]))] sz)) (va_A [(m0, .inr (20, [.int 0, .int 0, .ref m1, .ref m2, .ref m3, .int 0, .ref m4, .ref m5, .ref m6, .int 0, .ref m7, .ref m8, .ref m9, .int 0, .ref m10, .int 0, .ref m11, .ref m12, .ref m13, .int 0, .ref m14, .int 0, .int 0, .int 0, .ref m15, .ref m16])), (m10, .inr (4, [.int 0, .ref td, .int 0])), (m7, .inl (ty 3, 384, .inl (fun _ => 0))), (m8, .inl (ty 3, 384, .inl (fun _ => 0))), (m9, .inl (ty 0, 20, .inl (fun _ => 0))), (m12, .inl (ty 0, 384, .inl (fun _ => 0))), (m2, .inr (4, [.int 0, .ref td, .int 0]))] sz)) 1 4 (va_A [(m0, .inr (20, [.int 0, .int 0, .ref m1, .ref m2, .ref m3, .int 0, .ref m4, .ref m5, .ref m6, .int 0, .ref m7, .ref m8, .ref m9, .int 0, .ref m10, .int 0, .ref m11, .ref m12, .ref m13, .int 0, .ref m14, .int 0, .int 0, .int 0, .ref m15, .ref m16])), (m10, .inr (4, [.int 0, .ref td, .int 0])), (m7, .inl (ty 3, 384, .inl (fun _ => 0))), (m8, .inl (ty 3, 384, .inl (fun _ => 0))), (m9, .inl (ty 0, 20, .inl (fun _ => 0))), (m12, .inl (ty 0, 384, .inl (fun _ => 0))), (m2, .inr (4, [.int 0, .ref td, .int 0]))] sz) := by
  refine Met.ofW (cc := cX16_loops) (maxL := 5) (ret := (some .int)) (by decide) rfl ?_
  intro p e s m args below meth c s₁ B hml hv
  obtain ⟨rfl, hsz, hP, hK, hD0, hE⟩ := hv
  have hx := B.exec
  have hb := B.bytes
  have hr := B.returns
  have hts := atoms_spec (ws := vs_k_X16_loops) B.pre
  have hown : s.vm.findClass RX16 = some m.cls := findClass_of_methodNamed B.named
  have hlocks := B.notSynchronized
  subst hsz
  have hD := hD0.self (sz := s.heap.size)
  generalize hAe : va_A [(m0, .inr (20, [.int 0, .int 0, .ref m1, .ref m2, .ref m3, .int 0, .ref m4, .ref m5, .ref m6, .int 0, .ref m7, .ref m8, .ref m9, .int 0, .ref m10, .int 0, .ref m11, .ref m12, .ref m13, .int 0, .ref m14, .int 0, .int 0, .int 0, .ref m15, .ref m16])), (m10, .inr (4, [.int 0, .ref td, .int 0])), (m7, .inl (ty 3, 384, .inl (fun _ => 0))), (m8, .inl (ty 3, 384, .inl (fun _ => 0))), (m9, .inl (ty 0, 20, .inl (fun _ => 0))), (m12, .inl (ty 0, 384, .inl (fun _ => 0))), (m2, .inr (4, [.int 0, .ref td, .int 0]))] s.heap.size = A at hD hE ⊢
  have hA : ∀ q : Nat, s.heap.size ≤ q → A q := fun q h => by rw [← hAe]; exact Or.inr h
  have hS : va_S A s.heap s.heap [] := va_S.rf
  have hP : va_P D vwCl [(m0, .inr (20, [.int 0, .int 0, .ref m1, .ref m2, .ref m3, .int 0, .ref m4, .ref m5, .ref m6, .int 0, .ref m7, .ref m8, .ref m9, .int 0, .ref m10, .int 0, .ref m11, .ref m12, .ref m13, .int 0, .ref m14, .int 0, .int 0, .int 0, .ref m15, .ref m16])), (m10, .inr (4, [.int 0, .ref td, .int 0])), (m7, .inl (ty 3, 384, .inl (fun _ => 0))), (m8, .inl (ty 3, 384, .inl (fun _ => 0))), (m9, .inl (ty 0, 20, .inl (fun _ => 0))), (m12, .inl (ty 0, 384, .inl (fun _ => 0))), (m2, .inr (4, [.int 0, .ref td, .int 0]))] s.heap := hP
  have hl := lv_entry ([.ref m0]) (n := 5) (Nat.le_of_ble_eq_true rfl)
  rw [lg_entry_eq]
  generalize (lg_sl ([.ref m0]) ++ List.replicate (5 - (lg_sl ([.ref m0])).length) Slot.unset).toArray = ls at hl ⊢
  have hl : lv_has ls 5 [(0, .ref m0)] := hl
  refine lv_aload_n hx hb dX16_loops_0 rfl (lv_at hl 0 rfl) ?_
  refine lv_iconst (v := 0) hx hb dX16_loops_1 (by decide) ?_
  refine va_put (D := D) (ci := 20) (v := .int 0) (ty := tyX16 0) (C := RX16) (T := TX16) (N := 26) hx hb hts iv_k_X16_loops_X16 tyX16 tyX16_ok nmX16 hown hK hP hD hS 0 rfl rfl 0 (by decide) (hts (.fieldLink RX16 65 "AnswerFoldModel" "thrown" "I") (by decide +kernel)) (fun _ h9 => h9) rfl (by decide +kernel) rfl rfl (Nat.le_of_ble_eq_true rfl) dX16_loops_2 (fun H locs hP hD hS => ?_)
  have hP : va_P D vwCl [(m0, .inr (20, [.int 0, .int 0, .ref m1, .ref m2, .ref m3, .int 0, .ref m4, .ref m5, .ref m6, .int 0, .ref m7, .ref m8, .ref m9, .int 0, .ref m10, .int 0, .ref m11, .ref m12, .ref m13, .int 0, .ref m14, .int 0, .int 0, .int 0, .ref m15, .ref m16])), (m10, .inr (4, [.int 0, .ref td, .int 0])), (m7, .inl (ty 3, 384, .inl (fun _ => 0))), (m8, .inl (ty 3, 384, .inl (fun _ => 0))), (m9, .inl (ty 0, 20, .inl (fun _ => 0))), (m12, .inl (ty 0, 384, .inl (fun _ => 0))), (m2, .inr (4, [.int 0, .ref td, .int 0]))] H := hP
  have hD : va_D A [(m0, .inr (20, [.int 0, .int 0, .ref m1, .ref m2, .ref m3, .int 0, .ref m4, .ref m5, .ref m6, .int 0, .ref m7, .ref m8, .ref m9, .int 0, .ref m10, .int 0, .ref m11, .ref m12, .ref m13, .int 0, .ref m14, .int 0, .int 0, .int 0, .ref m15, .ref m16])), (m10, .inr (4, [.int 0, .ref td, .int 0])), (m7, .inl (ty 3, 384, .inl (fun _ => 0))), (m8, .inl (ty 3, 384, .inl (fun _ => 0))), (m9, .inl (ty 0, 20, .inl (fun _ => 0))), (m12, .inl (ty 0, 384, .inl (fun _ => 0))), (m2, .inr (4, [.int 0, .ref td, .int 0]))] := hD
  refine lv_aload_n hx hb dX16_loops_5 rfl (lv_at hl 0 rfl) ?_
  refine wq_v (wc := [(m0, .inr (20, [.int 0, .int 0, .ref m1, .ref m2, .ref m3, .int 0, .ref m4, .ref m5, .ref m6, .int 0, .ref m7, .ref m8, .ref m9, .int 0, .ref m10, .int 0, .ref m11, .ref m12, .ref m13, .int 0, .ref m14, .int 0, .int 0, .int 0, .ref m15, .ref m16])), (m10, .inr (4, [.int 0, .ref td, .int 0])), (m7, .inl (ty 3, 384, .inl (fun _ => 0))), (m8, .inl (ty 3, 384, .inl (fun _ => 0))), (m9, .inl (ty 0, 20, .inl (fun _ => 0))), (m12, .inl (ty 0, 384, .inl (fun _ => 0))), (m2, .inr (4, [.int 0, .ref td, .int 0]))]) (wr := []) (va_runV (As := []) (rest := []) ⟨hx, hb, hml, hown, hts⟩ (k_X16_groundAll l D ty td mi H.size m0 m1 m2 m3 m4 m5 m6 m7 m8 m9 m10 m11 m12 m13 m14 m15 m16) (cwV 0 hts gv_k_X16_loops_0 rfl rfl rfl (by decide +kernel) ⟨(Nat.le_of_ble_eq_true rfl), (Nat.le_of_ble_eq_true rfl)⟩) (wq_preV hP hD hK hE hS hA [0, 1, 2, 3, 4, 5, 6] rfl (by decide) 0 20 rfl rfl) rfl rfl hl.1 rfl (lv_room (Nat.le_of_ble_eq_true rfl)) dX16_loops_6 ⟨(Nat.le_of_ble_eq_true rfl), (Nat.le_of_ble_eq_true rfl)⟩) hS hA hP hD [0, 1, 2, 3, 4, 5, 6] [] rfl rfl (by decide) (by decide) (fun u H locs hw hP hD hS => ?_)
  obtain rfl := hw
  have hP : va_P D vwCl [(m7, .inl (ty 3, 384, .inl (fun _ => 0))), (m8, .inl (ty 3, 384, .inl (fun _ => 0))), (m9, .inl (ty 0, 20, .inl (fun _ => 0))), (m12, .inl (ty 0, 384, .inl (fun j => if j < 384 then (-1) else 0))), (m10, .inr (4, [.int (0 + 1), .ref td, .int 0])), (m0, .inr (20, [.int 0, .int 0, .ref m1, .ref m2, .ref m3, .int 0, .ref m4, .ref m5, .ref m6, .int 1, .ref m7, .ref m8, .ref m9, .int 0, .ref m10, .int 0, .ref m11, .ref m12, .ref m13, .int 0, .ref m14, .int 0, .int 0, .int 0, .ref m15, .ref m16])), (m2, .inr (4, [.int 0, .ref td, .int 0]))] H := hP
  have hD : va_D A [(m7, .inl (ty 3, 384, .inl (fun _ => 0))), (m8, .inl (ty 3, 384, .inl (fun _ => 0))), (m9, .inl (ty 0, 20, .inl (fun _ => 0))), (m12, .inl (ty 0, 384, .inl (fun j => if j < 384 then (-1) else 0))), (m10, .inr (4, [.int (0 + 1), .ref td, .int 0])), (m0, .inr (20, [.int 0, .int 0, .ref m1, .ref m2, .ref m3, .int 0, .ref m4, .ref m5, .ref m6, .int 1, .ref m7, .ref m8, .ref m9, .int 0, .ref m10, .int 0, .ref m11, .ref m12, .ref m13, .int 0, .ref m14, .int 0, .int 0, .int 0, .ref m15, .ref m16])), (m2, .inr (4, [.int 0, .ref td, .int 0]))] := hD
  refine W.widen (k := 0) (n := 0) (Nat.le_of_ble_eq_true rfl) (Nat.le_of_ble_eq_true rfl) ?_
  refine lv_aload_n hx hb dX16_loops_9 rfl (lv_at hl 0 rfl) ?_
  refine lv_aload_n hx hb dX16_loops_10 rfl (lv_at hl 0 rfl) ?_
  refine va_get (D := D) (ci := 20) (v := .int 0) (C := RX16) (T := TX16) (N := 26) hx hb hts iv_k_X16_loops_X16 hown hK hP 5 rfl rfl 13 (by decide) (hts (.fieldLink RX16 261 "AnswerFoldModel" "keptAll" "I") (by decide +kernel)) (fun _ h9 => h9) rfl dX16_loops_11 ?_
  refine lv_sipush (v := 300) hx hb dX16_loops_14 (by decide) ?_
  refine lv_icmp_le (tgt := 24) hx hb dX16_loops_17 (by decide) (fun _ => ?_) (fun c0 => absurd (by decide) c0)
  refine lv_iconst (v := 0) hx hb dX16_loops_24 (by decide) ?_
  refine lv_iconst (v := 1) hx hb dX16_loops_25 (by decide) ?_
  refine wq_i (wc := [(m0, .inr (20, [.int 0, .int 0, .ref m1, .ref m2, .ref m3, .int 0, .ref m4, .ref m5, .ref m6, .int 1, .ref m7, .ref m8, .ref m9, .int 0, .ref m10, .int 0, .ref m11, .ref m12, .ref m13, .int 0, .ref m14, .int 0, .int 0, .int 0, .ref m15, .ref m16]))]) (wr := [(m7, .inl (ty 3, 384, .inl (fun _ => 0))), (m8, .inl (ty 3, 384, .inl (fun _ => 0))), (m9, .inl (ty 0, 20, .inl (fun _ => 0))), (m12, .inl (ty 0, 384, .inl (fun j => if j < 384 then (-1) else 0))), (m10, .inr (4, [.int (0 + 1), .ref td, .int 0])), (m2, .inr (4, [.int 0, .ref td, .int 0]))]) (va_runV (As := [.int 0, .int 1]) (rest := []) ⟨hx, hb, hml, hown, hts⟩ (k_X16_fails_0_1 l D ty td mi H.size m0 m1 m2 m3 m4 m5 m6 m7 m8 m9 m10 m11 m12 m13 m14 m15 m16 1) (cwV 2 hts gv_k_X16_loops_1 rfl rfl rfl (by decide +kernel) ⟨(Nat.le_of_ble_eq_true rfl), (Nat.le_of_ble_eq_true rfl)⟩) (wq_preV hP hD hK hE hS hA [5] rfl (by decide) 5 20 rfl rfl) rfl rfl hl.1 rfl (lv_room (Nat.le_of_ble_eq_true rfl)) dX16_loops_26 ⟨(Nat.le_of_ble_eq_true rfl), (Nat.le_of_ble_eq_true rfl)⟩) hS hA hP hD [5] [0, 1, 2, 3, 4, 6] rfl rfl (by decide) (by decide) (fun r u H locs hw hP hD hS => ?_)
  obtain ⟨rfl, rfl⟩ := hw
  have hP : va_P D vwCl [(m7, .inl (ty 3, 384, .inl (fun _ => 0))), (m8, .inl (ty 3, 384, .inl (fun _ => 0))), (m9, .inl (ty 0, 20, .inl (fun _ => 0))), (m12, .inl (ty 0, 384, .inl (fun j => if j < 384 then (-1) else 0))), (m10, .inr (4, [.int (0 + 1), .ref td, .int 0])), (m2, .inr (4, [.int 0, .ref td, .int 0])), (m0, .inr (20, [.int 0, .int 0, .ref m1, .ref m2, .ref m3, .int 0, .ref m4, .ref m5, .ref m6, .int 1, .ref m7, .ref m8, .ref m9, .int 0, .ref m10, .int 0, .ref m11, .ref m12, .ref m13, .int 0, .ref m14, .int 0, .int 0, .int 0, .ref m15, .ref m16]))] H := hP
  have hD : va_D A [(m7, .inl (ty 3, 384, .inl (fun _ => 0))), (m8, .inl (ty 3, 384, .inl (fun _ => 0))), (m9, .inl (ty 0, 20, .inl (fun _ => 0))), (m12, .inl (ty 0, 384, .inl (fun j => if j < 384 then (-1) else 0))), (m10, .inr (4, [.int (0 + 1), .ref td, .int 0])), (m2, .inr (4, [.int 0, .ref td, .int 0])), (m0, .inr (20, [.int 0, .int 0, .ref m1, .ref m2, .ref m3, .int 0, .ref m4, .ref m5, .ref m6, .int 1, .ref m7, .ref m8, .ref m9, .int 0, .ref m10, .int 0, .ref m11, .ref m12, .ref m13, .int 0, .ref m14, .int 0, .int 0, .int 0, .ref m15, .ref m16]))] := hD
  refine W.widen (k := 0) (n := 0) (Nat.le_of_ble_eq_true rfl) (Nat.le_of_ble_eq_true rfl) ?_
  refine lv_if_eq (tgt := 34) hx hb dX16_loops_29 (by decide) (fun _ => ?_) (fun c0 => absurd (by decide) c0)
  refine lv_aload_n hx hb dX16_loops_34 rfl (lv_at hl 0 rfl) ?_
  refine wq_v (wc := [(m0, .inr (20, [.int 0, .int 0, .ref m1, .ref m2, .ref m3, .int 0, .ref m4, .ref m5, .ref m6, .int 1, .ref m7, .ref m8, .ref m9, .int 0, .ref m10, .int 0, .ref m11, .ref m12, .ref m13, .int 0, .ref m14, .int 0, .int 0, .int 0, .ref m15, .ref m16])), (m10, .inr (4, [.int (0 + 1), .ref td, .int 0]))]) (wr := [(m7, .inl (ty 3, 384, .inl (fun _ => 0))), (m8, .inl (ty 3, 384, .inl (fun _ => 0))), (m9, .inl (ty 0, 20, .inl (fun _ => 0))), (m12, .inl (ty 0, 384, .inl (fun j => if j < 384 then (-1) else 0))), (m2, .inr (4, [.int 0, .ref td, .int 0]))]) (va_runV (As := []) (rest := []) ⟨hx, hb, hml, hown, hts⟩ (k_X16_findLeads l D ty td mi H.size m0 m1 m2 m3 m4 m5 m6 m7 m8 m9 m10 m11 m12 m13 m14 m15 m16 (0 + 1)) (cwV 0 hts gv_k_X16_loops_2 rfl rfl rfl (by decide +kernel) ⟨(Nat.le_of_ble_eq_true rfl), (Nat.le_of_ble_eq_true rfl)⟩) (wq_preV hP hD hK hE hS hA [6, 4] rfl (by decide) 6 20 rfl rfl) rfl rfl hl.1 rfl (lv_room (Nat.le_of_ble_eq_true rfl)) dX16_loops_35 ⟨(Nat.le_of_ble_eq_true rfl), (Nat.le_of_ble_eq_true rfl)⟩) hS hA hP hD [6, 4] [0, 1, 2, 3, 5] rfl rfl (by decide) (by decide) (fun u H locs hw hP hD hS => ?_)
  obtain ⟨q141, rfl⟩ := hw
  have hP : va_P D vwCl [(m7, .inl (ty 3, 384, .inl (fun _ => 0))), (m8, .inl (ty 3, 384, .inl (fun _ => 0))), (m9, .inl (ty 0, 20, .inl (fun _ => 0))), (m12, .inl (ty 0, 384, .inl (fun j => if j < 384 then (-1) else 0))), (m2, .inr (4, [.int 0, .ref td, .int 0])), (m0, .inr (20, [.int 0, .int 0, .ref m1, .ref m2, .ref m3, .int 0, .ref m4, .ref m5, .ref m6, .int 1, .ref m7, .ref m8, .ref m9, .int 0, .ref m10, .int 0, .ref m11, .ref m12, .ref m13, .int 0, .ref m14, .int 0, .int 0, .int 0, .ref m15, .ref m16])), (q141, .inr (3, [.int 0, .int (-1), .int (0 + 1), .ref m10])), (m10, .inr (4, [.int (0 + 1), .ref td, .int 0]))] H := hP
  have hD : va_D A [(m7, .inl (ty 3, 384, .inl (fun _ => 0))), (m8, .inl (ty 3, 384, .inl (fun _ => 0))), (m9, .inl (ty 0, 20, .inl (fun _ => 0))), (m12, .inl (ty 0, 384, .inl (fun j => if j < 384 then (-1) else 0))), (m2, .inr (4, [.int 0, .ref td, .int 0])), (m0, .inr (20, [.int 0, .int 0, .ref m1, .ref m2, .ref m3, .int 0, .ref m4, .ref m5, .ref m6, .int 1, .ref m7, .ref m8, .ref m9, .int 0, .ref m10, .int 0, .ref m11, .ref m12, .ref m13, .int 0, .ref m14, .int 0, .int 0, .int 0, .ref m15, .ref m16])), (q141, .inr (3, [.int 0, .int (-1), .int (0 + 1), .ref m10])), (m10, .inr (4, [.int (0 + 1), .ref td, .int 0]))] := hD
  refine W.widen (k := 1) (n := 4) (Nat.le_of_ble_eq_true rfl) (Nat.le_of_ble_eq_true rfl) ?_
  refine lv_iconst (v := 0) hx hb dX16_loops_38 (by decide) ?_
  refine lv_istore_n (lv' := [(1, .int 0), (0, .ref m0)]) hx hb dX16_loops_39 rfl hl (by decide) rfl (fun ls hl => ?_)
  refine lv_iconst (v := 0) hx hb dX16_loops_40 (by decide) ?_
  refine lv_istore_n (lv' := [(2, .int 0), (1, .int 0), (0, .ref m0)]) hx hb dX16_loops_41 rfl hl (by decide) rfl (fun ls hl => ?_)
  refine lv_iload_n hx hb dX16_loops_42 rfl (lv_at hl 0 rfl) ?_
  refine lv_aload_n hx hb dX16_loops_43 rfl (lv_at hl 2 rfl) ?_
  refine va_get (D := D) (ci := 20) (v := .int 0) (C := RX16) (T := TX16) (N := 26) hx hb hts iv_k_X16_loops_X16 hown hK hP 5 rfl rfl 15 (by decide) (hts (.fieldLink RX16 296 "AnswerFoldModel" "openMany" "I") (by decide +kernel)) (fun _ h9 => h9) rfl dX16_loops_44 ?_
  refine lv_icmp_ge (tgt := 141) hx hb dX16_loops_47 (by decide) (fun _ => ?_) (fun c0 => absurd (by decide) c0)
  refine lv_iload_n hx hb dX16_loops_141 rfl (lv_at hl 1 rfl) ?_
  have hP9 := hP.sub (ws' := [(m0, .inr (20, [.int 0, .int 0, .ref m1, .ref m2, .ref m3, .int 0, .ref m4, .ref m5, .ref m6, .int 1, .ref m7, .ref m8, .ref m9, .int 0, .ref m10, .int 0, .ref m11, .ref m12, .ref m13, .int 0, .ref m14, .int 0, .int 0, .int 0, .ref m15, .ref m16]))]) [5] rfl
  have hD9 := hD.sub (ws' := [(m0, .inr (20, [.int 0, .int 0, .ref m1, .ref m2, .ref m3, .int 0, .ref m4, .ref m5, .ref m6, .int 1, .ref m7, .ref m8, .ref m9, .int 0, .ref m10, .int 0, .ref m11, .ref m12, .ref m13, .int 0, .ref m14, .int 0, .int 0, .int 0, .ref m15, .ref m16]))]) [5] (by decide) rfl
  refine W.widen (k := 1) (n := 4) (Nat.le_of_ble_eq_true rfl) (Nat.le_of_ble_eq_true rfl) ?_
  exact W.iret (v := 0) hx hb hr (fun t ht hW => ⟨⟨0, [(m0, .inr (20, [.int 0, .int 0, .ref m1, .ref m2, .ref m3, .int 0, .ref m4, .ref m5, .ref m6, .int 1, .ref m7, .ref m8, .ref m9, .int 0, .ref m10, .int 0, .ref m11, .ref m12, .ref m13, .int 0, .ref m14, .int 0, .int 0, .int 0, .ref m15, .ref m16]))], rfl, ⟨rfl, rfl⟩, wq_B.of ht hP9 hD9⟩, hS.F ht⟩) hS.2.2 dX16_loops_142
def vs_k_X16_walkByAll : List Cond := .code yX16_walkByAll cX16_walkByAll 4 (some .int) :: ([.fieldLink RX16 65 "AnswerFoldModel" "thrown" "I", .methodLink RX16 306 yX16_groundAll, .instanceMethod yX16_groundAll, .selects RX16 yX16_groundAll yX16_groundAll, .initialized RX16, .fieldLink RX16 296 "AnswerFoldModel" "openMany" "I", .fieldLink RX16 261 "AnswerFoldModel" "keptAll" "I", .methodLink RX16 87 yX16_fails, .instanceMethod yX16_fails, .selects RX16 yX16_fails yX16_fails, .methodLink RX16 344 yX16_findAssumed, .instanceMethod yX16_findAssumed, .selects RX16 yX16_findAssumed yX16_findAssumed, .methodLink RX16 347 yX16_fits, .instanceMethod yX16_fits, .selects RX16 yX16_fits yX16_fits, .methodLink RX16 350 yX16_isAnswer, .instanceMethod yX16_isAnswer, .selects RX16 yX16_isAnswer yX16_isAnswer] ++ (u_ws RX16 TX16 26 ++ (vs_k_X16_groundAll ++ (vs_k_X16_fails_0_1 ++ (vs_k_X16_findAssumed ++ (vs_k_X16_fits ++ (vs_k_X16_isAnswer)))))))
theorem iv_k_X16_walkByAll_X16 : ∀ w ∈ u_ws RX16 TX16 26, w ∈ vs_k_X16_walkByAll := (fun _ h => List.mem_cons_of_mem _ (List.mem_append_right _ (List.mem_append_left _ h)))
set_option maxRecDepth 20000 in
theorem gv_k_X16_walkByAll_0 : GoodIn vs_k_X16_walkByAll (wsV RX16 306 RX16 yX16_groundAll vs_k_X16_groundAll) := goodIn_app (goodIn_sub (by decide +kernel) (by decide +kernel)) (goodIn_sub (fun _ h => List.mem_cons_of_mem _ (List.mem_append_right _ (List.mem_append_right _ (List.mem_append_left _ h)))) (by decide +kernel))
set_option maxRecDepth 20000 in
theorem gv_k_X16_walkByAll_1 : GoodIn vs_k_X16_walkByAll (wsV RX16 87 RX16 yX16_fails vs_k_X16_fails_0_1) := goodIn_app (goodIn_sub (by decide +kernel) (by decide +kernel)) (goodIn_sub (fun _ h => List.mem_cons_of_mem _ (List.mem_append_right _ (List.mem_append_right _ (List.mem_append_right _ (List.mem_append_left _ h))))) (by decide +kernel))
set_option maxRecDepth 20000 in
theorem gv_k_X16_walkByAll_2 : GoodIn vs_k_X16_walkByAll (wsV RX16 344 RX16 yX16_findAssumed vs_k_X16_findAssumed) := goodIn_app (goodIn_sub (by decide +kernel) (by decide +kernel)) (goodIn_sub (fun _ h => List.mem_cons_of_mem _ (List.mem_append_right _ (List.mem_append_right _ (List.mem_append_right _ (List.mem_append_right _ (List.mem_append_left _ h)))))) (by decide +kernel))
set_option maxRecDepth 20000 in
theorem gv_k_X16_walkByAll_3 : GoodIn vs_k_X16_walkByAll (wsV RX16 347 RX16 yX16_fits vs_k_X16_fits) := goodIn_app (goodIn_sub (by decide +kernel) (by decide +kernel)) (goodIn_sub (fun _ h => List.mem_cons_of_mem _ (List.mem_append_right _ (List.mem_append_right _ (List.mem_append_right _ (List.mem_append_right _ (List.mem_append_right _ (List.mem_append_left _ h))))))) (by decide +kernel))
set_option maxRecDepth 20000 in
theorem gv_k_X16_walkByAll_4 : GoodIn vs_k_X16_walkByAll (wsV RX16 350 RX16 yX16_isAnswer vs_k_X16_isAnswer) := goodIn_app (goodIn_sub (by decide +kernel) (by decide +kernel)) (goodIn_sub (fun _ h => List.mem_cons_of_mem _ (List.mem_append_right _ (List.mem_append_right _ (List.mem_append_right _ (List.mem_append_right _ (List.mem_append_right _ (List.mem_append_right _ (h)))))))) (by decide +kernel))
set_option maxHeartbeats 4000000 in
set_option maxRecDepth 100000 in
theorem k_X16_walkByAll (l : Launch) (D : va_G) (ty : Nat → ClassId) (td mi sz : Nat) (m0 : Nat) (m1 : Nat) (m2 : Nat) (m3 : Nat) (m4 : Nat) (m5 : Nat) (m6 : Nat) (m7 : Nat) (m8 : Nat) (m9 : Nat) (m10 : Nat) (m11 : Nat) (m12 : Nat) (m13 : Nat) (m14 : Nat) (m15 : Nat) (m16 : Nat) : Met l yX16_walkByAll vs_k_X16_walkByAll { frames := 5, cells := 1, slots := 4, locals := 102 } (va_Pc [.ref m0] (wq_P D ty td mi [(m0, .inr (20, [.int 0, .int 0, .ref m1, .ref m2, .ref m3, .int 0, .ref m4, .ref m5, .ref m6, .int 0, .ref m7, .ref m8, .ref m9, .int 0, .ref m10, .int 0, .ref m11, .ref m12, .ref m13, .int 0, .ref m14, .int 0, .int 0, .int 0, .ref m15, .ref m16])), (m10, .inr (4, [.int 0, .ref td, .int 0])), (m7, .inl (ty 3, 384, .inl (fun _ => 0))), (m8, .inl (ty 3, 384, .inl (fun _ => 0))), (m9, .inl (ty 0, 20, .inl (fun _ => 0))), (m12, .inl (ty 0, 384, .inl (fun _ => 0))), (m2, .inr (4, [.int 0, .ref td, .int 0])), (m6, .inl (ty 0, 384, .inl (fun _ => 0)))] sz)) (va_Qi (fun (r : Int32) (u : va_W) => (r = 1 ∧ (u = [(m0, .inr (20, [.int 0, .int 0, .ref m1, .ref m2, .ref m3, .int 0, .ref m4, .ref m5, .ref m6, .int 1, .ref m7, .ref m8, .ref m9, .int 0, .ref m10, .int 0, .ref m11, .ref m12, .ref m13, .int 0, .ref m14, .int 0, .int 0, .int 0, .ref m15, .ref m16]))]))) (wq_B D (va_A [(m0, .inr (20, [.int 0, .int 0, .ref m1, .ref m2, .ref m3, .int 0, .ref m4, .ref m5, .ref m6, .int 0, .ref m7, .ref m8, .ref m9, .int 0, .ref m10, .int 0, .ref m11, .ref m12, .ref m13, .int 0, .ref m14, .int 0, .int 0, .int 0, .ref m15, .ref m16])), (m10, .inr (4, [.int 0, .ref td, .int 0])), (m7, .inl (ty 3, 384, .inl (fun _ => 0))), (m8, .inl (ty 3, 384, .inl (fun _ => 0))), (m9, .inl (ty 0, 20, .inl (fun _ => 0))), (m12, .inl (ty 0, 384, .inl (fun _ => 0))), (m2, .inr (4, [.int 0, .ref td, .int 0])), (m6, .inl (ty 0, 384, .inl (fun _ => 0)))] sz)) (va_A [(m0, .inr (20, [.int 0, .int 0, .ref m1, .ref m2, .ref m3, .int 0, .ref m4, .ref m5, .ref m6, .int 0, .ref m7, .ref m8, .ref m9, .int 0, .ref m10, .int 0, .ref m11, .ref m12, .ref m13, .int 0, .ref m14, .int 0, .int 0, .int 0, .ref m15, .ref m16])), (m10, .inr (4, [.int 0, .ref td, .int 0])), (m7, .inl (ty 3, 384, .inl (fun _ => 0))), (m8, .inl (ty 3, 384, .inl (fun _ => 0))), (m9, .inl (ty 0, 20, .inl (fun _ => 0))), (m12, .inl (ty 0, 384, .inl (fun _ => 0))), (m2, .inr (4, [.int 0, .ref td, .int 0])), (m6, .inl (ty 0, 384, .inl (fun _ => 0)))] sz)) 1 4 (va_A [(m0, .inr (20, [.int 0, .int 0, .ref m1, .ref m2, .ref m3, .int 0, .ref m4, .ref m5, .ref m6, .int 0, .ref m7, .ref m8, .ref m9, .int 0, .ref m10, .int 0, .ref m11, .ref m12, .ref m13, .int 0, .ref m14, .int 0, .int 0, .int 0, .ref m15, .ref m16])), (m10, .inr (4, [.int 0, .ref td, .int 0])), (m7, .inl (ty 3, 384, .inl (fun _ => 0))), (m8, .inl (ty 3, 384, .inl (fun _ => 0))), (m9, .inl (ty 0, 20, .inl (fun _ => 0))), (m12, .inl (ty 0, 384, .inl (fun _ => 0))), (m2, .inr (4, [.int 0, .ref td, .int 0])), (m6, .inl (ty 0, 384, .inl (fun _ => 0)))] sz) := by
  refine Met.ofW (cc := cX16_walkByAll) (maxL := 4) (ret := (some .int)) (by decide) rfl ?_
  intro p e s m args below meth c s₁ B hml hv
  obtain ⟨rfl, hsz, hP, hK, hD0, hE⟩ := hv
  have hx := B.exec
  have hb := B.bytes
  have hr := B.returns
  have hts := atoms_spec (ws := vs_k_X16_walkByAll) B.pre
  have hown : s.vm.findClass RX16 = some m.cls := findClass_of_methodNamed B.named
  have hlocks := B.notSynchronized
  subst hsz
  have hD := hD0.self (sz := s.heap.size)
  generalize hAe : va_A [(m0, .inr (20, [.int 0, .int 0, .ref m1, .ref m2, .ref m3, .int 0, .ref m4, .ref m5, .ref m6, .int 0, .ref m7, .ref m8, .ref m9, .int 0, .ref m10, .int 0, .ref m11, .ref m12, .ref m13, .int 0, .ref m14, .int 0, .int 0, .int 0, .ref m15, .ref m16])), (m10, .inr (4, [.int 0, .ref td, .int 0])), (m7, .inl (ty 3, 384, .inl (fun _ => 0))), (m8, .inl (ty 3, 384, .inl (fun _ => 0))), (m9, .inl (ty 0, 20, .inl (fun _ => 0))), (m12, .inl (ty 0, 384, .inl (fun _ => 0))), (m2, .inr (4, [.int 0, .ref td, .int 0])), (m6, .inl (ty 0, 384, .inl (fun _ => 0)))] s.heap.size = A at hD hE ⊢
  have hA : ∀ q : Nat, s.heap.size ≤ q → A q := fun q h => by rw [← hAe]; exact Or.inr h
  have hS : va_S A s.heap s.heap [] := va_S.rf
  have hP : va_P D vwCl [(m0, .inr (20, [.int 0, .int 0, .ref m1, .ref m2, .ref m3, .int 0, .ref m4, .ref m5, .ref m6, .int 0, .ref m7, .ref m8, .ref m9, .int 0, .ref m10, .int 0, .ref m11, .ref m12, .ref m13, .int 0, .ref m14, .int 0, .int 0, .int 0, .ref m15, .ref m16])), (m10, .inr (4, [.int 0, .ref td, .int 0])), (m7, .inl (ty 3, 384, .inl (fun _ => 0))), (m8, .inl (ty 3, 384, .inl (fun _ => 0))), (m9, .inl (ty 0, 20, .inl (fun _ => 0))), (m12, .inl (ty 0, 384, .inl (fun _ => 0))), (m2, .inr (4, [.int 0, .ref td, .int 0])), (m6, .inl (ty 0, 384, .inl (fun _ => 0)))] s.heap := hP
  have hl := lv_entry ([.ref m0]) (n := 4) (Nat.le_of_ble_eq_true rfl)
  rw [lg_entry_eq]
  generalize (lg_sl ([.ref m0]) ++ List.replicate (4 - (lg_sl ([.ref m0])).length) Slot.unset).toArray = ls at hl ⊢
  have hl : lv_has ls 4 [(0, .ref m0)] := hl
  refine lv_aload_n hx hb dX16_walkByAll_0 rfl (lv_at hl 0 rfl) ?_
  refine lv_iconst (v := 0) hx hb dX16_walkByAll_1 (by decide) ?_
  refine va_put (D := D) (ci := 20) (v := .int 0) (ty := tyX16 0) (C := RX16) (T := TX16) (N := 26) hx hb hts iv_k_X16_walkByAll_X16 tyX16 tyX16_ok nmX16 hown hK hP hD hS 0 rfl rfl 0 (by decide) (hts (.fieldLink RX16 65 "AnswerFoldModel" "thrown" "I") (by decide +kernel)) (fun _ h9 => h9) rfl (by decide +kernel) rfl rfl (Nat.le_of_ble_eq_true rfl) dX16_walkByAll_2 (fun H locs hP hD hS => ?_)
  have hP : va_P D vwCl [(m0, .inr (20, [.int 0, .int 0, .ref m1, .ref m2, .ref m3, .int 0, .ref m4, .ref m5, .ref m6, .int 0, .ref m7, .ref m8, .ref m9, .int 0, .ref m10, .int 0, .ref m11, .ref m12, .ref m13, .int 0, .ref m14, .int 0, .int 0, .int 0, .ref m15, .ref m16])), (m10, .inr (4, [.int 0, .ref td, .int 0])), (m7, .inl (ty 3, 384, .inl (fun _ => 0))), (m8, .inl (ty 3, 384, .inl (fun _ => 0))), (m9, .inl (ty 0, 20, .inl (fun _ => 0))), (m12, .inl (ty 0, 384, .inl (fun _ => 0))), (m2, .inr (4, [.int 0, .ref td, .int 0])), (m6, .inl (ty 0, 384, .inl (fun _ => 0)))] H := hP
  have hD : va_D A [(m0, .inr (20, [.int 0, .int 0, .ref m1, .ref m2, .ref m3, .int 0, .ref m4, .ref m5, .ref m6, .int 0, .ref m7, .ref m8, .ref m9, .int 0, .ref m10, .int 0, .ref m11, .ref m12, .ref m13, .int 0, .ref m14, .int 0, .int 0, .int 0, .ref m15, .ref m16])), (m10, .inr (4, [.int 0, .ref td, .int 0])), (m7, .inl (ty 3, 384, .inl (fun _ => 0))), (m8, .inl (ty 3, 384, .inl (fun _ => 0))), (m9, .inl (ty 0, 20, .inl (fun _ => 0))), (m12, .inl (ty 0, 384, .inl (fun _ => 0))), (m2, .inr (4, [.int 0, .ref td, .int 0])), (m6, .inl (ty 0, 384, .inl (fun _ => 0)))] := hD
  refine lv_aload_n hx hb dX16_walkByAll_5 rfl (lv_at hl 0 rfl) ?_
  refine wq_v (wc := [(m0, .inr (20, [.int 0, .int 0, .ref m1, .ref m2, .ref m3, .int 0, .ref m4, .ref m5, .ref m6, .int 0, .ref m7, .ref m8, .ref m9, .int 0, .ref m10, .int 0, .ref m11, .ref m12, .ref m13, .int 0, .ref m14, .int 0, .int 0, .int 0, .ref m15, .ref m16])), (m10, .inr (4, [.int 0, .ref td, .int 0])), (m7, .inl (ty 3, 384, .inl (fun _ => 0))), (m8, .inl (ty 3, 384, .inl (fun _ => 0))), (m9, .inl (ty 0, 20, .inl (fun _ => 0))), (m12, .inl (ty 0, 384, .inl (fun _ => 0))), (m2, .inr (4, [.int 0, .ref td, .int 0]))]) (wr := [(m6, .inl (ty 0, 384, .inl (fun _ => 0)))]) (va_runV (As := []) (rest := []) ⟨hx, hb, hml, hown, hts⟩ (k_X16_groundAll l D ty td mi H.size m0 m1 m2 m3 m4 m5 m6 m7 m8 m9 m10 m11 m12 m13 m14 m15 m16) (cwV 0 hts gv_k_X16_walkByAll_0 rfl rfl rfl (by decide +kernel) ⟨(Nat.le_of_ble_eq_true rfl), (Nat.le_of_ble_eq_true rfl)⟩) (wq_preV hP hD hK hE hS hA [0, 1, 2, 3, 4, 5, 6] rfl (by decide) 0 20 rfl rfl) rfl rfl hl.1 rfl (lv_room (Nat.le_of_ble_eq_true rfl)) dX16_walkByAll_6 ⟨(Nat.le_of_ble_eq_true rfl), (Nat.le_of_ble_eq_true rfl)⟩) hS hA hP hD [0, 1, 2, 3, 4, 5, 6] [7] rfl rfl (by decide) (by decide) (fun u H locs hw hP hD hS => ?_)
  obtain rfl := hw
  have hP : va_P D vwCl [(m6, .inl (ty 0, 384, .inl (fun _ => 0))), (m7, .inl (ty 3, 384, .inl (fun _ => 0))), (m8, .inl (ty 3, 384, .inl (fun _ => 0))), (m9, .inl (ty 0, 20, .inl (fun _ => 0))), (m12, .inl (ty 0, 384, .inl (fun j => if j < 384 then (-1) else 0))), (m10, .inr (4, [.int (0 + 1), .ref td, .int 0])), (m0, .inr (20, [.int 0, .int 0, .ref m1, .ref m2, .ref m3, .int 0, .ref m4, .ref m5, .ref m6, .int 1, .ref m7, .ref m8, .ref m9, .int 0, .ref m10, .int 0, .ref m11, .ref m12, .ref m13, .int 0, .ref m14, .int 0, .int 0, .int 0, .ref m15, .ref m16])), (m2, .inr (4, [.int 0, .ref td, .int 0]))] H := hP
  have hD : va_D A [(m6, .inl (ty 0, 384, .inl (fun _ => 0))), (m7, .inl (ty 3, 384, .inl (fun _ => 0))), (m8, .inl (ty 3, 384, .inl (fun _ => 0))), (m9, .inl (ty 0, 20, .inl (fun _ => 0))), (m12, .inl (ty 0, 384, .inl (fun j => if j < 384 then (-1) else 0))), (m10, .inr (4, [.int (0 + 1), .ref td, .int 0])), (m0, .inr (20, [.int 0, .int 0, .ref m1, .ref m2, .ref m3, .int 0, .ref m4, .ref m5, .ref m6, .int 1, .ref m7, .ref m8, .ref m9, .int 0, .ref m10, .int 0, .ref m11, .ref m12, .ref m13, .int 0, .ref m14, .int 0, .int 0, .int 0, .ref m15, .ref m16])), (m2, .inr (4, [.int 0, .ref td, .int 0]))] := hD
  refine W.widen (k := 0) (n := 0) (Nat.le_of_ble_eq_true rfl) (Nat.le_of_ble_eq_true rfl) ?_
  refine lv_aload_n hx hb dX16_walkByAll_9 rfl (lv_at hl 0 rfl) ?_
  refine lv_aload_n hx hb dX16_walkByAll_10 rfl (lv_at hl 0 rfl) ?_
  refine va_get (D := D) (ci := 20) (v := .int 0) (C := RX16) (T := TX16) (N := 26) hx hb hts iv_k_X16_walkByAll_X16 hown hK hP 6 rfl rfl 15 (by decide) (hts (.fieldLink RX16 296 "AnswerFoldModel" "openMany" "I") (by decide +kernel)) (fun _ h9 => h9) rfl dX16_walkByAll_11 ?_
  refine lv_bipush (v := 7) hx hb dX16_walkByAll_14 (by decide) ?_
  refine lv_icmp_gt (tgt := 29) hx hb dX16_walkByAll_16 (by decide) (fun c0 => absurd c0 (by decide)) (fun _ => ?_)
  refine lv_aload_n hx hb dX16_walkByAll_19 rfl (lv_at hl 0 rfl) ?_
  refine va_get (D := D) (ci := 20) (v := .int 0) (C := RX16) (T := TX16) (N := 26) hx hb hts iv_k_X16_walkByAll_X16 hown hK hP 6 rfl rfl 13 (by decide) (hts (.fieldLink RX16 261 "AnswerFoldModel" "keptAll" "I") (by decide +kernel)) (fun _ h9 => h9) rfl dX16_walkByAll_20 ?_
  refine lv_sipush (v := 300) hx hb dX16_walkByAll_23 (by decide) ?_
  refine lv_icmp_le (tgt := 33) hx hb dX16_walkByAll_26 (by decide) (fun _ => ?_) (fun c0 => absurd (by decide) c0)
  refine lv_iconst (v := 0) hx hb dX16_walkByAll_33 (by decide) ?_
  refine lv_iconst (v := 1) hx hb dX16_walkByAll_34 (by decide) ?_
  refine wq_i (wc := [(m0, .inr (20, [.int 0, .int 0, .ref m1, .ref m2, .ref m3, .int 0, .ref m4, .ref m5, .ref m6, .int 1, .ref m7, .ref m8, .ref m9, .int 0, .ref m10, .int 0, .ref m11, .ref m12, .ref m13, .int 0, .ref m14, .int 0, .int 0, .int 0, .ref m15, .ref m16]))]) (wr := [(m6, .inl (ty 0, 384, .inl (fun _ => 0))), (m7, .inl (ty 3, 384, .inl (fun _ => 0))), (m8, .inl (ty 3, 384, .inl (fun _ => 0))), (m9, .inl (ty 0, 20, .inl (fun _ => 0))), (m12, .inl (ty 0, 384, .inl (fun j => if j < 384 then (-1) else 0))), (m10, .inr (4, [.int (0 + 1), .ref td, .int 0])), (m2, .inr (4, [.int 0, .ref td, .int 0]))]) (va_runV (As := [.int 0, .int 1]) (rest := []) ⟨hx, hb, hml, hown, hts⟩ (k_X16_fails_0_1 l D ty td mi H.size m0 m1 m2 m3 m4 m5 m6 m7 m8 m9 m10 m11 m12 m13 m14 m15 m16 1) (cwV 2 hts gv_k_X16_walkByAll_1 rfl rfl rfl (by decide +kernel) ⟨(Nat.le_of_ble_eq_true rfl), (Nat.le_of_ble_eq_true rfl)⟩) (wq_preV hP hD hK hE hS hA [6] rfl (by decide) 6 20 rfl rfl) rfl rfl hl.1 rfl (lv_room (Nat.le_of_ble_eq_true rfl)) dX16_walkByAll_35 ⟨(Nat.le_of_ble_eq_true rfl), (Nat.le_of_ble_eq_true rfl)⟩) hS hA hP hD [6] [0, 1, 2, 3, 4, 5, 7] rfl rfl (by decide) (by decide) (fun r u H locs hw hP hD hS => ?_)
  obtain ⟨rfl, rfl⟩ := hw
  have hP : va_P D vwCl [(m6, .inl (ty 0, 384, .inl (fun _ => 0))), (m7, .inl (ty 3, 384, .inl (fun _ => 0))), (m8, .inl (ty 3, 384, .inl (fun _ => 0))), (m9, .inl (ty 0, 20, .inl (fun _ => 0))), (m12, .inl (ty 0, 384, .inl (fun j => if j < 384 then (-1) else 0))), (m10, .inr (4, [.int (0 + 1), .ref td, .int 0])), (m2, .inr (4, [.int 0, .ref td, .int 0])), (m0, .inr (20, [.int 0, .int 0, .ref m1, .ref m2, .ref m3, .int 0, .ref m4, .ref m5, .ref m6, .int 1, .ref m7, .ref m8, .ref m9, .int 0, .ref m10, .int 0, .ref m11, .ref m12, .ref m13, .int 0, .ref m14, .int 0, .int 0, .int 0, .ref m15, .ref m16]))] H := hP
  have hD : va_D A [(m6, .inl (ty 0, 384, .inl (fun _ => 0))), (m7, .inl (ty 3, 384, .inl (fun _ => 0))), (m8, .inl (ty 3, 384, .inl (fun _ => 0))), (m9, .inl (ty 0, 20, .inl (fun _ => 0))), (m12, .inl (ty 0, 384, .inl (fun j => if j < 384 then (-1) else 0))), (m10, .inr (4, [.int (0 + 1), .ref td, .int 0])), (m2, .inr (4, [.int 0, .ref td, .int 0])), (m0, .inr (20, [.int 0, .int 0, .ref m1, .ref m2, .ref m3, .int 0, .ref m4, .ref m5, .ref m6, .int 1, .ref m7, .ref m8, .ref m9, .int 0, .ref m10, .int 0, .ref m11, .ref m12, .ref m13, .int 0, .ref m14, .int 0, .int 0, .int 0, .ref m15, .ref m16]))] := hD
  refine W.widen (k := 0) (n := 0) (Nat.le_of_ble_eq_true rfl) (Nat.le_of_ble_eq_true rfl) ?_
  refine lv_if_eq (tgt := 43) hx hb dX16_walkByAll_38 (by decide) (fun _ => ?_) (fun c0 => absurd (by decide) c0)
  refine lv_iconst (v := 0) hx hb dX16_walkByAll_43 (by decide) ?_
  refine lv_istore_n (lv' := [(1, .int 0), (0, .ref m0)]) hx hb dX16_walkByAll_44 rfl hl (by decide) rfl (fun ls hl => ?_)
  refine lv_aload_n hx hb dX16_walkByAll_45 rfl (lv_at hl 1 rfl) ?_
  refine wq_i (wc := [(m0, .inr (20, [.int 0, .int 0, .ref m1, .ref m2, .ref m3, .int 0, .ref m4, .ref m5, .ref m6, .int 1, .ref m7, .ref m8, .ref m9, .int 0, .ref m10, .int 0, .ref m11, .ref m12, .ref m13, .int 0, .ref m14, .int 0, .int 0, .int 0, .ref m15, .ref m16])), (m12, .inl (ty 0, 384, .inl (fun j => if j < 384 then (-1) else 0))), (m6, .inl (ty 0, 384, .inl (fun _ => 0))), (m7, .inl (ty 3, 384, .inl (fun _ => 0)))]) (wr := [(m8, .inl (ty 3, 384, .inl (fun _ => 0))), (m9, .inl (ty 0, 20, .inl (fun _ => 0))), (m10, .inr (4, [.int (0 + 1), .ref td, .int 0])), (m2, .inr (4, [.int 0, .ref td, .int 0]))]) (va_runV (As := []) (rest := []) ⟨hx, hb, hml, hown, hts⟩ (k_X16_findAssumed l D ty td mi H.size m0 m1 m2 m3 m4 m5 m6 m7 m8 m9 m10 m11 m12 m13 m14 m15 m16) (cwV 0 hts gv_k_X16_walkByAll_2 rfl rfl rfl (by decide +kernel) ⟨(Nat.le_of_ble_eq_true rfl), (Nat.le_of_ble_eq_true rfl)⟩) (wq_preV hP hD hK hE hS hA [7, 4, 0, 1] rfl (by decide) 7 20 rfl rfl) rfl rfl hl.1 rfl (lv_room (Nat.le_of_ble_eq_true rfl)) dX16_walkByAll_46 ⟨(Nat.le_of_ble_eq_true rfl), (Nat.le_of_ble_eq_true rfl)⟩) hS hA hP hD [7, 4, 0, 1] [2, 3, 5, 6] rfl rfl (by decide) (by decide) (fun r u H locs hw hP hD hS => ?_)
  obtain ⟨rfl, rfl⟩ := hw
  have hP : va_P D vwCl [(m8, .inl (ty 3, 384, .inl (fun _ => 0))), (m9, .inl (ty 0, 20, .inl (fun _ => 0))), (m10, .inr (4, [.int (0 + 1), .ref td, .int 0])), (m2, .inr (4, [.int 0, .ref td, .int 0])), (m0, .inr (20, [.int 0, .int 0, .ref m1, .ref m2, .ref m3, .int 0, .ref m4, .ref m5, .ref m6, .int 1, .ref m7, .ref m8, .ref m9, .int 0, .ref m10, .int 0, .ref m11, .ref m12, .ref m13, .int 0, .ref m14, .int 0, .int 0, .int 0, .ref m15, .ref m16])), (m12, .inl (ty 0, 384, .inl (fun j => if j < 384 then (-1) else 0))), (m6, .inl (ty 0, 384, .inl (fun _ => 0))), (m7, .inl (ty 3, 384, .inl (fun _ => 0)))] H := hP
  have hD : va_D A [(m8, .inl (ty 3, 384, .inl (fun _ => 0))), (m9, .inl (ty 0, 20, .inl (fun _ => 0))), (m10, .inr (4, [.int (0 + 1), .ref td, .int 0])), (m2, .inr (4, [.int 0, .ref td, .int 0])), (m0, .inr (20, [.int 0, .int 0, .ref m1, .ref m2, .ref m3, .int 0, .ref m4, .ref m5, .ref m6, .int 1, .ref m7, .ref m8, .ref m9, .int 0, .ref m10, .int 0, .ref m11, .ref m12, .ref m13, .int 0, .ref m14, .int 0, .int 0, .int 0, .ref m15, .ref m16])), (m12, .inl (ty 0, 384, .inl (fun j => if j < 384 then (-1) else 0))), (m6, .inl (ty 0, 384, .inl (fun _ => 0))), (m7, .inl (ty 3, 384, .inl (fun _ => 0)))] := hD
  refine W.widen (k := 0) (n := 0) (Nat.le_of_ble_eq_true rfl) (Nat.le_of_ble_eq_true rfl) ?_
  refine lv_istore_n (lv' := [(2, .int 1), (1, .int 0), (0, .ref m0)]) hx hb dX16_walkByAll_49 rfl hl (by decide) rfl (fun ls hl => ?_)
  refine lv_iconst (v := 0) hx hb dX16_walkByAll_50 (by decide) ?_
  refine lv_istore_n (lv' := [(3, .int 0), (2, .int 1), (1, .int 0), (0, .ref m0)]) hx hb dX16_walkByAll_51 rfl hl (by decide) rfl (fun ls hl => ?_)
  refine lv_iload_n hx hb dX16_walkByAll_52 rfl (lv_at hl 1 rfl) ?_
  refine lv_if_eq (tgt := 96) hx hb dX16_walkByAll_53 (by decide) (fun c0 => absurd c0 (by decide)) (fun _ => ?_)
  refine lv_iload_n hx hb dX16_walkByAll_56 rfl (lv_at hl 0 rfl) ?_
  refine lv_iconst (v := 1) hx hb dX16_walkByAll_57 (by decide) ?_
  refine lv_aload_n hx hb dX16_walkByAll_58 rfl (lv_at hl 3 rfl) ?_
  refine va_get (D := D) (ci := 20) (v := .int 0) (C := RX16) (T := TX16) (N := 26) hx hb hts iv_k_X16_walkByAll_X16 hown hK hP 4 rfl rfl 15 (by decide) (hts (.fieldLink RX16 296 "AnswerFoldModel" "openMany" "I") (by decide +kernel)) (fun _ h9 => h9) rfl dX16_walkByAll_59 ?_
  refine lv_ishl hx hb dX16_walkByAll_62 ?_
  refine lv_topi (nm_r (e' := 1) (by decide) ?_)
  refine lv_icmp_ge (tgt := 96) hx hb dX16_walkByAll_63 (by decide) (fun c0 => absurd c0 (by decide)) (fun _ => ?_)
  refine lv_iload_n hx hb dX16_walkByAll_66 rfl (lv_at hl 2 rfl) ?_
  refine lv_aload_n hx hb dX16_walkByAll_67 rfl (lv_at hl 3 rfl) ?_
  refine lv_iload_n hx hb dX16_walkByAll_68 rfl (lv_at hl 0 rfl) ?_
  refine wq_i (wc := [(m0, .inr (20, [.int 0, .int 0, .ref m1, .ref m2, .ref m3, .int 0, .ref m4, .ref m5, .ref m6, .int 1, .ref m7, .ref m8, .ref m9, .int 0, .ref m10, .int 0, .ref m11, .ref m12, .ref m13, .int 0, .ref m14, .int 0, .int 0, .int 0, .ref m15, .ref m16]))]) (wr := [(m8, .inl (ty 3, 384, .inl (fun _ => 0))), (m9, .inl (ty 0, 20, .inl (fun _ => 0))), (m10, .inr (4, [.int (0 + 1), .ref td, .int 0])), (m2, .inr (4, [.int 0, .ref td, .int 0])), (m12, .inl (ty 0, 384, .inl (fun j => if j < 384 then (-1) else 0))), (m6, .inl (ty 0, 384, .inl (fun _ => 0))), (m7, .inl (ty 3, 384, .inl (fun _ => 0)))]) (va_runV (As := [.int 0]) (rest := [.int 0]) ⟨hx, hb, hml, hown, hts⟩ (k_X16_fits l D ty td mi H.size m0 m1 m2 m3 m4 m5 m6 m7 m8 m9 m10 m11 m12 m13 m14 m15 m16) (cwV 1 hts gv_k_X16_walkByAll_3 rfl rfl rfl (by decide +kernel) ⟨(Nat.le_of_ble_eq_true rfl), (Nat.le_of_ble_eq_true rfl)⟩) (wq_preV hP hD hK hE hS hA [4] rfl (by decide) 4 20 rfl rfl) rfl rfl hl.1 rfl (lv_room (Nat.le_of_ble_eq_true rfl)) dX16_walkByAll_69 ⟨(Nat.le_of_ble_eq_true rfl), (Nat.le_of_ble_eq_true rfl)⟩) hS hA hP hD [4] [0, 1, 2, 3, 5, 6, 7] rfl rfl (by decide) (by decide) (fun r u H locs hw hP hD hS => ?_)
  obtain ⟨rfl, rfl⟩ := hw
  have hP : va_P D vwCl [(m8, .inl (ty 3, 384, .inl (fun _ => 0))), (m9, .inl (ty 0, 20, .inl (fun _ => 0))), (m10, .inr (4, [.int (0 + 1), .ref td, .int 0])), (m2, .inr (4, [.int 0, .ref td, .int 0])), (m12, .inl (ty 0, 384, .inl (fun j => if j < 384 then (-1) else 0))), (m6, .inl (ty 0, 384, .inl (fun _ => 0))), (m7, .inl (ty 3, 384, .inl (fun _ => 0))), (m0, .inr (20, [.int 0, .int 0, .ref m1, .ref m2, .ref m3, .int 0, .ref m4, .ref m5, .ref m6, .int 1, .ref m7, .ref m8, .ref m9, .int 0, .ref m10, .int 0, .ref m11, .ref m12, .ref m13, .int 0, .ref m14, .int 0, .int 0, .int 0, .ref m15, .ref m16]))] H := hP
  have hD : va_D A [(m8, .inl (ty 3, 384, .inl (fun _ => 0))), (m9, .inl (ty 0, 20, .inl (fun _ => 0))), (m10, .inr (4, [.int (0 + 1), .ref td, .int 0])), (m2, .inr (4, [.int 0, .ref td, .int 0])), (m12, .inl (ty 0, 384, .inl (fun j => if j < 384 then (-1) else 0))), (m6, .inl (ty 0, 384, .inl (fun _ => 0))), (m7, .inl (ty 3, 384, .inl (fun _ => 0))), (m0, .inr (20, [.int 0, .int 0, .ref m1, .ref m2, .ref m3, .int 0, .ref m4, .ref m5, .ref m6, .int 1, .ref m7, .ref m8, .ref m9, .int 0, .ref m10, .int 0, .ref m11, .ref m12, .ref m13, .int 0, .ref m14, .int 0, .int 0, .int 0, .ref m15, .ref m16]))] := hD
  refine W.widen (k := 0) (n := 0) (Nat.le_of_ble_eq_true rfl) (Nat.le_of_ble_eq_true rfl) ?_
  refine lv_if_eq (tgt := 87) hx hb dX16_walkByAll_72 (by decide) (fun c0 => absurd c0 (by decide)) (fun _ => ?_)
  refine lv_aload_n hx hb dX16_walkByAll_75 rfl (lv_at hl 3 rfl) ?_
  refine lv_iload_n hx hb dX16_walkByAll_76 rfl (lv_at hl 0 rfl) ?_
  refine wq_i (wc := [(m0, .inr (20, [.int 0, .int 0, .ref m1, .ref m2, .ref m3, .int 0, .ref m4, .ref m5, .ref m6, .int 1, .ref m7, .ref m8, .ref m9, .int 0, .ref m10, .int 0, .ref m11, .ref m12, .ref m13, .int 0, .ref m14, .int 0, .int 0, .int 0, .ref m15, .ref m16])), (m10, .inr (4, [.int (0 + 1), .ref td, .int 0]))]) (wr := [(m8, .inl (ty 3, 384, .inl (fun _ => 0))), (m9, .inl (ty 0, 20, .inl (fun _ => 0))), (m2, .inr (4, [.int 0, .ref td, .int 0])), (m12, .inl (ty 0, 384, .inl (fun j => if j < 384 then (-1) else 0))), (m6, .inl (ty 0, 384, .inl (fun _ => 0))), (m7, .inl (ty 3, 384, .inl (fun _ => 0)))]) (va_runV (As := [.int 0]) (rest := [.int 0]) ⟨hx, hb, hml, hown, hts⟩ (k_X16_isAnswer l D ty td mi H.size m0 m1 m2 m3 m4 m5 m6 m7 m8 m9 m10 m11 m12 m13 m14 m15 m16 (0 + 1)) (cwV 1 hts gv_k_X16_walkByAll_4 rfl rfl rfl (by decide +kernel) ⟨(Nat.le_of_ble_eq_true rfl), (Nat.le_of_ble_eq_true rfl)⟩) (wq_preV hP hD hK hE hS hA [7, 2] rfl (by decide) 7 20 rfl rfl) rfl rfl hl.1 rfl (lv_room (Nat.le_of_ble_eq_true rfl)) dX16_walkByAll_77 ⟨(Nat.le_of_ble_eq_true rfl), (Nat.le_of_ble_eq_true rfl)⟩) hS hA hP hD [7, 2] [0, 1, 3, 4, 5, 6] rfl rfl (by decide) (by decide) (fun r u H locs hw hP hD hS => ?_)
  obtain ⟨q142, rfl, rfl⟩ := hw
  have hP : va_P D vwCl [(m8, .inl (ty 3, 384, .inl (fun _ => 0))), (m9, .inl (ty 0, 20, .inl (fun _ => 0))), (m2, .inr (4, [.int 0, .ref td, .int 0])), (m12, .inl (ty 0, 384, .inl (fun j => if j < 384 then (-1) else 0))), (m6, .inl (ty 0, 384, .inl (fun _ => 0))), (m7, .inl (ty 3, 384, .inl (fun _ => 0))), (m0, .inr (20, [.int 0, .int 0, .ref m1, .ref m2, .ref m3, .int 0, .ref m4, .ref m5, .ref m6, .int 1, .ref m7, .ref m8, .ref m9, .int 0, .ref m10, .int 0, .ref m11, .ref m12, .ref m13, .int 0, .ref m14, .int 0, .int 0, .int 0, .ref m15, .ref m16])), (q142, .inr (3, [.int 0, .int (-1), .int (0 + 1), .ref m10])), (m10, .inr (4, [.int (0 + 1), .ref td, .int 0]))] H := hP
  have hD : va_D A [(m8, .inl (ty 3, 384, .inl (fun _ => 0))), (m9, .inl (ty 0, 20, .inl (fun _ => 0))), (m2, .inr (4, [.int 0, .ref td, .int 0])), (m12, .inl (ty 0, 384, .inl (fun j => if j < 384 then (-1) else 0))), (m6, .inl (ty 0, 384, .inl (fun _ => 0))), (m7, .inl (ty 3, 384, .inl (fun _ => 0))), (m0, .inr (20, [.int 0, .int 0, .ref m1, .ref m2, .ref m3, .int 0, .ref m4, .ref m5, .ref m6, .int 1, .ref m7, .ref m8, .ref m9, .int 0, .ref m10, .int 0, .ref m11, .ref m12, .ref m13, .int 0, .ref m14, .int 0, .int 0, .int 0, .ref m15, .ref m16])), (q142, .inr (3, [.int 0, .int (-1), .int (0 + 1), .ref m10])), (m10, .inr (4, [.int (0 + 1), .ref td, .int 0]))] := hD
  refine W.widen (k := 1) (n := 4) (Nat.le_of_ble_eq_true rfl) (Nat.le_of_ble_eq_true rfl) ?_
  refine lv_if_eq (tgt := 87) hx hb dX16_walkByAll_80 (by decide) (fun c0 => absurd c0 (by decide)) (fun _ => ?_)
  refine lv_iconst (v := 1) hx hb dX16_walkByAll_83 (by decide) ?_
  refine lv_goto (tgt := 88) hx hb dX16_walkByAll_84 (by decide) ?_
  refine lv_iadd hx hb dX16_walkByAll_88 ?_
  refine lv_topi (nm_r (e' := 1) (by decide) ?_)
  refine lv_istore_n (lv' := [(1, .int 1), (3, .int 0), (2, .int 1), (0, .ref m0)]) hx hb dX16_walkByAll_89 rfl hl (by decide) rfl (fun ls hl => ?_)
  refine lv_iinc (v := 1) (lv' := [(3, .int 1), (1, .int 1), (2, .int 1), (0, .ref m0)]) hx hb dX16_walkByAll_90 hl (k := 1) rfl (by decide) (by decide) rfl (fun ls hl => ?_)
  refine lv_goto (tgt := 52) hx hb dX16_walkByAll_93 (by decide) ?_
  refine lv_iload_n hx hb dX16_walkByAll_52 rfl (lv_at hl 2 rfl) ?_
  refine lv_if_eq (tgt := 96) hx hb dX16_walkByAll_53 (by decide) (fun c0 => absurd c0 (by decide)) (fun _ => ?_)
  refine lv_iload_n hx hb dX16_walkByAll_56 rfl (lv_at hl 0 rfl) ?_
  refine lv_iconst (v := 1) hx hb dX16_walkByAll_57 (by decide) ?_
  refine lv_aload_n hx hb dX16_walkByAll_58 rfl (lv_at hl 3 rfl) ?_
  refine va_get (D := D) (ci := 20) (v := .int 0) (C := RX16) (T := TX16) (N := 26) hx hb hts iv_k_X16_walkByAll_X16 hown hK hP 6 rfl rfl 15 (by decide) (hts (.fieldLink RX16 296 "AnswerFoldModel" "openMany" "I") (by decide +kernel)) (fun _ h9 => h9) rfl dX16_walkByAll_59 ?_
  refine lv_ishl hx hb dX16_walkByAll_62 ?_
  refine lv_topi (nm_r (e' := 1) (by decide) ?_)
  refine lv_icmp_ge (tgt := 96) hx hb dX16_walkByAll_63 (by decide) (fun _ => ?_) (fun c0 => absurd (by decide) c0)
  refine lv_iload_n hx hb dX16_walkByAll_96 rfl (lv_at hl 1 rfl) ?_
  have hP9 := hP.sub (ws' := [(m0, .inr (20, [.int 0, .int 0, .ref m1, .ref m2, .ref m3, .int 0, .ref m4, .ref m5, .ref m6, .int 1, .ref m7, .ref m8, .ref m9, .int 0, .ref m10, .int 0, .ref m11, .ref m12, .ref m13, .int 0, .ref m14, .int 0, .int 0, .int 0, .ref m15, .ref m16]))]) [6] rfl
  have hD9 := hD.sub (ws' := [(m0, .inr (20, [.int 0, .int 0, .ref m1, .ref m2, .ref m3, .int 0, .ref m4, .ref m5, .ref m6, .int 1, .ref m7, .ref m8, .ref m9, .int 0, .ref m10, .int 0, .ref m11, .ref m12, .ref m13, .int 0, .ref m14, .int 0, .int 0, .int 0, .ref m15, .ref m16]))]) [6] (by decide) rfl
  refine W.widen (k := 1) (n := 4) (Nat.le_of_ble_eq_true rfl) (Nat.le_of_ble_eq_true rfl) ?_
  exact W.iret (v := 1) hx hb hr (fun t ht hW => ⟨⟨1, [(m0, .inr (20, [.int 0, .int 0, .ref m1, .ref m2, .ref m3, .int 0, .ref m4, .ref m5, .ref m6, .int 1, .ref m7, .ref m8, .ref m9, .int 0, .ref m10, .int 0, .ref m11, .ref m12, .ref m13, .int 0, .ref m14, .int 0, .int 0, .int 0, .ref m15, .ref m16]))], rfl, ⟨rfl, rfl⟩, wq_B.of ht hP9 hD9⟩, hS.F ht⟩) hS.2.2 dX16_walkByAll_97
