theorem dX6_tellRule_0 : decode cX6_tellRule 0 = .ok (.aload_n 0, 1) := by decide +kernel
theorem dX6_tellRule_1 : decode cX6_tellRule 1 = .ok (.getfield 45, 3) := by decide +kernel
theorem dX6_tellRule_4 : decode cX6_tellRule 4 = .ok (.ifCond .lt 12, 3) := by decide +kernel
theorem dX6_tellRule_7 : decode cX6_tellRule 7 = .ok (.aload_n 0, 1) := by decide +kernel
theorem dX6_tellRule_8 : decode cX6_tellRule 8 = .ok (.getfield 45, 3) := by decide +kernel
theorem dX6_tellRule_11 : decode cX6_tellRule 11 = .ok (.bipush 20, 2) := by decide +kernel
theorem dX6_tellRule_13 : decode cX6_tellRule 13 = .ok (.if_icmp .lt 5, 3) := by decide +kernel
theorem dX6_tellRule_16 : decode cX6_tellRule 16 = .ok (.iconst (-1), 1) := by decide +kernel
theorem dX6_tellRule_17 : decode cX6_tellRule 17 = .ok (.ireturn, 1) := by decide +kernel
theorem dX6_tellRule_18 : decode cX6_tellRule 18 = .ok (.aload_n 0, 1) := by decide +kernel
theorem dX6_tellRule_19 : decode cX6_tellRule 19 = .ok (.getfield 17, 3) := by decide +kernel
theorem dX6_tellRule_22 : decode cX6_tellRule 22 = .ok (.aload_n 0, 1) := by decide +kernel
theorem dX6_tellRule_23 : decode cX6_tellRule 23 = .ok (.getfield 45, 3) := by decide +kernel
theorem dX6_tellRule_26 : decode cX6_tellRule 26 = .ok (.aload_n 1, 1) := by decide +kernel
theorem dX6_tellRule_27 : decode cX6_tellRule 27 = .ok (.aastore, 1) := by decide +kernel
theorem dX6_tellRule_28 : decode cX6_tellRule 28 = .ok (.aload_n 0, 1) := by decide +kernel
theorem dX6_tellRule_29 : decode cX6_tellRule 29 = .ok (.dup, 1) := by decide +kernel
theorem dX6_tellRule_30 : decode cX6_tellRule 30 = .ok (.getfield 45, 3) := by decide +kernel
theorem dX6_tellRule_33 : decode cX6_tellRule 33 = .ok (.dup_x1, 1) := by decide +kernel
theorem dX6_tellRule_34 : decode cX6_tellRule 34 = .ok (.iconst 1, 1) := by decide +kernel
theorem dX6_tellRule_35 : decode cX6_tellRule 35 = .ok (.iadd, 1) := by decide +kernel
theorem dX6_tellRule_36 : decode cX6_tellRule 36 = .ok (.putfield 45, 3) := by decide +kernel
theorem dX6_tellRule_39 : decode cX6_tellRule 39 = .ok (.ireturn, 1) := by decide +kernel
theorem dX8_init_0 : decode cX8_init 0 = .ok (.aload_n 0, 1) := by decide +kernel
theorem dX8_init_1 : decode cX8_init 1 = .ok (.invokespecial 3, 3) := by decide +kernel
theorem dX8_init_4 : decode cX8_init 4 = .ok (.aload_n 0, 1) := by decide +kernel
theorem dX8_init_5 : decode cX8_init 5 = .ok (.iconst (-1), 1) := by decide +kernel
theorem dX8_init_6 : decode cX8_init 6 = .ok (.putfield 9, 3) := by decide +kernel
theorem dX8_init_9 : decode cX8_init 9 = .ok (.aload_n 0, 1) := by decide +kernel
theorem dX8_init_10 : decode cX8_init 10 = .ok (.iconst 2, 1) := by decide +kernel
theorem dX8_init_11 : decode cX8_init 11 = .ok (.anewarray 15, 3) := by decide +kernel
theorem dX8_init_14 : decode cX8_init 14 = .ok (.putfield 17, 3) := by decide +kernel
theorem dX8_init_17 : decode cX8_init 17 = .ok (.aload_n 0, 1) := by decide +kernel
theorem dX8_init_18 : decode cX8_init 18 = .ok (.iconst 5, 1) := by decide +kernel
theorem dX8_init_19 : decode cX8_init 19 = .ok (.anewarray 15, 3) := by decide +kernel
theorem dX8_init_22 : decode cX8_init 22 = .ok (.putfield 21, 3) := by decide +kernel
theorem dX8_init_25 : decode cX8_init 25 = .ok (.aload_n 0, 1) := by decide +kernel
theorem dX8_init_26 : decode cX8_init 26 = .ok (.iload_n 1, 1) := by decide +kernel
theorem dX8_init_27 : decode cX8_init 27 = .ok (.putfield 24, 3) := by decide +kernel
theorem dX8_init_30 : decode cX8_init 30 = .ok (.aload_n 0, 1) := by decide +kernel
theorem dX8_init_31 : decode cX8_init 31 = .ok (.iload_n 2, 1) := by decide +kernel
theorem dX8_init_32 : decode cX8_init 32 = .ok (.putfield 28, 3) := by decide +kernel
theorem dX8_init_35 : decode cX8_init 35 = .ok (.return_, 1) := by decide +kernel
theorem dX10_addDisjunction_0 : decode cX10_addDisjunction 0 = .ok (.aload_n 0, 1) := by decide +kernel
theorem dX10_addDisjunction_1 : decode cX10_addDisjunction 1 = .ok (.iload_n 1, 1) := by decide +kernel
theorem dX10_addDisjunction_2 : decode cX10_addDisjunction 2 = .ok (.invokevirtual 83, 3) := by decide +kernel
theorem dX10_addDisjunction_5 : decode cX10_addDisjunction 5 = .ok (.aload_n 0, 1) := by decide +kernel
theorem dX10_addDisjunction_6 : decode cX10_addDisjunction 6 = .ok (.invokevirtual 87, 3) := by decide +kernel
theorem dX10_addDisjunction_9 : decode cX10_addDisjunction 9 = .ok (.aload_n 0, 1) := by decide +kernel
theorem dX10_addDisjunction_10 : decode cX10_addDisjunction 10 = .ok (.invokevirtual 76, 3) := by decide +kernel
theorem dX10_addDisjunction_13 : decode cX10_addDisjunction 13 = .ok (.aload_n 0, 1) := by decide +kernel
theorem dX10_addDisjunction_14 : decode cX10_addDisjunction 14 = .ok (.getfield 12, 3) := by decide +kernel
theorem dX10_addDisjunction_17 : decode cX10_addDisjunction 17 = .ok (.new 90, 3) := by decide +kernel
theorem dX10_addDisjunction_20 : decode cX10_addDisjunction 20 = .ok (.dup, 1) := by decide +kernel
theorem dX10_addDisjunction_21 : decode cX10_addDisjunction 21 = .ok (.bipush 100, 2) := by decide +kernel
theorem dX10_addDisjunction_23 : decode cX10_addDisjunction 23 = .ok (.iload_n 1, 1) := by decide +kernel
theorem dX10_addDisjunction_24 : decode cX10_addDisjunction 24 = .ok (.invokespecial 92, 3) := by decide +kernel
theorem dX10_addDisjunction_27 : decode cX10_addDisjunction 27 = .ok (.invokevirtual 95, 3) := by decide +kernel
theorem dX10_addDisjunction_30 : decode cX10_addDisjunction 30 = .ok (.ireturn, 1) := by decide +kernel
theorem dX10_addChoice_0 : decode cX10_addChoice 0 = .ok (.aload_n 0, 1) := by decide +kernel
theorem dX10_addChoice_1 : decode cX10_addChoice 1 = .ok (.iload_n 1, 1) := by decide +kernel
theorem dX10_addChoice_2 : decode cX10_addChoice 2 = .ok (.invokevirtual 83, 3) := by decide +kernel
theorem dX10_addChoice_5 : decode cX10_addChoice 5 = .ok (.iload_n 2, 1) := by decide +kernel
theorem dX10_addChoice_6 : decode cX10_addChoice 6 = .ok (.ifCond .lt 14, 3) := by decide +kernel
theorem dX10_addChoice_9 : decode cX10_addChoice 9 = .ok (.iload_n 3, 1) := by decide +kernel
theorem dX10_addChoice_10 : decode cX10_addChoice 10 = .ok (.iload_n 2, 1) := by decide +kernel
theorem dX10_addChoice_11 : decode cX10_addChoice 11 = .ok (.if_icmp .lt 9, 3) := by decide +kernel
theorem dX10_addChoice_14 : decode cX10_addChoice 14 = .ok (.iload_n 3, 1) := by decide +kernel
theorem dX10_addChoice_15 : decode cX10_addChoice 15 = .ok (.bipush 9, 2) := by decide +kernel
theorem dX10_addChoice_17 : decode cX10_addChoice 17 = .ok (.if_icmp .le 13, 3) := by decide +kernel
theorem dX10_addChoice_20 : decode cX10_addChoice 20 = .ok (.new 60, 3) := by decide +kernel
theorem dX10_addChoice_23 : decode cX10_addChoice 23 = .ok (.dup, 1) := by decide +kernel
theorem dX10_addChoice_24 : decode cX10_addChoice 24 = .ok (.ldc 99, 2) := by decide +kernel
theorem dX10_addChoice_26 : decode cX10_addChoice 26 = .ok (.invokespecial 64, 3) := by decide +kernel
theorem dX10_addChoice_29 : decode cX10_addChoice 29 = .ok (.athrow, 1) := by decide +kernel
theorem dX10_addChoice_30 : decode cX10_addChoice 30 = .ok (.iload 4, 2) := by decide +kernel
theorem dX10_addChoice_32 : decode cX10_addChoice 32 = .ok (.iconst (-1), 1) := by decide +kernel
theorem dX10_addChoice_33 : decode cX10_addChoice 33 = .ok (.if_icmp .eq 26, 3) := by decide +kernel
theorem dX10_addChoice_36 : decode cX10_addChoice 36 = .ok (.aload_n 0, 1) := by decide +kernel
theorem dX10_addChoice_37 : decode cX10_addChoice 37 = .ok (.getfield 12, 3) := by decide +kernel
theorem dX10_addChoice_40 : decode cX10_addChoice 40 = .ok (.iload 4, 2) := by decide +kernel
theorem dX10_addChoice_42 : decode cX10_addChoice 42 = .ok (.invokevirtual 101, 3) := by decide +kernel
theorem dX10_addChoice_45 : decode cX10_addChoice 45 = .ok (.iconst 1, 1) := by decide +kernel
theorem dX10_addChoice_46 : decode cX10_addChoice 46 = .ok (.if_icmp .eq 13, 3) := by decide +kernel
theorem dX10_addChoice_49 : decode cX10_addChoice 49 = .ok (.new 60, 3) := by decide +kernel
theorem dX10_addChoice_52 : decode cX10_addChoice 52 = .ok (.dup, 1) := by decide +kernel
theorem dX10_addChoice_53 : decode cX10_addChoice 53 = .ok (.ldc 104, 2) := by decide +kernel
theorem dX10_addChoice_55 : decode cX10_addChoice 55 = .ok (.invokespecial 64, 3) := by decide +kernel
theorem dX10_addChoice_58 : decode cX10_addChoice 58 = .ok (.athrow, 1) := by decide +kernel
theorem dX10_addChoice_59 : decode cX10_addChoice 59 = .ok (.aload_n 0, 1) := by decide +kernel
theorem dX10_addChoice_60 : decode cX10_addChoice 60 = .ok (.invokevirtual 87, 3) := by decide +kernel
theorem dX10_addChoice_63 : decode cX10_addChoice 63 = .ok (.aload_n 0, 1) := by decide +kernel
theorem dX10_addChoice_64 : decode cX10_addChoice 64 = .ok (.invokevirtual 76, 3) := by decide +kernel
theorem dX10_addChoice_67 : decode cX10_addChoice 67 = .ok (.new 90, 3) := by decide +kernel
theorem dX10_addChoice_70 : decode cX10_addChoice 70 = .ok (.dup, 1) := by decide +kernel
theorem dX10_addChoice_71 : decode cX10_addChoice 71 = .ok (.bipush 99, 2) := by decide +kernel
theorem dX10_addChoice_73 : decode cX10_addChoice 73 = .ok (.iload_n 1, 1) := by decide +kernel
theorem dX10_addChoice_74 : decode cX10_addChoice 74 = .ok (.invokespecial 92, 3) := by decide +kernel
theorem dX10_addChoice_77 : decode cX10_addChoice 77 = .ok (.astore 5, 2) := by decide +kernel
theorem dX10_addChoice_79 : decode cX10_addChoice 79 = .ok (.aload 5, 2) := by decide +kernel
theorem dX10_addChoice_81 : decode cX10_addChoice 81 = .ok (.iload_n 2, 1) := by decide +kernel
theorem dX10_addChoice_82 : decode cX10_addChoice 82 = .ok (.putfield 106, 3) := by decide +kernel
theorem dX10_addChoice_85 : decode cX10_addChoice 85 = .ok (.aload 5, 2) := by decide +kernel
theorem dX10_addChoice_87 : decode cX10_addChoice 87 = .ok (.iload_n 3, 1) := by decide +kernel
theorem dX10_addChoice_88 : decode cX10_addChoice 88 = .ok (.putfield 109, 3) := by decide +kernel
theorem dX10_addChoice_91 : decode cX10_addChoice 91 = .ok (.aload 5, 2) := by decide +kernel
theorem dX10_addChoice_93 : decode cX10_addChoice 93 = .ok (.iload 4, 2) := by decide +kernel
theorem dX10_addChoice_95 : decode cX10_addChoice 95 = .ok (.putfield 112, 3) := by decide +kernel
theorem dX10_addChoice_98 : decode cX10_addChoice 98 = .ok (.aload_n 0, 1) := by decide +kernel
theorem dX10_addChoice_99 : decode cX10_addChoice 99 = .ok (.getfield 12, 3) := by decide +kernel
theorem dX10_addChoice_102 : decode cX10_addChoice 102 = .ok (.aload 5, 2) := by decide +kernel
theorem dX10_addChoice_104 : decode cX10_addChoice 104 = .ok (.invokevirtual 95, 3) := by decide +kernel
theorem dX10_addChoice_107 : decode cX10_addChoice 107 = .ok (.ireturn, 1) := by decide +kernel
theorem dX10_addWeak_0 : decode cX10_addWeak 0 = .ok (.aload_n 0, 1) := by decide +kernel
theorem dX10_addWeak_1 : decode cX10_addWeak 1 = .ok (.iload_n 1, 1) := by decide +kernel
theorem dX10_addWeak_2 : decode cX10_addWeak 2 = .ok (.invokevirtual 83, 3) := by decide +kernel
theorem dX10_addWeak_5 : decode cX10_addWeak 5 = .ok (.iload_n 2, 1) := by decide +kernel
theorem dX10_addWeak_6 : decode cX10_addWeak 6 = .ok (.bipush (-99), 2) := by decide +kernel
theorem dX10_addWeak_8 : decode cX10_addWeak 8 = .ok (.if_icmp .lt 9, 3) := by decide +kernel
theorem dX10_addWeak_11 : decode cX10_addWeak 11 = .ok (.iload_n 2, 1) := by decide +kernel
theorem dX10_addWeak_12 : decode cX10_addWeak 12 = .ok (.bipush 99, 2) := by decide +kernel
theorem dX10_addWeak_14 : decode cX10_addWeak 14 = .ok (.if_icmp .le 13, 3) := by decide +kernel
theorem dX10_addWeak_17 : decode cX10_addWeak 17 = .ok (.new 60, 3) := by decide +kernel
theorem dX10_addWeak_20 : decode cX10_addWeak 20 = .ok (.dup, 1) := by decide +kernel
theorem dX10_addWeak_21 : decode cX10_addWeak 21 = .ok (.ldc 115, 2) := by decide +kernel
theorem dX10_addWeak_23 : decode cX10_addWeak 23 = .ok (.invokespecial 64, 3) := by decide +kernel
theorem dX10_addWeak_26 : decode cX10_addWeak 26 = .ok (.athrow, 1) := by decide +kernel
theorem dX10_addWeak_27 : decode cX10_addWeak 27 = .ok (.aload_n 0, 1) := by decide +kernel
theorem dX10_addWeak_28 : decode cX10_addWeak 28 = .ok (.iload_n 3, 1) := by decide +kernel
theorem dX10_addWeak_29 : decode cX10_addWeak 29 = .ok (.invokevirtual 117, 3) := by decide +kernel
theorem dX10_addWeak_32 : decode cX10_addWeak 32 = .ok (.aload_n 0, 1) := by decide +kernel
theorem dX10_addWeak_33 : decode cX10_addWeak 33 = .ok (.invokevirtual 87, 3) := by decide +kernel
theorem dX10_addWeak_36 : decode cX10_addWeak 36 = .ok (.aload_n 0, 1) := by decide +kernel
theorem dX10_addWeak_37 : decode cX10_addWeak 37 = .ok (.invokevirtual 76, 3) := by decide +kernel
theorem dX10_addWeak_40 : decode cX10_addWeak 40 = .ok (.new 90, 3) := by decide +kernel
theorem dX10_addWeak_43 : decode cX10_addWeak 43 = .ok (.dup, 1) := by decide +kernel
theorem dX10_addWeak_44 : decode cX10_addWeak 44 = .ok (.bipush 119, 2) := by decide +kernel
theorem dX10_addWeak_46 : decode cX10_addWeak 46 = .ok (.iload_n 1, 1) := by decide +kernel
theorem dX10_addWeak_47 : decode cX10_addWeak 47 = .ok (.invokespecial 92, 3) := by decide +kernel
theorem dX10_addWeak_50 : decode cX10_addWeak 50 = .ok (.astore 4, 2) := by decide +kernel
theorem dX10_addWeak_52 : decode cX10_addWeak 52 = .ok (.aload 4, 2) := by decide +kernel
theorem dX10_addWeak_54 : decode cX10_addWeak 54 = .ok (.iload_n 2, 1) := by decide +kernel
theorem dX10_addWeak_55 : decode cX10_addWeak 55 = .ok (.putfield 120, 3) := by decide +kernel
theorem dX10_addWeak_58 : decode cX10_addWeak 58 = .ok (.aload 4, 2) := by decide +kernel
theorem dX10_addWeak_60 : decode cX10_addWeak 60 = .ok (.iload_n 3, 1) := by decide +kernel
theorem dX10_addWeak_61 : decode cX10_addWeak 61 = .ok (.putfield 123, 3) := by decide +kernel
theorem dX10_addWeak_64 : decode cX10_addWeak 64 = .ok (.aload_n 0, 1) := by decide +kernel
theorem dX10_addWeak_65 : decode cX10_addWeak 65 = .ok (.getfield 12, 3) := by decide +kernel
theorem dX10_addWeak_68 : decode cX10_addWeak 68 = .ok (.aload 4, 2) := by decide +kernel
theorem dX10_addWeak_70 : decode cX10_addWeak 70 = .ok (.invokevirtual 95, 3) := by decide +kernel
theorem dX10_addWeak_73 : decode cX10_addWeak 73 = .ok (.ireturn, 1) := by decide +kernel
theorem dX10_addHead_0 : decode cX10_addHead 0 = .ok (.aload_n 0, 1) := by decide +kernel
theorem dX10_addHead_1 : decode cX10_addHead 1 = .ok (.getfield 12, 3) := by decide +kernel
theorem dX10_addHead_4 : decode cX10_addHead 4 = .ok (.iload_n 1, 1) := by decide +kernel
theorem dX10_addHead_5 : decode cX10_addHead 5 = .ok (.invokevirtual 126, 3) := by decide +kernel
theorem dX10_addHead_8 : decode cX10_addHead 8 = .ok (.astore 5, 2) := by decide +kernel
theorem dX10_addHead_10 : decode cX10_addHead 10 = .ok (.aload 5, 2) := by decide +kernel
theorem dX10_addHead_12 : decode cX10_addHead 12 = .ok (.ifnull 14, 3) := by decide +kernel
theorem dX10_addHead_15 : decode cX10_addHead 15 = .ok (.aload_n 0, 1) := by decide +kernel
theorem dX10_addHead_16 : decode cX10_addHead 16 = .ok (.getfield 12, 3) := by decide +kernel
theorem dX10_addHead_19 : decode cX10_addHead 19 = .ok (.iload_n 2, 1) := by decide +kernel
theorem dX10_addHead_20 : decode cX10_addHead 20 = .ok (.invokevirtual 130, 3) := by decide +kernel
theorem dX10_addHead_23 : decode cX10_addHead 23 = .ok (.ifCond .ne 13, 3) := by decide +kernel
theorem dX10_addHead_26 : decode cX10_addHead 26 = .ok (.new 134, 3) := by decide +kernel
theorem dX10_addHead_29 : decode cX10_addHead 29 = .ok (.dup, 1) := by decide +kernel
theorem dX10_addHead_30 : decode cX10_addHead 30 = .ok (.ldc 136, 2) := by decide +kernel
theorem dX10_addHead_32 : decode cX10_addHead 32 = .ok (.invokespecial 138, 3) := by decide +kernel
theorem dX10_addHead_35 : decode cX10_addHead 35 = .ok (.athrow, 1) := by decide +kernel
theorem dX10_addHead_36 : decode cX10_addHead 36 = .ok (.aload_n 0, 1) := by decide +kernel
theorem dX10_addHead_37 : decode cX10_addHead 37 = .ok (.getfield 12, 3) := by decide +kernel
theorem dX10_addHead_40 : decode cX10_addHead 40 = .ok (.iload_n 2, 1) := by decide +kernel
theorem dX10_addHead_41 : decode cX10_addHead 41 = .ok (.invokevirtual 101, 3) := by decide +kernel
theorem dX10_addHead_44 : decode cX10_addHead 44 = .ok (.istore 6, 2) := by decide +kernel
theorem dX10_addHead_46 : decode cX10_addHead 46 = .ok (.iload 6, 2) := by decide +kernel
theorem dX10_addHead_48 : decode cX10_addHead 48 = .ok (.ifCond .le 10, 3) := by decide +kernel
theorem dX10_addHead_51 : decode cX10_addHead 51 = .ok (.iload_n 3, 1) := by decide +kernel
theorem dX10_addHead_52 : decode cX10_addHead 52 = .ok (.invokestatic 139, 3) := by decide +kernel
theorem dX10_addHead_55 : decode cX10_addHead 55 = .ok (.ifCond .eq 17, 3) := by decide +kernel
theorem dX10_addHead_58 : decode cX10_addHead 58 = .ok (.iload 6, 2) := by decide +kernel
theorem dX10_addHead_60 : decode cX10_addHead 60 = .ok (.iconst 1, 1) := by decide +kernel
theorem dX10_addHead_61 : decode cX10_addHead 61 = .ok (.if_icmp .le 21, 3) := by decide +kernel
theorem dX10_addHead_64 : decode cX10_addHead 64 = .ok (.iload 4, 2) := by decide +kernel
theorem dX10_addHead_66 : decode cX10_addHead 66 = .ok (.invokestatic 139, 3) := by decide +kernel
theorem dX10_addHead_69 : decode cX10_addHead 69 = .ok (.ifCond .ne 13, 3) := by decide +kernel
theorem dX10_addHead_72 : decode cX10_addHead 72 = .ok (.new 60, 3) := by decide +kernel
theorem dX10_addHead_75 : decode cX10_addHead 75 = .ok (.dup, 1) := by decide +kernel
theorem dX10_addHead_76 : decode cX10_addHead 76 = .ok (.ldc 142, 2) := by decide +kernel
theorem dX10_addHead_78 : decode cX10_addHead 78 = .ok (.invokespecial 64, 3) := by decide +kernel
theorem dX10_addHead_81 : decode cX10_addHead 81 = .ok (.athrow, 1) := by decide +kernel
theorem dX10_addHead_82 : decode cX10_addHead 82 = .ok (.aload 5, 2) := by decide +kernel
theorem dX10_addHead_84 : decode cX10_addHead 84 = .ok (.getfield 144, 3) := by decide +kernel
theorem dX10_addHead_87 : decode cX10_addHead 87 = .ok (.bipush 119, 2) := by decide +kernel
theorem dX10_addHead_89 : decode cX10_addHead 89 = .ok (.if_icmp .eq 12, 3) := by decide +kernel
theorem dX10_addHead_92 : decode cX10_addHead 92 = .ok (.aload 5, 2) := by decide +kernel
theorem dX10_addHead_94 : decode cX10_addHead 94 = .ok (.getfield 148, 3) := by decide +kernel
theorem dX10_addHead_97 : decode cX10_addHead 97 = .ok (.iconst 2, 1) := by decide +kernel
theorem dX10_addHead_98 : decode cX10_addHead 98 = .ok (.if_icmp .lt 13, 3) := by decide +kernel
theorem dX10_addHead_101 : decode cX10_addHead 101 = .ok (.new 71, 3) := by decide +kernel
theorem dX10_addHead_104 : decode cX10_addHead 104 = .ok (.dup, 1) := by decide +kernel
theorem dX10_addHead_105 : decode cX10_addHead 105 = .ok (.ldc 151, 2) := by decide +kernel
theorem dX10_addHead_107 : decode cX10_addHead 107 = .ok (.invokespecial 75, 3) := by decide +kernel
theorem dX10_addHead_110 : decode cX10_addHead 110 = .ok (.athrow, 1) := by decide +kernel
theorem dX10_addHead_111 : decode cX10_addHead 111 = .ok (.aload_n 0, 1) := by decide +kernel
theorem dX10_addHead_112 : decode cX10_addHead 112 = .ok (.invokevirtual 76, 3) := by decide +kernel
theorem dX10_addHead_115 : decode cX10_addHead 115 = .ok (.aload 5, 2) := by decide +kernel
theorem dX10_addHead_117 : decode cX10_addHead 117 = .ok (.bipush 104, 2) := by decide +kernel
theorem dX10_addHead_119 : decode cX10_addHead 119 = .ok (.iload_n 2, 1) := by decide +kernel
theorem dX10_addHead_120 : decode cX10_addHead 120 = .ok (.iload 6, 2) := by decide +kernel
theorem dX10_addHead_122 : decode cX10_addHead 122 = .ok (.iload_n 3, 1) := by decide +kernel
theorem dX10_addHead_123 : decode cX10_addHead 123 = .ok (.iload 4, 2) := by decide +kernel
theorem dX10_addHead_125 : decode cX10_addHead 125 = .ok (.invokestatic 153, 3) := by decide +kernel
theorem dX10_addHead_128 : decode cX10_addHead 128 = .ok (.invokevirtual 157, 3) := by decide +kernel
theorem dX10_addHead_131 : decode cX10_addHead 131 = .ok (.ireturn, 1) := by decide +kernel
theorem dX10_addAtom_0 : decode cX10_addAtom 0 = .ok (.aload_n 0, 1) := by decide +kernel
theorem dX10_addAtom_1 : decode cX10_addAtom 1 = .ok (.getfield 12, 3) := by decide +kernel
theorem dX10_addAtom_4 : decode cX10_addAtom 4 = .ok (.iload_n 1, 1) := by decide +kernel
theorem dX10_addAtom_5 : decode cX10_addAtom 5 = .ok (.invokevirtual 126, 3) := by decide +kernel
theorem dX10_addAtom_8 : decode cX10_addAtom 8 = .ok (.astore 6, 2) := by decide +kernel
theorem dX10_addAtom_10 : decode cX10_addAtom 10 = .ok (.aload 6, 2) := by decide +kernel
theorem dX10_addAtom_12 : decode cX10_addAtom 12 = .ok (.ifnull 14, 3) := by decide +kernel
theorem dX10_addAtom_15 : decode cX10_addAtom 15 = .ok (.aload_n 0, 1) := by decide +kernel
theorem dX10_addAtom_16 : decode cX10_addAtom 16 = .ok (.getfield 12, 3) := by decide +kernel
theorem dX10_addAtom_19 : decode cX10_addAtom 19 = .ok (.iload_n 3, 1) := by decide +kernel
theorem dX10_addAtom_20 : decode cX10_addAtom 20 = .ok (.invokevirtual 130, 3) := by decide +kernel
theorem dX10_addAtom_23 : decode cX10_addAtom 23 = .ok (.ifCond .ne 13, 3) := by decide +kernel
theorem dX10_addAtom_26 : decode cX10_addAtom 26 = .ok (.new 134, 3) := by decide +kernel
theorem dX10_addAtom_29 : decode cX10_addAtom 29 = .ok (.dup, 1) := by decide +kernel
theorem dX10_addAtom_30 : decode cX10_addAtom 30 = .ok (.ldc 136, 2) := by decide +kernel
theorem dX10_addAtom_32 : decode cX10_addAtom 32 = .ok (.invokespecial 138, 3) := by decide +kernel
theorem dX10_addAtom_35 : decode cX10_addAtom 35 = .ok (.athrow, 1) := by decide +kernel
theorem dX10_addAtom_36 : decode cX10_addAtom 36 = .ok (.aload_n 0, 1) := by decide +kernel
theorem dX10_addAtom_37 : decode cX10_addAtom 37 = .ok (.getfield 12, 3) := by decide +kernel
theorem dX10_addAtom_40 : decode cX10_addAtom 40 = .ok (.iload_n 3, 1) := by decide +kernel
theorem dX10_addAtom_41 : decode cX10_addAtom 41 = .ok (.invokevirtual 101, 3) := by decide +kernel
theorem dX10_addAtom_44 : decode cX10_addAtom 44 = .ok (.istore 7, 2) := by decide +kernel
theorem dX10_addAtom_46 : decode cX10_addAtom 46 = .ok (.iload 7, 2) := by decide +kernel
theorem dX10_addAtom_48 : decode cX10_addAtom 48 = .ok (.ifCond .le 13, 3) := by decide +kernel
theorem dX10_addAtom_51 : decode cX10_addAtom 51 = .ok (.aload 6, 2) := by decide +kernel
theorem dX10_addAtom_53 : decode cX10_addAtom 53 = .ok (.iload 4, 2) := by decide +kernel
theorem dX10_addAtom_55 : decode cX10_addAtom 55 = .ok (.invokestatic 161, 3) := by decide +kernel
theorem dX10_addAtom_58 : decode cX10_addAtom 58 = .ok (.ifCond .eq 19, 3) := by decide +kernel
theorem dX10_addAtom_61 : decode cX10_addAtom 61 = .ok (.iload 7, 2) := by decide +kernel
theorem dX10_addAtom_63 : decode cX10_addAtom 63 = .ok (.iconst 1, 1) := by decide +kernel
theorem dX10_addAtom_64 : decode cX10_addAtom 64 = .ok (.if_icmp .le 23, 3) := by decide +kernel
theorem dX10_addAtom_67 : decode cX10_addAtom 67 = .ok (.aload 6, 2) := by decide +kernel
theorem dX10_addAtom_69 : decode cX10_addAtom 69 = .ok (.iload 5, 2) := by decide +kernel
theorem dX10_addAtom_71 : decode cX10_addAtom 71 = .ok (.invokestatic 161, 3) := by decide +kernel
theorem dX10_addAtom_74 : decode cX10_addAtom 74 = .ok (.ifCond .ne 13, 3) := by decide +kernel
theorem dX10_addAtom_77 : decode cX10_addAtom 77 = .ok (.new 60, 3) := by decide +kernel
theorem dX10_addAtom_80 : decode cX10_addAtom 80 = .ok (.dup, 1) := by decide +kernel
theorem dX10_addAtom_81 : decode cX10_addAtom 81 = .ok (.ldc 165, 2) := by decide +kernel
theorem dX10_addAtom_83 : decode cX10_addAtom 83 = .ok (.invokespecial 64, 3) := by decide +kernel
theorem dX10_addAtom_86 : decode cX10_addAtom 86 = .ok (.athrow, 1) := by decide +kernel
theorem dX10_addAtom_87 : decode cX10_addAtom 87 = .ok (.aload_n 0, 1) := by decide +kernel
theorem dX10_addAtom_88 : decode cX10_addAtom 88 = .ok (.aload 6, 2) := by decide +kernel
theorem dX10_addAtom_90 : decode cX10_addAtom 90 = .ok (.invokevirtual 167, 3) := by decide +kernel
theorem dX10_addAtom_93 : decode cX10_addAtom 93 = .ok (.aload_n 0, 1) := by decide +kernel
theorem dX10_addAtom_94 : decode cX10_addAtom 94 = .ok (.invokevirtual 76, 3) := by decide +kernel
theorem dX10_addAtom_97 : decode cX10_addAtom 97 = .ok (.aload 6, 2) := by decide +kernel
theorem dX10_addAtom_99 : decode cX10_addAtom 99 = .ok (.iload_n 2, 1) := by decide +kernel
theorem dX10_addAtom_100 : decode cX10_addAtom 100 = .ok (.ifCond .eq 8, 3) := by decide +kernel
theorem dX10_addAtom_103 : decode cX10_addAtom 103 = .ok (.bipush 116, 2) := by decide +kernel
theorem dX10_addAtom_105 : decode cX10_addAtom 105 = .ok (.goto 5, 3) := by decide +kernel
theorem dX10_addAtom_108 : decode cX10_addAtom 108 = .ok (.bipush 102, 2) := by decide +kernel
theorem dX10_addAtom_110 : decode cX10_addAtom 110 = .ok (.iload_n 3, 1) := by decide +kernel
theorem dX10_addAtom_111 : decode cX10_addAtom 111 = .ok (.iload 7, 2) := by decide +kernel
theorem dX10_addAtom_113 : decode cX10_addAtom 113 = .ok (.iload 4, 2) := by decide +kernel
theorem dX10_addAtom_115 : decode cX10_addAtom 115 = .ok (.iload 5, 2) := by decide +kernel
theorem dX10_addAtom_117 : decode cX10_addAtom 117 = .ok (.invokestatic 153, 3) := by decide +kernel
theorem dX10_addAtom_120 : decode cX10_addAtom 120 = .ok (.invokevirtual 171, 3) := by decide +kernel
theorem dX10_addAtom_123 : decode cX10_addAtom 123 = .ok (.ireturn, 1) := by decide +kernel
theorem dX10_addTest_0 : decode cX10_addTest 0 = .ok (.aload_n 0, 1) := by decide +kernel
theorem dX10_addTest_1 : decode cX10_addTest 1 = .ok (.getfield 12, 3) := by decide +kernel
theorem dX10_addTest_4 : decode cX10_addTest 4 = .ok (.iload_n 1, 1) := by decide +kernel
theorem dX10_addTest_5 : decode cX10_addTest 5 = .ok (.invokevirtual 126, 3) := by decide +kernel
theorem dX10_addTest_8 : decode cX10_addTest 8 = .ok (.astore 5, 2) := by decide +kernel
theorem dX10_addTest_10 : decode cX10_addTest 10 = .ok (.aload 5, 2) := by decide +kernel
theorem dX10_addTest_12 : decode cX10_addTest 12 = .ok (.ifnonnull 13, 3) := by decide +kernel
theorem dX10_addTest_15 : decode cX10_addTest 15 = .ok (.new 134, 3) := by decide +kernel
theorem dX10_addTest_18 : decode cX10_addTest 18 = .ok (.dup, 1) := by decide +kernel
theorem dX10_addTest_19 : decode cX10_addTest 19 = .ok (.ldc 174, 2) := by decide +kernel
theorem dX10_addTest_21 : decode cX10_addTest 21 = .ok (.invokespecial 138, 3) := by decide +kernel
theorem dX10_addTest_24 : decode cX10_addTest 24 = .ok (.athrow, 1) := by decide +kernel
theorem dX10_addTest_25 : decode cX10_addTest 25 = .ok (.iload_n 2, 1) := by decide +kernel
theorem dX10_addTest_26 : decode cX10_addTest 26 = .ok (.bipush 60, 2) := by decide +kernel
theorem dX10_addTest_28 : decode cX10_addTest 28 = .ok (.if_icmp .eq 25, 3) := by decide +kernel
theorem dX10_addTest_31 : decode cX10_addTest 31 = .ok (.iload_n 2, 1) := by decide +kernel
theorem dX10_addTest_32 : decode cX10_addTest 32 = .ok (.bipush 61, 2) := by decide +kernel
theorem dX10_addTest_34 : decode cX10_addTest 34 = .ok (.if_icmp .eq 19, 3) := by decide +kernel
theorem dX10_addTest_37 : decode cX10_addTest 37 = .ok (.iload_n 2, 1) := by decide +kernel
theorem dX10_addTest_38 : decode cX10_addTest 38 = .ok (.bipush 33, 2) := by decide +kernel
theorem dX10_addTest_40 : decode cX10_addTest 40 = .ok (.if_icmp .eq 13, 3) := by decide +kernel
theorem dX10_addTest_43 : decode cX10_addTest 43 = .ok (.new 60, 3) := by decide +kernel
theorem dX10_addTest_46 : decode cX10_addTest 46 = .ok (.dup, 1) := by decide +kernel
theorem dX10_addTest_47 : decode cX10_addTest 47 = .ok (.ldc 176, 2) := by decide +kernel
theorem dX10_addTest_49 : decode cX10_addTest 49 = .ok (.invokespecial 64, 3) := by decide +kernel
theorem dX10_addTest_52 : decode cX10_addTest 52 = .ok (.athrow, 1) := by decide +kernel
theorem dX10_addTest_53 : decode cX10_addTest 53 = .ok (.aload 5, 2) := by decide +kernel
theorem dX10_addTest_55 : decode cX10_addTest 55 = .ok (.iload_n 3, 1) := by decide +kernel
theorem dX10_addTest_56 : decode cX10_addTest 56 = .ok (.invokestatic 161, 3) := by decide +kernel
theorem dX10_addTest_59 : decode cX10_addTest 59 = .ok (.ifCond .eq 13, 3) := by decide +kernel
theorem dX10_addTest_62 : decode cX10_addTest 62 = .ok (.aload 5, 2) := by decide +kernel
theorem dX10_addTest_64 : decode cX10_addTest 64 = .ok (.iload 4, 2) := by decide +kernel
theorem dX10_addTest_66 : decode cX10_addTest 66 = .ok (.invokestatic 161, 3) := by decide +kernel
theorem dX10_addTest_69 : decode cX10_addTest 69 = .ok (.ifCond .ne 13, 3) := by decide +kernel
theorem dX10_addTest_72 : decode cX10_addTest 72 = .ok (.new 60, 3) := by decide +kernel
theorem dX10_addTest_75 : decode cX10_addTest 75 = .ok (.dup, 1) := by decide +kernel
theorem dX10_addTest_76 : decode cX10_addTest 76 = .ok (.ldc 165, 2) := by decide +kernel
theorem dX10_addTest_78 : decode cX10_addTest 78 = .ok (.invokespecial 64, 3) := by decide +kernel
theorem dX10_addTest_81 : decode cX10_addTest 81 = .ok (.athrow, 1) := by decide +kernel
theorem dX10_addTest_82 : decode cX10_addTest 82 = .ok (.aload_n 0, 1) := by decide +kernel
theorem dX10_addTest_83 : decode cX10_addTest 83 = .ok (.aload 5, 2) := by decide +kernel
theorem dX10_addTest_85 : decode cX10_addTest 85 = .ok (.invokevirtual 167, 3) := by decide +kernel
theorem dX10_addTest_88 : decode cX10_addTest 88 = .ok (.aload_n 0, 1) := by decide +kernel
theorem dX10_addTest_89 : decode cX10_addTest 89 = .ok (.invokevirtual 76, 3) := by decide +kernel
theorem dX10_addTest_92 : decode cX10_addTest 92 = .ok (.aload 5, 2) := by decide +kernel
theorem dX10_addTest_94 : decode cX10_addTest 94 = .ok (.new 178, 3) := by decide +kernel
theorem dX10_addTest_97 : decode cX10_addTest 97 = .ok (.dup, 1) := by decide +kernel
theorem dX10_addTest_98 : decode cX10_addTest 98 = .ok (.iload_n 2, 1) := by decide +kernel
theorem dX10_addTest_99 : decode cX10_addTest 99 = .ok (.iconst (-1), 1) := by decide +kernel
theorem dX10_addTest_100 : decode cX10_addTest 100 = .ok (.iconst 0, 1) := by decide +kernel
theorem dX10_addTest_101 : decode cX10_addTest 101 = .ok (.iload_n 3, 1) := by decide +kernel
theorem dX10_addTest_102 : decode cX10_addTest 102 = .ok (.iload 4, 2) := by decide +kernel
theorem dX10_addTest_104 : decode cX10_addTest 104 = .ok (.invokespecial 180, 3) := by decide +kernel
theorem dX10_addTest_107 : decode cX10_addTest 107 = .ok (.invokevirtual 171, 3) := by decide +kernel
theorem dX10_addTest_110 : decode cX10_addTest 110 = .ok (.ireturn, 1) := by decide +kernel
theorem dX10_addCount_0 : decode cX10_addCount 0 = .ok (.aload_n 0, 1) := by decide +kernel
theorem dX10_addCount_1 : decode cX10_addCount 1 = .ok (.getfield 12, 3) := by decide +kernel
theorem dX10_addCount_4 : decode cX10_addCount 4 = .ok (.iload_n 1, 1) := by decide +kernel
theorem dX10_addCount_5 : decode cX10_addCount 5 = .ok (.invokevirtual 126, 3) := by decide +kernel
theorem dX10_addCount_8 : decode cX10_addCount 8 = .ok (.astore 5, 2) := by decide +kernel
theorem dX10_addCount_10 : decode cX10_addCount 10 = .ok (.aload 5, 2) := by decide +kernel
theorem dX10_addCount_12 : decode cX10_addCount 12 = .ok (.ifnull 14, 3) := by decide +kernel
theorem dX10_addCount_15 : decode cX10_addCount 15 = .ok (.aload_n 0, 1) := by decide +kernel
theorem dX10_addCount_16 : decode cX10_addCount 16 = .ok (.getfield 12, 3) := by decide +kernel
theorem dX10_addCount_19 : decode cX10_addCount 19 = .ok (.iload_n 3, 1) := by decide +kernel
theorem dX10_addCount_20 : decode cX10_addCount 20 = .ok (.invokevirtual 130, 3) := by decide +kernel
theorem dX10_addCount_23 : decode cX10_addCount 23 = .ok (.ifCond .ne 13, 3) := by decide +kernel
theorem dX10_addCount_26 : decode cX10_addCount 26 = .ok (.new 134, 3) := by decide +kernel
theorem dX10_addCount_29 : decode cX10_addCount 29 = .ok (.dup, 1) := by decide +kernel
theorem dX10_addCount_30 : decode cX10_addCount 30 = .ok (.ldc 136, 2) := by decide +kernel
theorem dX10_addCount_32 : decode cX10_addCount 32 = .ok (.invokespecial 138, 3) := by decide +kernel
theorem dX10_addCount_35 : decode cX10_addCount 35 = .ok (.athrow, 1) := by decide +kernel
theorem dX10_addCount_36 : decode cX10_addCount 36 = .ok (.iload_n 2, 1) := by decide +kernel
theorem dX10_addCount_37 : decode cX10_addCount 37 = .ok (.bipush 103, 2) := by decide +kernel
theorem dX10_addCount_39 : decode cX10_addCount 39 = .ok (.if_icmp .eq 19, 3) := by decide +kernel
theorem dX10_addCount_42 : decode cX10_addCount 42 = .ok (.iload_n 2, 1) := by decide +kernel
theorem dX10_addCount_43 : decode cX10_addCount 43 = .ok (.bipush 108, 2) := by decide +kernel
theorem dX10_addCount_45 : decode cX10_addCount 45 = .ok (.if_icmp .eq 13, 3) := by decide +kernel
theorem dX10_addCount_48 : decode cX10_addCount 48 = .ok (.new 60, 3) := by decide +kernel
theorem dX10_addCount_51 : decode cX10_addCount 51 = .ok (.dup, 1) := by decide +kernel
theorem dX10_addCount_52 : decode cX10_addCount 52 = .ok (.ldc 183, 2) := by decide +kernel
theorem dX10_addCount_54 : decode cX10_addCount 54 = .ok (.invokespecial 64, 3) := by decide +kernel
theorem dX10_addCount_57 : decode cX10_addCount 57 = .ok (.athrow, 1) := by decide +kernel
theorem dX10_addCount_58 : decode cX10_addCount 58 = .ok (.iload 4, 2) := by decide +kernel
theorem dX10_addCount_60 : decode cX10_addCount 60 = .ok (.ifCond .lt 10, 3) := by decide +kernel
theorem dX10_addCount_63 : decode cX10_addCount 63 = .ok (.iload 4, 2) := by decide +kernel
theorem dX10_addCount_65 : decode cX10_addCount 65 = .ok (.bipush 20, 2) := by decide +kernel
theorem dX10_addCount_67 : decode cX10_addCount 67 = .ok (.if_icmp .le 13, 3) := by decide +kernel
theorem dX10_addCount_70 : decode cX10_addCount 70 = .ok (.new 60, 3) := by decide +kernel
theorem dX10_addCount_73 : decode cX10_addCount 73 = .ok (.dup, 1) := by decide +kernel
theorem dX10_addCount_74 : decode cX10_addCount 74 = .ok (.ldc 185, 2) := by decide +kernel
theorem dX10_addCount_76 : decode cX10_addCount 76 = .ok (.invokespecial 64, 3) := by decide +kernel
theorem dX10_addCount_79 : decode cX10_addCount 79 = .ok (.athrow, 1) := by decide +kernel
theorem dX10_addCount_80 : decode cX10_addCount 80 = .ok (.aload_n 0, 1) := by decide +kernel
theorem dX10_addCount_81 : decode cX10_addCount 81 = .ok (.aload 5, 2) := by decide +kernel
theorem dX10_addCount_83 : decode cX10_addCount 83 = .ok (.invokevirtual 167, 3) := by decide +kernel
theorem dX10_addCount_86 : decode cX10_addCount 86 = .ok (.aload_n 0, 1) := by decide +kernel
theorem dX10_addCount_87 : decode cX10_addCount 87 = .ok (.invokevirtual 76, 3) := by decide +kernel
theorem dX10_addCount_90 : decode cX10_addCount 90 = .ok (.aload 5, 2) := by decide +kernel
theorem dX10_addCount_92 : decode cX10_addCount 92 = .ok (.new 178, 3) := by decide +kernel
theorem dX10_addCount_95 : decode cX10_addCount 95 = .ok (.dup, 1) := by decide +kernel
theorem dX10_addCount_96 : decode cX10_addCount 96 = .ok (.iload_n 2, 1) := by decide +kernel
theorem dX10_addCount_97 : decode cX10_addCount 97 = .ok (.iload_n 3, 1) := by decide +kernel
theorem dX10_addCount_98 : decode cX10_addCount 98 = .ok (.iload 4, 2) := by decide +kernel
theorem dX10_addCount_100 : decode cX10_addCount 100 = .ok (.iconst 0, 1) := by decide +kernel
theorem dX10_addCount_101 : decode cX10_addCount 101 = .ok (.iconst 0, 1) := by decide +kernel
theorem dX10_addCount_102 : decode cX10_addCount 102 = .ok (.invokespecial 180, 3) := by decide +kernel
theorem dX10_addCount_105 : decode cX10_addCount 105 = .ok (.invokevirtual 171, 3) := by decide +kernel
theorem dX10_addCount_108 : decode cX10_addCount 108 = .ok (.ireturn, 1) := by decide +kernel
theorem dX10_addExternal_0 : decode cX10_addExternal 0 = .ok (.aload_n 0, 1) := by decide +kernel
theorem dX10_addExternal_1 : decode cX10_addExternal 1 = .ok (.iload_n 1, 1) := by decide +kernel
theorem dX10_addExternal_2 : decode cX10_addExternal 2 = .ok (.iload_n 2, 1) := by decide +kernel
theorem dX10_addExternal_3 : decode cX10_addExternal 3 = .ok (.iload_n 3, 1) := by decide +kernel
theorem dX10_addExternal_4 : decode cX10_addExternal 4 = .ok (.invokevirtual 206, 3) := by decide +kernel
theorem dX10_addExternal_7 : decode cX10_addExternal 7 = .ok (.istore 4, 2) := by decide +kernel
theorem dX10_addExternal_9 : decode cX10_addExternal 9 = .ok (.aload_n 0, 1) := by decide +kernel
theorem dX10_addExternal_10 : decode cX10_addExternal 10 = .ok (.getfield 12, 3) := by decide +kernel
theorem dX10_addExternal_13 : decode cX10_addExternal 13 = .ok (.getfield 210, 3) := by decide +kernel
theorem dX10_addExternal_16 : decode cX10_addExternal 16 = .ok (.bipush 6, 2) := by decide +kernel
theorem dX10_addExternal_18 : decode cX10_addExternal 18 = .ok (.if_icmp .ge 16, 3) := by decide +kernel
theorem dX10_addExternal_21 : decode cX10_addExternal 21 = .ok (.aload_n 0, 1) := by decide +kernel
theorem dX10_addExternal_22 : decode cX10_addExternal 22 = .ok (.getfield 12, 3) := by decide +kernel
theorem dX10_addExternal_25 : decode cX10_addExternal 25 = .ok (.iload 4, 2) := by decide +kernel
theorem dX10_addExternal_27 : decode cX10_addExternal 27 = .ok (.invokevirtual 213, 3) := by decide +kernel
theorem dX10_addExternal_30 : decode cX10_addExternal 30 = .ok (.iconst (-1), 1) := by decide +kernel
theorem dX10_addExternal_31 : decode cX10_addExternal 31 = .ok (.if_icmp .eq 13, 3) := by decide +kernel
theorem dX10_addExternal_34 : decode cX10_addExternal 34 = .ok (.new 71, 3) := by decide +kernel
theorem dX10_addExternal_37 : decode cX10_addExternal 37 = .ok (.dup, 1) := by decide +kernel
theorem dX10_addExternal_38 : decode cX10_addExternal 38 = .ok (.ldc 216, 2) := by decide +kernel
theorem dX10_addExternal_40 : decode cX10_addExternal 40 = .ok (.invokespecial 75, 3) := by decide +kernel
theorem dX10_addExternal_43 : decode cX10_addExternal 43 = .ok (.athrow, 1) := by decide +kernel
theorem dX10_addExternal_44 : decode cX10_addExternal 44 = .ok (.aload_n 0, 1) := by decide +kernel
theorem dX10_addExternal_45 : decode cX10_addExternal 45 = .ok (.invokevirtual 76, 3) := by decide +kernel
theorem dX10_addExternal_48 : decode cX10_addExternal 48 = .ok (.aload_n 0, 1) := by decide +kernel
theorem dX10_addExternal_49 : decode cX10_addExternal 49 = .ok (.getfield 12, 3) := by decide +kernel
theorem dX10_addExternal_52 : decode cX10_addExternal 52 = .ok (.iload 4, 2) := by decide +kernel
theorem dX10_addExternal_54 : decode cX10_addExternal 54 = .ok (.invokevirtual 218, 3) := by decide +kernel
theorem dX10_addExternal_57 : decode cX10_addExternal 57 = .ok (.ireturn, 1) := by decide +kernel
theorem dX10_setExternal_0 : decode cX10_setExternal 0 = .ok (.iload_n 1, 1) := by decide +kernel
theorem dX10_setExternal_1 : decode cX10_setExternal 1 = .ok (.ifCond .lt 14, 3) := by decide +kernel
theorem dX10_setExternal_4 : decode cX10_setExternal 4 = .ok (.iload_n 1, 1) := by decide +kernel
theorem dX10_setExternal_5 : decode cX10_setExternal 5 = .ok (.aload_n 0, 1) := by decide +kernel
theorem dX10_setExternal_6 : decode cX10_setExternal 6 = .ok (.getfield 12, 3) := by decide +kernel
theorem dX10_setExternal_9 : decode cX10_setExternal 9 = .ok (.getfield 210, 3) := by decide +kernel
theorem dX10_setExternal_12 : decode cX10_setExternal 12 = .ok (.if_icmp .lt 13, 3) := by decide +kernel
theorem dX10_setExternal_15 : decode cX10_setExternal 15 = .ok (.new 134, 3) := by decide +kernel
theorem dX10_setExternal_18 : decode cX10_setExternal 18 = .ok (.dup, 1) := by decide +kernel
theorem dX10_setExternal_19 : decode cX10_setExternal 19 = .ok (.ldc 221, 2) := by decide +kernel
theorem dX10_setExternal_21 : decode cX10_setExternal 21 = .ok (.invokespecial 138, 3) := by decide +kernel
theorem dX10_setExternal_24 : decode cX10_setExternal 24 = .ok (.athrow, 1) := by decide +kernel
theorem dX10_setExternal_25 : decode cX10_setExternal 25 = .ok (.iload_n 2, 1) := by decide +kernel
theorem dX10_setExternal_26 : decode cX10_setExternal 26 = .ok (.bipush 116, 2) := by decide +kernel
theorem dX10_setExternal_28 : decode cX10_setExternal 28 = .ok (.if_icmp .eq 31, 3) := by decide +kernel
theorem dX10_setExternal_31 : decode cX10_setExternal 31 = .ok (.iload_n 2, 1) := by decide +kernel
theorem dX10_setExternal_32 : decode cX10_setExternal 32 = .ok (.bipush 102, 2) := by decide +kernel
theorem dX10_setExternal_34 : decode cX10_setExternal 34 = .ok (.if_icmp .eq 25, 3) := by decide +kernel
theorem dX10_setExternal_37 : decode cX10_setExternal 37 = .ok (.iload_n 2, 1) := by decide +kernel
theorem dX10_setExternal_38 : decode cX10_setExternal 38 = .ok (.bipush 117, 2) := by decide +kernel
theorem dX10_setExternal_40 : decode cX10_setExternal 40 = .ok (.if_icmp .eq 19, 3) := by decide +kernel
theorem dX10_setExternal_43 : decode cX10_setExternal 43 = .ok (.iload_n 2, 1) := by decide +kernel
theorem dX10_setExternal_44 : decode cX10_setExternal 44 = .ok (.bipush 114, 2) := by decide +kernel
theorem dX10_setExternal_46 : decode cX10_setExternal 46 = .ok (.if_icmp .eq 13, 3) := by decide +kernel
theorem dX10_setExternal_49 : decode cX10_setExternal 49 = .ok (.new 60, 3) := by decide +kernel
theorem dX10_setExternal_52 : decode cX10_setExternal 52 = .ok (.dup, 1) := by decide +kernel
theorem dX10_setExternal_53 : decode cX10_setExternal 53 = .ok (.ldc 223, 2) := by decide +kernel
theorem dX10_setExternal_55 : decode cX10_setExternal 55 = .ok (.invokespecial 64, 3) := by decide +kernel
theorem dX10_setExternal_58 : decode cX10_setExternal 58 = .ok (.athrow, 1) := by decide +kernel
theorem dX10_setExternal_59 : decode cX10_setExternal 59 = .ok (.aload_n 0, 1) := by decide +kernel
theorem dX10_setExternal_60 : decode cX10_setExternal 60 = .ok (.getfield 12, 3) := by decide +kernel
theorem dX10_setExternal_63 : decode cX10_setExternal 63 = .ok (.iload_n 1, 1) := by decide +kernel
theorem dX10_setExternal_64 : decode cX10_setExternal 64 = .ok (.invokevirtual 225, 3) := by decide +kernel
theorem dX10_setExternal_67 : decode cX10_setExternal 67 = .ok (.istore_n 3, 1) := by decide +kernel
theorem dX10_setExternal_68 : decode cX10_setExternal 68 = .ok (.iload_n 3, 1) := by decide +kernel
theorem dX10_setExternal_69 : decode cX10_setExternal 69 = .ok (.bipush 114, 2) := by decide +kernel
theorem dX10_setExternal_71 : decode cX10_setExternal 71 = .ok (.if_icmp .ne 13, 3) := by decide +kernel
theorem dX10_setExternal_74 : decode cX10_setExternal 74 = .ok (.new 71, 3) := by decide +kernel
theorem dX10_setExternal_77 : decode cX10_setExternal 77 = .ok (.dup, 1) := by decide +kernel
theorem dX10_setExternal_78 : decode cX10_setExternal 78 = .ok (.ldc 229, 2) := by decide +kernel
theorem dX10_setExternal_80 : decode cX10_setExternal 80 = .ok (.invokespecial 75, 3) := by decide +kernel
theorem dX10_setExternal_83 : decode cX10_setExternal 83 = .ok (.athrow, 1) := by decide +kernel
theorem dX10_setExternal_84 : decode cX10_setExternal 84 = .ok (.aload_n 0, 1) := by decide +kernel
theorem dX10_setExternal_85 : decode cX10_setExternal 85 = .ok (.invokevirtual 76, 3) := by decide +kernel
theorem dX10_setExternal_88 : decode cX10_setExternal 88 = .ok (.aload_n 0, 1) := by decide +kernel
theorem dX10_setExternal_89 : decode cX10_setExternal 89 = .ok (.getfield 12, 3) := by decide +kernel
theorem dX10_setExternal_92 : decode cX10_setExternal 92 = .ok (.iload_n 1, 1) := by decide +kernel
theorem dX10_setExternal_93 : decode cX10_setExternal 93 = .ok (.iload_n 2, 1) := by decide +kernel
theorem dX10_setExternal_94 : decode cX10_setExternal 94 = .ok (.invokevirtual 231, 3) := by decide +kernel
theorem dX10_setExternal_97 : decode cX10_setExternal 97 = .ok (.iload_n 3, 1) := by decide +kernel
theorem dX10_setExternal_98 : decode cX10_setExternal 98 = .ok (.ireturn, 1) := by decide +kernel
theorem dX10_assume_0 : decode cX10_assume 0 = .ok (.aload_n 0, 1) := by decide +kernel
theorem dX10_assume_1 : decode cX10_assume 1 = .ok (.iload_n 1, 1) := by decide +kernel
theorem dX10_assume_2 : decode cX10_assume 2 = .ok (.iload_n 2, 1) := by decide +kernel
theorem dX10_assume_3 : decode cX10_assume 3 = .ok (.iload_n 3, 1) := by decide +kernel
theorem dX10_assume_4 : decode cX10_assume 4 = .ok (.invokevirtual 206, 3) := by decide +kernel
theorem dX10_assume_7 : decode cX10_assume 7 = .ok (.istore 5, 2) := by decide +kernel
theorem dX10_assume_9 : decode cX10_assume 9 = .ok (.aload_n 0, 1) := by decide +kernel
theorem dX10_assume_10 : decode cX10_assume 10 = .ok (.getfield 56, 3) := by decide +kernel
theorem dX10_assume_13 : decode cX10_assume 13 = .ok (.iconst 0, 1) := by decide +kernel
theorem dX10_assume_14 : decode cX10_assume 14 = .ok (.putfield 235, 3) := by decide +kernel
theorem dX10_assume_17 : decode cX10_assume 17 = .ok (.iload 4, 2) := by decide +kernel
theorem dX10_assume_19 : decode cX10_assume 19 = .ok (.ifCond .eq 25, 3) := by decide +kernel
theorem dX10_assume_22 : decode cX10_assume 22 = .ok (.aload_n 0, 1) := by decide +kernel
theorem dX10_assume_23 : decode cX10_assume 23 = .ok (.getfield 50, 3) := by decide +kernel
theorem dX10_assume_26 : decode cX10_assume 26 = .ok (.iload 5, 2) := by decide +kernel
theorem dX10_assume_28 : decode cX10_assume 28 = .ok (.invokevirtual 239, 3) := by decide +kernel
theorem dX10_assume_31 : decode cX10_assume 31 = .ok (.aload_n 0, 1) := by decide +kernel
theorem dX10_assume_32 : decode cX10_assume 32 = .ok (.getfield 46, 3) := by decide +kernel
theorem dX10_assume_35 : decode cX10_assume 35 = .ok (.iload 5, 2) := by decide +kernel
theorem dX10_assume_37 : decode cX10_assume 37 = .ok (.invokevirtual 242, 3) := by decide +kernel
theorem dX10_assume_40 : decode cX10_assume 40 = .ok (.pop, 1) := by decide +kernel
theorem dX10_assume_41 : decode cX10_assume 41 = .ok (.goto 22, 3) := by decide +kernel
theorem dX10_assume_44 : decode cX10_assume 44 = .ok (.aload_n 0, 1) := by decide +kernel
theorem dX10_assume_45 : decode cX10_assume 45 = .ok (.getfield 46, 3) := by decide +kernel
theorem dX10_assume_48 : decode cX10_assume 48 = .ok (.iload 5, 2) := by decide +kernel
theorem dX10_assume_50 : decode cX10_assume 50 = .ok (.invokevirtual 239, 3) := by decide +kernel
theorem dX10_assume_53 : decode cX10_assume 53 = .ok (.aload_n 0, 1) := by decide +kernel
theorem dX10_assume_54 : decode cX10_assume 54 = .ok (.getfield 50, 3) := by decide +kernel
theorem dX10_assume_57 : decode cX10_assume 57 = .ok (.iload 5, 2) := by decide +kernel
theorem dX10_assume_59 : decode cX10_assume 59 = .ok (.invokevirtual 242, 3) := by decide +kernel
theorem dX10_assume_62 : decode cX10_assume 62 = .ok (.pop, 1) := by decide +kernel
theorem dX10_assume_63 : decode cX10_assume 63 = .ok (.aload_n 0, 1) := by decide +kernel
theorem dX10_assume_64 : decode cX10_assume 64 = .ok (.getfield 46, 3) := by decide +kernel
theorem dX10_assume_67 : decode cX10_assume 67 = .ok (.invokevirtual 245, 3) := by decide +kernel
theorem dX10_assume_70 : decode cX10_assume 70 = .ok (.aload_n 0, 1) := by decide +kernel
theorem dX10_assume_71 : decode cX10_assume 71 = .ok (.getfield 50, 3) := by decide +kernel
theorem dX10_assume_74 : decode cX10_assume 74 = .ok (.invokevirtual 245, 3) := by decide +kernel
theorem dX10_assume_77 : decode cX10_assume 77 = .ok (.iadd, 1) := by decide +kernel
theorem dX10_assume_78 : decode cX10_assume 78 = .ok (.ireturn, 1) := by decide +kernel
theorem dX10_state_0 : decode cX10_state 0 = .ok (.aload_n 0, 1) := by decide +kernel
theorem dX10_state_1 : decode cX10_state 1 = .ok (.iload_n 1, 1) := by decide +kernel
theorem dX10_state_2 : decode cX10_state 2 = .ok (.iload_n 2, 1) := by decide +kernel
theorem dX10_state_3 : decode cX10_state 3 = .ok (.iload_n 3, 1) := by decide +kernel
theorem dX10_state_4 : decode cX10_state 4 = .ok (.invokevirtual 206, 3) := by decide +kernel
theorem dX10_state_7 : decode cX10_state 7 = .ok (.istore 4, 2) := by decide +kernel
theorem dX10_state_9 : decode cX10_state 9 = .ok (.aload_n 0, 1) := by decide +kernel
theorem dX10_state_10 : decode cX10_state 10 = .ok (.getfield 21, 3) := by decide +kernel
theorem dX10_state_13 : decode cX10_state 13 = .ok (.invokevirtual 251, 3) := by decide +kernel
theorem dX10_state_16 : decode cX10_state 16 = .ok (.aload_n 0, 1) := by decide +kernel
theorem dX10_state_17 : decode cX10_state 17 = .ok (.getfield 21, 3) := by decide +kernel
theorem dX10_state_20 : decode cX10_state 20 = .ok (.getfield 254, 3) := by decide +kernel
theorem dX10_state_23 : decode cX10_state 23 = .ok (.iload 4, 2) := by decide +kernel
theorem dX10_state_25 : decode cX10_state 25 = .ok (.invokevirtual 257, 3) := by decide +kernel
theorem dX10_state_28 : decode cX10_state 28 = .ok (.ifCond .eq 6, 3) := by decide +kernel
theorem dX10_state_31 : decode cX10_state 31 = .ok (.bipush 115, 2) := by decide +kernel
theorem dX10_state_33 : decode cX10_state 33 = .ok (.ireturn, 1) := by decide +kernel
theorem dX10_state_34 : decode cX10_state 34 = .ok (.aload_n 0, 1) := by decide +kernel
theorem dX10_state_35 : decode cX10_state 35 = .ok (.getfield 21, 3) := by decide +kernel
theorem dX10_state_38 : decode cX10_state 38 = .ok (.getfield 260, 3) := by decide +kernel
theorem dX10_state_41 : decode cX10_state 41 = .ok (.iload 4, 2) := by decide +kernel
theorem dX10_state_43 : decode cX10_state 43 = .ok (.invokevirtual 257, 3) := by decide +kernel
theorem dX10_state_46 : decode cX10_state 46 = .ok (.ifCond .eq 8, 3) := by decide +kernel
theorem dX10_state_49 : decode cX10_state 49 = .ok (.bipush 111, 2) := by decide +kernel
theorem dX10_state_51 : decode cX10_state 51 = .ok (.goto 5, 3) := by decide +kernel
theorem dX10_state_54 : decode cX10_state 54 = .ok (.bipush 110, 2) := by decide +kernel
theorem dX10_state_56 : decode cX10_state 56 = .ok (.ireturn, 1) := by decide +kernel
theorem dX10_instances_0 : decode cX10_instances 0 = .ok (.aload_n 0, 1) := by decide +kernel
theorem dX10_instances_1 : decode cX10_instances 1 = .ok (.getfield 12, 3) := by decide +kernel
theorem dX10_instances_4 : decode cX10_instances 4 = .ok (.iload_n 1, 1) := by decide +kernel
theorem dX10_instances_5 : decode cX10_instances 5 = .ok (.invokevirtual 126, 3) := by decide +kernel
theorem dX10_instances_8 : decode cX10_instances 8 = .ok (.ifnonnull 13, 3) := by decide +kernel
theorem dX10_instances_11 : decode cX10_instances 11 = .ok (.new 134, 3) := by decide +kernel
theorem dX10_instances_14 : decode cX10_instances 14 = .ok (.dup, 1) := by decide +kernel
theorem dX10_instances_15 : decode cX10_instances 15 = .ok (.ldc 174, 2) := by decide +kernel
theorem dX10_instances_17 : decode cX10_instances 17 = .ok (.invokespecial 138, 3) := by decide +kernel
theorem dX10_instances_20 : decode cX10_instances 20 = .ok (.athrow, 1) := by decide +kernel
theorem dX10_instances_21 : decode cX10_instances 21 = .ok (.aload_n 0, 1) := by decide +kernel
theorem dX10_instances_22 : decode cX10_instances 22 = .ok (.getfield 21, 3) := by decide +kernel
theorem dX10_instances_25 : decode cX10_instances 25 = .ok (.invokevirtual 251, 3) := by decide +kernel
theorem dX10_instances_28 : decode cX10_instances 28 = .ok (.aload_n 0, 1) := by decide +kernel
theorem dX10_instances_29 : decode cX10_instances 29 = .ok (.getfield 21, 3) := by decide +kernel
theorem dX10_instances_32 : decode cX10_instances 32 = .ok (.iload_n 1, 1) := by decide +kernel
theorem dX10_instances_33 : decode cX10_instances 33 = .ok (.invokevirtual 266, 3) := by decide +kernel
theorem dX10_instances_36 : decode cX10_instances 36 = .ok (.ireturn, 1) := by decide +kernel
theorem dX10_has_0 : decode cX10_has 0 = .ok (.aload_n 0, 1) := by decide +kernel
theorem dX10_has_1 : decode cX10_has 1 = .ok (.iload_n 1, 1) := by decide +kernel
theorem dX10_has_2 : decode cX10_has 2 = .ok (.invokevirtual 299, 3) := by decide +kernel
theorem dX10_has_5 : decode cX10_has 5 = .ok (.istore 5, 2) := by decide +kernel
theorem dX10_has_7 : decode cX10_has 7 = .ok (.aload_n 0, 1) := by decide +kernel
theorem dX10_has_8 : decode cX10_has 8 = .ok (.getfield 30, 3) := by decide +kernel
theorem dX10_has_11 : decode cX10_has 11 = .ok (.iload 5, 2) := by decide +kernel
theorem dX10_has_13 : decode cX10_has 13 = .ok (.aload_n 0, 1) := by decide +kernel
theorem dX10_has_14 : decode cX10_has 14 = .ok (.iload_n 2, 1) := by decide +kernel
theorem dX10_has_15 : decode cX10_has 15 = .ok (.iload_n 3, 1) := by decide +kernel
theorem dX10_has_16 : decode cX10_has 16 = .ok (.iload 4, 2) := by decide +kernel
theorem dX10_has_18 : decode cX10_has 18 = .ok (.invokevirtual 206, 3) := by decide +kernel
theorem dX10_has_21 : decode cX10_has 21 = .ok (.invokevirtual 302, 3) := by decide +kernel
theorem dX10_has_24 : decode cX10_has 24 = .ok (.ireturn, 1) := by decide +kernel
theorem dX10_size_0 : decode cX10_size 0 = .ok (.aload_n 0, 1) := by decide +kernel
theorem dX10_size_1 : decode cX10_size 1 = .ok (.getfield 30, 3) := by decide +kernel
theorem dX10_size_4 : decode cX10_size 4 = .ok (.aload_n 0, 1) := by decide +kernel
theorem dX10_size_5 : decode cX10_size 5 = .ok (.iload_n 1, 1) := by decide +kernel
theorem dX10_size_6 : decode cX10_size 6 = .ok (.invokevirtual 299, 3) := by decide +kernel
theorem dX10_size_9 : decode cX10_size 9 = .ok (.invokevirtual 305, 3) := by decide +kernel
theorem dX10_size_12 : decode cX10_size 12 = .ok (.ireturn, 1) := by decide +kernel
theorem dX10_cost_0 : decode cX10_cost 0 = .ok (.aload_n 0, 1) := by decide +kernel
theorem dX10_cost_1 : decode cX10_cost 1 = .ok (.iload_n 1, 1) := by decide +kernel
theorem dX10_cost_2 : decode cX10_cost 2 = .ok (.invokevirtual 299, 3) := by decide +kernel
theorem dX10_cost_5 : decode cX10_cost 5 = .ok (.pop, 1) := by decide +kernel
theorem dX10_cost_6 : decode cX10_cost 6 = .ok (.aload_n 0, 1) := by decide +kernel
theorem dX10_cost_7 : decode cX10_cost 7 = .ok (.iload_n 2, 1) := by decide +kernel
theorem dX10_cost_8 : decode cX10_cost 8 = .ok (.invokevirtual 117, 3) := by decide +kernel
theorem dX10_cost_11 : decode cX10_cost 11 = .ok (.aload_n 0, 1) := by decide +kernel
theorem dX10_cost_12 : decode cX10_cost 12 = .ok (.getfield 56, 3) := by decide +kernel
theorem dX10_cost_15 : decode cX10_cost 15 = .ok (.iload_n 1, 1) := by decide +kernel
theorem dX10_cost_16 : decode cX10_cost 16 = .ok (.iload_n 2, 1) := by decide +kernel
theorem dX10_cost_17 : decode cX10_cost 17 = .ok (.invokevirtual 308, 3) := by decide +kernel
theorem dX10_cost_20 : decode cX10_cost 20 = .ok (.lreturn, 1) := by decide +kernel
theorem dX10_best_0 : decode cX10_best 0 = .ok (.aload_n 0, 1) := by decide +kernel
theorem dX10_best_1 : decode cX10_best 1 = .ok (.invokevirtual 312, 3) := by decide +kernel
theorem dX10_best_4 : decode cX10_best 4 = .ok (.aload_n 0, 1) := by decide +kernel
theorem dX10_best_5 : decode cX10_best 5 = .ok (.getfield 56, 3) := by decide +kernel
theorem dX10_best_8 : decode cX10_best 8 = .ok (.invokevirtual 315, 3) := by decide +kernel
theorem dX10_best_11 : decode cX10_best 11 = .ok (.ireturn, 1) := by decide +kernel
theorem dX10_projected_0 : decode cX10_projected 0 = .ok (.aload_n 0, 1) := by decide +kernel
theorem dX10_projected_1 : decode cX10_projected 1 = .ok (.invokevirtual 312, 3) := by decide +kernel
theorem dX10_projected_4 : decode cX10_projected 4 = .ok (.aload_n 0, 1) := by decide +kernel
theorem dX10_projected_5 : decode cX10_projected 5 = .ok (.getfield 12, 3) := by decide +kernel
theorem dX10_projected_8 : decode cX10_projected 8 = .ok (.iload_n 1, 1) := by decide +kernel
theorem dX10_projected_9 : decode cX10_projected 9 = .ok (.invokevirtual 130, 3) := by decide +kernel
theorem dX10_projected_12 : decode cX10_projected 12 = .ok (.ifCond .ne 14, 3) := by decide +kernel
theorem dX10_projected_15 : decode cX10_projected 15 = .ok (.new 134, 3) := by decide +kernel
theorem dX10_projected_18 : decode cX10_projected 18 = .ok (.dup, 1) := by decide +kernel
theorem dX10_projected_19 : decode cX10_projected 19 = .ok (.ldc_w 318, 3) := by decide +kernel
theorem dX10_projected_22 : decode cX10_projected 22 = .ok (.invokespecial 138, 3) := by decide +kernel
theorem dX10_projected_25 : decode cX10_projected 25 = .ok (.athrow, 1) := by decide +kernel
theorem dX10_projected_26 : decode cX10_projected 26 = .ok (.aload_n 0, 1) := by decide +kernel
theorem dX10_projected_27 : decode cX10_projected 27 = .ok (.getfield 56, 3) := by decide +kernel
theorem dX10_projected_30 : decode cX10_projected 30 = .ok (.aload_n 0, 1) := by decide +kernel
theorem dX10_projected_31 : decode cX10_projected 31 = .ok (.getfield 30, 3) := by decide +kernel
theorem dX10_projected_34 : decode cX10_projected 34 = .ok (.iload_n 1, 1) := by decide +kernel
theorem dX10_projected_35 : decode cX10_projected 35 = .ok (.invokevirtual 320, 3) := by decide +kernel
theorem dX10_projected_38 : decode cX10_projected 38 = .ok (.invokevirtual 323, 3) := by decide +kernel
theorem dX10_projected_41 : decode cX10_projected 41 = .ok (.ireturn, 1) := by decide +kernel
theorem dX10_holds_0 : decode cX10_holds 0 = .ok (.aload_n 0, 1) := by decide +kernel
theorem dX10_holds_1 : decode cX10_holds 1 = .ok (.invokevirtual 312, 3) := by decide +kernel
theorem dX10_holds_4 : decode cX10_holds 4 = .ok (.aload_n 0, 1) := by decide +kernel
theorem dX10_holds_5 : decode cX10_holds 5 = .ok (.aload_n 0, 1) := by decide +kernel
theorem dX10_holds_6 : decode cX10_holds 6 = .ok (.iload_n 1, 1) := by decide +kernel
theorem dX10_holds_7 : decode cX10_holds 7 = .ok (.iload_n 2, 1) := by decide +kernel
theorem dX10_holds_8 : decode cX10_holds 8 = .ok (.iload_n 3, 1) := by decide +kernel
theorem dX10_holds_9 : decode cX10_holds 9 = .ok (.invokevirtual 206, 3) := by decide +kernel
theorem dX10_holds_12 : decode cX10_holds 12 = .ok (.invokevirtual 326, 3) := by decide +kernel
theorem dX10_holds_15 : decode cX10_holds 15 = .ok (.istore 4, 2) := by decide +kernel
theorem dX10_holds_17 : decode cX10_holds 17 = .ok (.iload 4, 2) := by decide +kernel
theorem dX10_holds_19 : decode cX10_holds 19 = .ok (.aload_n 0, 1) := by decide +kernel
theorem dX10_holds_20 : decode cX10_holds 20 = .ok (.getfield 56, 3) := by decide +kernel
theorem dX10_holds_23 : decode cX10_holds 23 = .ok (.getfield 280, 3) := by decide +kernel
theorem dX10_holds_26 : decode cX10_holds 26 = .ok (.if_icmp .ne 6, 3) := by decide +kernel
theorem dX10_holds_29 : decode cX10_holds 29 = .ok (.bipush 97, 2) := by decide +kernel
theorem dX10_holds_31 : decode cX10_holds 31 = .ok (.ireturn, 1) := by decide +kernel
theorem dX10_holds_32 : decode cX10_holds 32 = .ok (.iload 4, 2) := by decide +kernel
theorem dX10_holds_34 : decode cX10_holds 34 = .ok (.ifCond .ne 8, 3) := by decide +kernel
theorem dX10_holds_37 : decode cX10_holds 37 = .ok (.bipush 110, 2) := by decide +kernel
theorem dX10_holds_39 : decode cX10_holds 39 = .ok (.goto 5, 3) := by decide +kernel
theorem dX10_holds_42 : decode cX10_holds 42 = .ok (.bipush 115, 2) := by decide +kernel
theorem dX10_holds_44 : decode cX10_holds 44 = .ok (.ireturn, 1) := by decide +kernel
theorem dX10_reason_0 : decode cX10_reason 0 = .ok (.aload_n 0, 1) := by decide +kernel
theorem dX10_reason_1 : decode cX10_reason 1 = .ok (.iload_n 1, 1) := by decide +kernel
theorem dX10_reason_2 : decode cX10_reason 2 = .ok (.invokevirtual 299, 3) := by decide +kernel
theorem dX10_reason_5 : decode cX10_reason 5 = .ok (.istore 5, 2) := by decide +kernel
theorem dX10_reason_7 : decode cX10_reason 7 = .ok (.aload_n 0, 1) := by decide +kernel
theorem dX10_reason_8 : decode cX10_reason 8 = .ok (.iload_n 2, 1) := by decide +kernel
theorem dX10_reason_9 : decode cX10_reason 9 = .ok (.iload_n 3, 1) := by decide +kernel
theorem dX10_reason_10 : decode cX10_reason 10 = .ok (.iload 4, 2) := by decide +kernel
theorem dX10_reason_12 : decode cX10_reason 12 = .ok (.invokevirtual 206, 3) := by decide +kernel
theorem dX10_reason_15 : decode cX10_reason 15 = .ok (.istore 6, 2) := by decide +kernel
theorem dX10_reason_17 : decode cX10_reason 17 = .ok (.aload_n 0, 1) := by decide +kernel
theorem dX10_reason_18 : decode cX10_reason 18 = .ok (.getfield 30, 3) := by decide +kernel
theorem dX10_reason_21 : decode cX10_reason 21 = .ok (.iload 5, 2) := by decide +kernel
theorem dX10_reason_23 : decode cX10_reason 23 = .ok (.iload 6, 2) := by decide +kernel
theorem dX10_reason_25 : decode cX10_reason 25 = .ok (.invokevirtual 302, 3) := by decide +kernel
theorem dX10_reason_28 : decode cX10_reason 28 = .ok (.ifCond .eq 17, 3) := by decide +kernel
theorem dX10_reason_31 : decode cX10_reason 31 = .ok (.aload_n 0, 1) := by decide +kernel
theorem dX10_reason_32 : decode cX10_reason 32 = .ok (.getfield 30, 3) := by decide +kernel
theorem dX10_reason_35 : decode cX10_reason 35 = .ok (.iload 5, 2) := by decide +kernel
theorem dX10_reason_37 : decode cX10_reason 37 = .ok (.iload 6, 2) := by decide +kernel
theorem dX10_reason_39 : decode cX10_reason 39 = .ok (.invokevirtual 329, 3) := by decide +kernel
theorem dX10_reason_42 : decode cX10_reason 42 = .ok (.goto 4, 3) := by decide +kernel
theorem dX10_reason_45 : decode cX10_reason 45 = .ok (.iconst (-1), 1) := by decide +kernel
theorem dX10_reason_46 : decode cX10_reason 46 = .ok (.istore 7, 2) := by decide +kernel
theorem dX10_reason_48 : decode cX10_reason 48 = .ok (.iload 7, 2) := by decide +kernel
theorem dX10_reason_50 : decode cX10_reason 50 = .ok (.iconst (-1), 1) := by decide +kernel
theorem dX10_reason_51 : decode cX10_reason 51 = .ok (.if_icmp .ne 14, 3) := by decide +kernel
theorem dX10_reason_54 : decode cX10_reason 54 = .ok (.new 333, 3) := by decide +kernel
theorem dX10_reason_57 : decode cX10_reason 57 = .ok (.dup, 1) := by decide +kernel
theorem dX10_reason_58 : decode cX10_reason 58 = .ok (.ldc_w 335, 3) := by decide +kernel
theorem dX10_reason_61 : decode cX10_reason 61 = .ok (.invokespecial 337, 3) := by decide +kernel
theorem dX10_reason_64 : decode cX10_reason 64 = .ok (.athrow, 1) := by decide +kernel
theorem dX10_reason_65 : decode cX10_reason 65 = .ok (.iload 7, 2) := by decide +kernel
theorem dX10_reason_67 : decode cX10_reason 67 = .ok (.ireturn, 1) := by decide +kernel
theorem dX10_share_0 : decode cX10_share 0 = .ok (.aload_n 0, 1) := by decide +kernel
theorem dX10_share_1 : decode cX10_share 1 = .ok (.invokevirtual 312, 3) := by decide +kernel
theorem dX10_share_4 : decode cX10_share 4 = .ok (.aload_n 0, 1) := by decide +kernel
theorem dX10_share_5 : decode cX10_share 5 = .ok (.iload_n 1, 1) := by decide +kernel
theorem dX10_share_6 : decode cX10_share 6 = .ok (.iload_n 2, 1) := by decide +kernel
theorem dX10_share_7 : decode cX10_share 7 = .ok (.iload_n 3, 1) := by decide +kernel
theorem dX10_share_8 : decode cX10_share 8 = .ok (.invokevirtual 206, 3) := by decide +kernel
theorem dX10_share_11 : decode cX10_share 11 = .ok (.istore 4, 2) := by decide +kernel
theorem dX10_share_13 : decode cX10_share 13 = .ok (.aload_n 0, 1) := by decide +kernel
theorem dX10_share_14 : decode cX10_share 14 = .ok (.getfield 56, 3) := by decide +kernel
theorem dX10_share_17 : decode cX10_share 17 = .ok (.getfield 280, 3) := by decide +kernel
theorem dX10_share_20 : decode cX10_share 20 = .ok (.ifCond .gt 14, 3) := by decide +kernel
theorem dX10_share_23 : decode cX10_share 23 = .ok (.new 338, 3) := by decide +kernel
theorem dX10_share_26 : decode cX10_share 26 = .ok (.dup, 1) := by decide +kernel
theorem dX10_share_27 : decode cX10_share 27 = .ok (.ldc_w 340, 3) := by decide +kernel
theorem dX10_share_30 : decode cX10_share 30 = .ok (.invokespecial 342, 3) := by decide +kernel
theorem dX10_share_33 : decode cX10_share 33 = .ok (.athrow, 1) := by decide +kernel
theorem dX10_share_34 : decode cX10_share 34 = .ok (.aload_n 0, 1) := by decide +kernel
theorem dX10_share_35 : decode cX10_share 35 = .ok (.iload 4, 2) := by decide +kernel
theorem dX10_share_37 : decode cX10_share 37 = .ok (.invokevirtual 326, 3) := by decide +kernel
theorem dX10_share_40 : decode cX10_share 40 = .ok (.i2f, 1) := by decide +kernel
theorem dX10_share_41 : decode cX10_share 41 = .ok (.aload_n 0, 1) := by decide +kernel
theorem dX10_share_42 : decode cX10_share 42 = .ok (.getfield 56, 3) := by decide +kernel
theorem dX10_share_45 : decode cX10_share 45 = .ok (.getfield 280, 3) := by decide +kernel
theorem dX10_share_48 : decode cX10_share 48 = .ok (.i2f, 1) := by decide +kernel
theorem dX10_share_49 : decode cX10_share 49 = .ok (.fdiv, 1) := by decide +kernel
theorem dX10_share_50 : decode cX10_share 50 = .ok (.freturn, 1) := by decide +kernel
theorem dX10_commonest_0 : decode cX10_commonest 0 = .ok (.aload_n 0, 1) := by decide +kernel
theorem dX10_commonest_1 : decode cX10_commonest 1 = .ok (.invokevirtual 312, 3) := by decide +kernel
theorem dX10_commonest_4 : decode cX10_commonest 4 = .ok (.aload_n 0, 1) := by decide +kernel
theorem dX10_commonest_5 : decode cX10_commonest 5 = .ok (.getfield 21, 3) := by decide +kernel
theorem dX10_commonest_8 : decode cX10_commonest 8 = .ok (.getfield 263, 3) := by decide +kernel
theorem dX10_commonest_11 : decode cX10_commonest 11 = .ok (.ifCond .le 13, 3) := by decide +kernel
theorem dX10_commonest_14 : decode cX10_commonest 14 = .ok (.aload_n 0, 1) := by decide +kernel
theorem dX10_commonest_15 : decode cX10_commonest 15 = .ok (.getfield 56, 3) := by decide +kernel
theorem dX10_commonest_18 : decode cX10_commonest 18 = .ok (.getfield 280, 3) := by decide +kernel
theorem dX10_commonest_21 : decode cX10_commonest 21 = .ok (.ifCond .gt 14, 3) := by decide +kernel
theorem dX10_commonest_24 : decode cX10_commonest 24 = .ok (.new 333, 3) := by decide +kernel
theorem dX10_commonest_27 : decode cX10_commonest 27 = .ok (.dup, 1) := by decide +kernel
theorem dX10_commonest_28 : decode cX10_commonest 28 = .ok (.ldc_w 343, 3) := by decide +kernel
theorem dX10_commonest_31 : decode cX10_commonest 31 = .ok (.invokespecial 337, 3) := by decide +kernel
theorem dX10_commonest_34 : decode cX10_commonest 34 = .ok (.athrow, 1) := by decide +kernel
theorem dX10_commonest_35 : decode cX10_commonest 35 = .ok (.iconst (-1), 1) := by decide +kernel
theorem dX10_commonest_36 : decode cX10_commonest 36 = .ok (.istore_n 1, 1) := by decide +kernel
theorem dX10_commonest_37 : decode cX10_commonest 37 = .ok (.iconst 0, 1) := by decide +kernel
theorem dX10_commonest_38 : decode cX10_commonest 38 = .ok (.istore_n 2, 1) := by decide +kernel
theorem dX10_commonest_39 : decode cX10_commonest 39 = .ok (.iconst 0, 1) := by decide +kernel
theorem dX10_commonest_40 : decode cX10_commonest 40 = .ok (.istore_n 3, 1) := by decide +kernel
theorem dX10_commonest_41 : decode cX10_commonest 41 = .ok (.iload_n 3, 1) := by decide +kernel
theorem dX10_commonest_42 : decode cX10_commonest 42 = .ok (.aload_n 0, 1) := by decide +kernel
theorem dX10_commonest_43 : decode cX10_commonest 43 = .ok (.getfield 21, 3) := by decide +kernel
theorem dX10_commonest_46 : decode cX10_commonest 46 = .ok (.getfield 263, 3) := by decide +kernel
theorem dX10_commonest_49 : decode cX10_commonest 49 = .ok (.if_icmp .ge 41, 3) := by decide +kernel
theorem dX10_commonest_52 : decode cX10_commonest 52 = .ok (.aload_n 0, 1) := by decide +kernel
theorem dX10_commonest_53 : decode cX10_commonest 53 = .ok (.aload_n 0, 1) := by decide +kernel
theorem dX10_commonest_54 : decode cX10_commonest 54 = .ok (.getfield 21, 3) := by decide +kernel
theorem dX10_commonest_57 : decode cX10_commonest 57 = .ok (.iload_n 3, 1) := by decide +kernel
theorem dX10_commonest_58 : decode cX10_commonest 58 = .ok (.invokevirtual 345, 3) := by decide +kernel
theorem dX10_commonest_61 : decode cX10_commonest 61 = .ok (.invokevirtual 326, 3) := by decide +kernel
theorem dX10_commonest_64 : decode cX10_commonest 64 = .ok (.istore 4, 2) := by decide +kernel
theorem dX10_commonest_66 : decode cX10_commonest 66 = .ok (.iload 4, 2) := by decide +kernel
theorem dX10_commonest_68 : decode cX10_commonest 68 = .ok (.iload_n 1, 1) := by decide +kernel
theorem dX10_commonest_69 : decode cX10_commonest 69 = .ok (.if_icmp .le 15, 3) := by decide +kernel
theorem dX10_commonest_72 : decode cX10_commonest 72 = .ok (.iload 4, 2) := by decide +kernel
theorem dX10_commonest_74 : decode cX10_commonest 74 = .ok (.istore_n 1, 1) := by decide +kernel
theorem dX10_commonest_75 : decode cX10_commonest 75 = .ok (.aload_n 0, 1) := by decide +kernel
theorem dX10_commonest_76 : decode cX10_commonest 76 = .ok (.getfield 21, 3) := by decide +kernel
theorem dX10_commonest_79 : decode cX10_commonest 79 = .ok (.iload_n 3, 1) := by decide +kernel
theorem dX10_commonest_80 : decode cX10_commonest 80 = .ok (.invokevirtual 345, 3) := by decide +kernel
theorem dX10_commonest_83 : decode cX10_commonest 83 = .ok (.istore_n 2, 1) := by decide +kernel
theorem dX10_commonest_84 : decode cX10_commonest 84 = .ok (.iinc 3 1, 3) := by decide +kernel
theorem dX10_commonest_87 : decode cX10_commonest 87 = .ok (.goto (-46), 3) := by decide +kernel
theorem dX10_commonest_90 : decode cX10_commonest 90 = .ok (.bipush 100, 2) := by decide +kernel
theorem dX10_commonest_92 : decode cX10_commonest 92 = .ok (.iload_n 2, 1) := by decide +kernel
theorem dX10_commonest_93 : decode cX10_commonest 93 = .ok (.bipush 64, 2) := by decide +kernel
theorem dX10_commonest_95 : decode cX10_commonest 95 = .ok (.idiv, 1) := by decide +kernel
theorem dX10_commonest_96 : decode cX10_commonest 96 = .ok (.imul, 1) := by decide +kernel
theorem dX10_commonest_97 : decode cX10_commonest 97 = .ok (.bipush 10, 2) := by decide +kernel
theorem dX10_commonest_99 : decode cX10_commonest 99 = .ok (.iload_n 2, 1) := by decide +kernel
theorem dX10_commonest_100 : decode cX10_commonest 100 = .ok (.bipush 64, 2) := by decide +kernel
theorem dX10_commonest_102 : decode cX10_commonest 102 = .ok (.irem, 1) := by decide +kernel
theorem dX10_commonest_103 : decode cX10_commonest 103 = .ok (.bipush 8, 2) := by decide +kernel
theorem dX10_commonest_105 : decode cX10_commonest 105 = .ok (.idiv, 1) := by decide +kernel
theorem dX10_commonest_106 : decode cX10_commonest 106 = .ok (.imul, 1) := by decide +kernel
theorem dX10_commonest_107 : decode cX10_commonest 107 = .ok (.iadd, 1) := by decide +kernel
theorem dX10_commonest_108 : decode cX10_commonest 108 = .ok (.iload_n 2, 1) := by decide +kernel
theorem dX10_commonest_109 : decode cX10_commonest 109 = .ok (.bipush 8, 2) := by decide +kernel
theorem dX10_commonest_111 : decode cX10_commonest 111 = .ok (.irem, 1) := by decide +kernel
theorem dX10_commonest_112 : decode cX10_commonest 112 = .ok (.iadd, 1) := by decide +kernel
theorem dX10_commonest_113 : decode cX10_commonest 113 = .ok (.ireturn, 1) := by decide +kernel
theorem dX10_meanSize_0 : decode cX10_meanSize 0 = .ok (.aload_n 0, 1) := by decide +kernel
theorem dX10_meanSize_1 : decode cX10_meanSize 1 = .ok (.invokevirtual 312, 3) := by decide +kernel
theorem dX10_meanSize_4 : decode cX10_meanSize 4 = .ok (.aload_n 0, 1) := by decide +kernel
theorem dX10_meanSize_5 : decode cX10_meanSize 5 = .ok (.getfield 56, 3) := by decide +kernel
theorem dX10_meanSize_8 : decode cX10_meanSize 8 = .ok (.getfield 280, 3) := by decide +kernel
theorem dX10_meanSize_11 : decode cX10_meanSize 11 = .ok (.ifCond .gt 14, 3) := by decide +kernel
theorem dX10_meanSize_14 : decode cX10_meanSize 14 = .ok (.new 338, 3) := by decide +kernel
theorem dX10_meanSize_17 : decode cX10_meanSize 17 = .ok (.dup, 1) := by decide +kernel
theorem dX10_meanSize_18 : decode cX10_meanSize 18 = .ok (.ldc_w 340, 3) := by decide +kernel
theorem dX10_meanSize_21 : decode cX10_meanSize 21 = .ok (.invokespecial 342, 3) := by decide +kernel
theorem dX10_meanSize_24 : decode cX10_meanSize 24 = .ok (.athrow, 1) := by decide +kernel
theorem dX10_meanSize_25 : decode cX10_meanSize 25 = .ok (.iconst 0, 1) := by decide +kernel
theorem dX10_meanSize_26 : decode cX10_meanSize 26 = .ok (.istore_n 1, 1) := by decide +kernel
theorem dX10_meanSize_27 : decode cX10_meanSize 27 = .ok (.iconst 0, 1) := by decide +kernel
theorem dX10_meanSize_28 : decode cX10_meanSize 28 = .ok (.istore_n 2, 1) := by decide +kernel
theorem dX10_meanSize_29 : decode cX10_meanSize 29 = .ok (.iload_n 2, 1) := by decide +kernel
theorem dX10_meanSize_30 : decode cX10_meanSize 30 = .ok (.aload_n 0, 1) := by decide +kernel
theorem dX10_meanSize_31 : decode cX10_meanSize 31 = .ok (.getfield 56, 3) := by decide +kernel
theorem dX10_meanSize_34 : decode cX10_meanSize 34 = .ok (.getfield 280, 3) := by decide +kernel
theorem dX10_meanSize_37 : decode cX10_meanSize 37 = .ok (.if_icmp .ge 27, 3) := by decide +kernel
theorem dX10_meanSize_40 : decode cX10_meanSize 40 = .ok (.iload_n 1, 1) := by decide +kernel
theorem dX10_meanSize_41 : decode cX10_meanSize 41 = .ok (.aload_n 0, 1) := by decide +kernel
theorem dX10_meanSize_42 : decode cX10_meanSize 42 = .ok (.getfield 30, 3) := by decide +kernel
theorem dX10_meanSize_45 : decode cX10_meanSize 45 = .ok (.aload_n 0, 1) := by decide +kernel
theorem dX10_meanSize_46 : decode cX10_meanSize 46 = .ok (.getfield 56, 3) := by decide +kernel
theorem dX10_meanSize_49 : decode cX10_meanSize 49 = .ok (.iload_n 2, 1) := by decide +kernel
theorem dX10_meanSize_50 : decode cX10_meanSize 50 = .ok (.invokevirtual 348, 3) := by decide +kernel
theorem dX10_meanSize_53 : decode cX10_meanSize 53 = .ok (.invokevirtual 305, 3) := by decide +kernel
theorem dX10_meanSize_56 : decode cX10_meanSize 56 = .ok (.iadd, 1) := by decide +kernel
theorem dX10_meanSize_57 : decode cX10_meanSize 57 = .ok (.istore_n 1, 1) := by decide +kernel
theorem dX10_meanSize_58 : decode cX10_meanSize 58 = .ok (.iinc 2 1, 3) := by decide +kernel
theorem dX10_meanSize_61 : decode cX10_meanSize 61 = .ok (.goto (-32), 3) := by decide +kernel
theorem dX10_meanSize_64 : decode cX10_meanSize 64 = .ok (.iload_n 1, 1) := by decide +kernel
theorem dX10_meanSize_65 : decode cX10_meanSize 65 = .ok (.i2d, 1) := by decide +kernel
theorem dX10_meanSize_66 : decode cX10_meanSize 66 = .ok (.aload_n 0, 1) := by decide +kernel
theorem dX10_meanSize_67 : decode cX10_meanSize 67 = .ok (.getfield 56, 3) := by decide +kernel
theorem dX10_meanSize_70 : decode cX10_meanSize 70 = .ok (.getfield 280, 3) := by decide +kernel
theorem dX10_meanSize_73 : decode cX10_meanSize 73 = .ok (.i2d, 1) := by decide +kernel
theorem dX10_meanSize_74 : decode cX10_meanSize 74 = .ok (.ddiv, 1) := by decide +kernel
theorem dX10_meanSize_75 : decode cX10_meanSize 75 = .ok (.dreturn, 1) := by decide +kernel
def vs_k_X8_init_d : List Cond := .code yX8_init cX8_init 3 none :: ([.methodLink RX8 3 objectInit, .instanceMethod objectInit, .code objectInit ⟨#[0xb1]⟩ 1 none, .fieldLink RX8 9 "AnswerFold$Rule" "span" "I", .classLink RX8 15 RX4, .fieldLink RX8 17 "AnswerFold$Rule" "heads" "[LAnswerFold$Literal;", .fieldLink RX8 21 "AnswerFold$Rule" "conditions" "[LAnswerFold$Literal;", .fieldLink RX8 24 "AnswerFold$Rule" "kind" "C", .fieldLink RX8 28 "AnswerFold$Rule" "part" "I"] ++ (u_ws RX8 TX8 11))
theorem iv_k_X8_init_d_X8 : ∀ w ∈ u_ws RX8 TX8 11, w ∈ vs_k_X8_init_d := (fun _ h => List.mem_cons_of_mem _ (List.mem_append_right _ (h)))
set_option maxHeartbeats 4000000 in
set_option maxRecDepth 100000 in
theorem k_X8_init_d (l : Launch) (D : va_G) (ty : Nat → ClassId) (td mi sz : Nat) (h0 : Nat) (k1 : Int32) : Met l yX8_init vs_k_X8_init_d { frames := 1, cells := 2, slots := 7, locals := 12 } (va_Pc [.ref h0, .int 100, .int k1] (wq_P D ty td mi [(h0, .inr (13, [.int 0, .int 0, .int 0, .int 0, .int 0, .int 0, .int 0, .null, .int 0, .null, .int 0]))] sz)) (va_Qv (fun u : va_W => (∃ (q93 : Nat) (q94 : Nat), (u = [(h0, .inr (13, [.int 100, .int k1, .int 0, .int 0, .int (-1), .int 0, .int 0, .ref q93, .int 0, .ref q94, .int 0])), (q93, .inl (ty 5, 2, .inr (.inr (.inr (.inr (fun _ => none)))))), (q94, .inl (ty 5, 5, .inr (.inr (.inr (.inr (fun _ => none))))))]))) (wq_B D (va_A [(h0, .inr (13, [.int 0, .int 0, .int 0, .int 0, .int 0, .int 0, .int 0, .null, .int 0, .null, .int 0]))] sz)) (va_A [(h0, .inr (13, [.int 0, .int 0, .int 0, .int 0, .int 0, .int 0, .int 0, .null, .int 0, .null, .int 0]))] sz)) 2 7 (va_A [(h0, .inr (13, [.int 0, .int 0, .int 0, .int 0, .int 0, .int 0, .int 0, .null, .int 0, .null, .int 0]))] sz) := by
  refine Met.ofW (cc := cX8_init) (maxL := 3) (ret := none) (by decide) rfl ?_
  intro p e s m args below meth c s₁ B hml hv
  obtain ⟨rfl, hsz, hP, hK, hD0, hE⟩ := hv
  have hx := B.exec
  have hb := B.bytes
  have hr := B.returns
  have hts := atoms_spec (ws := vs_k_X8_init_d) B.pre
  have hown : s.vm.findClass RX8 = some m.cls := findClass_of_methodNamed B.named
  have hlocks := B.notSynchronized
  have hin : meth.name = "<init>" := (name_of_methodNamed B.named B.method).1
  subst hsz
  have hD := hD0.self (sz := s.heap.size)
  generalize hAe : va_A [(h0, .inr (13, [.int 0, .int 0, .int 0, .int 0, .int 0, .int 0, .int 0, .null, .int 0, .null, .int 0]))] s.heap.size = A at hD hE ⊢
  have hA : ∀ q : Nat, s.heap.size ≤ q → A q := fun q h => by rw [← hAe]; exact Or.inr h
  have hS : va_S A s.heap s.heap [] := va_S.rf
  have hP : va_P D vwCl [(h0, .inr (13, [.int 0, .int 0, .int 0, .int 0, .int 0, .int 0, .int 0, .null, .int 0, .null, .int 0]))] s.heap := hP
  have hl := lv_entry ([.ref h0, .int 100, .int k1]) (n := 3) (Nat.le_of_ble_eq_true rfl)
  rw [lg_entry_eq]
  generalize (lg_sl ([.ref h0, .int 100, .int k1]) ++ List.replicate (3 - (lg_sl ([.ref h0, .int 100, .int k1])).length) Slot.unset).toArray = ls at hl ⊢
  have hl : lv_has ls 3 [(0, .ref h0), (1, .int 100), (2, .int k1)] := hl
  refine lv_aload_n hx hb dX8_init_0 rfl (lv_at hl 0 rfl) ?_
  refine W.objInit hx hb hown (hts (.methodLink RX8 3 objectInit) (by decide +kernel)) (hts (.instanceMethod objectInit) (by decide +kernel)) (hts (.code objectInit ⟨#[0xb1]⟩ 1 none) (by decide +kernel)) rfl (by rw [hml]; exact hl.1) rfl dX8_init_1 (Nat.le_of_ble_eq_true rfl) (Nat.le_of_ble_eq_true rfl) ?_
  refine W.eq (g2 := F0 m 4 ls []) rfl ?_
  refine lv_aload_n hx hb dX8_init_4 rfl (lv_at hl 0 rfl) ?_
  refine lv_iconst (v := (-1)) hx hb dX8_init_5 (by decide) ?_
  refine va_put (D := D) (ci := 13) (v := .int (-1)) (ty := tyX8 4) (C := RX8) (T := TX8) (N := 11) hx hb hts iv_k_X8_init_d_X8 tyX8 tyX8_ok nmX8 hown hK hP hD hS 0 rfl rfl 4 (by decide) (hts (.fieldLink RX8 9 "AnswerFold$Rule" "span" "I") (by decide +kernel)) (fun _ h9 => h9) rfl (by decide +kernel) rfl rfl (Nat.le_of_ble_eq_true rfl) dX8_init_6 (fun H locs hP hD hS => ?_)
  have hP : va_P D vwCl [(h0, .inr (13, [.int 0, .int 0, .int 0, .int 0, .int (-1), .int 0, .int 0, .null, .int 0, .null, .int 0]))] H := hP
  have hD : va_D A [(h0, .inr (13, [.int 0, .int 0, .int 0, .int 0, .int (-1), .int 0, .int 0, .null, .int 0, .null, .int 0]))] := hD
  refine lv_aload_n hx hb dX8_init_9 rfl (lv_at hl 0 rfl) ?_
  refine lv_iconst (v := 2) hx hb dX8_init_10 (by decide) ?_
  refine wq_newq (C := RX4) hx hb hown (hts (.classLink RX8 15 RX4) (by decide +kernel)) (hE.ao (by decide +kernel)) hK hP hD hS hA 5 rfl (n := 2) (N' := 2) (by decide) (by decide) (Nat.le_of_ble_eq_true rfl) (Nat.le_of_ble_eq_true rfl) (Nat.le_of_ble_eq_true rfl) dX8_init_11 (fun q93 H hP hD hS => ?_)
  have hP : va_P D vwCl [(h0, .inr (13, [.int 0, .int 0, .int 0, .int 0, .int (-1), .int 0, .int 0, .null, .int 0, .null, .int 0])), (q93, .inl (ty 5, 2, .inr (.inr (.inr (.inr (fun _ => none))))))] H := hP
  have hD : va_D A [(h0, .inr (13, [.int 0, .int 0, .int 0, .int 0, .int (-1), .int 0, .int 0, .null, .int 0, .null, .int 0])), (q93, .inl (ty 5, 2, .inr (.inr (.inr (.inr (fun _ => none))))))] := hD
  refine W.widen (k := 1) (n := 2) (Nat.le_of_ble_eq_true rfl) (Nat.le_of_ble_eq_true rfl) ?_
  refine va_putF (D := D) (ci := 13) (v := .ref q93) (ty := tyX8 7) (C := RX8) (T := TX8) (N := 11) hx hb hts iv_k_X8_init_d_X8 tyX8 tyX8_ok nmX8 hown hK hP hD hS 0 rfl rfl 7 (by decide) (hts (.fieldLink RX8 17 "AnswerFold$Rule" "heads" "[LAnswerFold$Literal;") (by decide +kernel)) (fun _ h9 => h9) rfl hin rfl (by decide +kernel) rfl rfl (Nat.le_of_ble_eq_true rfl) dX8_init_14 (fun H locs hP hD hS => ?_)
  have hP : va_P D vwCl [(h0, .inr (13, [.int 0, .int 0, .int 0, .int 0, .int (-1), .int 0, .int 0, .ref q93, .int 0, .null, .int 0])), (q93, .inl (ty 5, 2, .inr (.inr (.inr (.inr (fun _ => none))))))] H := hP
  have hD : va_D A [(h0, .inr (13, [.int 0, .int 0, .int 0, .int 0, .int (-1), .int 0, .int 0, .ref q93, .int 0, .null, .int 0])), (q93, .inl (ty 5, 2, .inr (.inr (.inr (.inr (fun _ => none))))))] := hD
  refine lv_aload_n hx hb dX8_init_17 rfl (lv_at hl 0 rfl) ?_
  refine lv_iconst (v := 5) hx hb dX8_init_18 (by decide) ?_
  refine wq_newq (C := RX4) hx hb hown (hts (.classLink RX8 15 RX4) (by decide +kernel)) (hE.ao (by decide +kernel)) hK hP hD hS hA 5 rfl (n := 5) (N' := 5) (by decide) (by decide) (Nat.le_of_ble_eq_true rfl) (Nat.le_of_ble_eq_true rfl) (Nat.le_of_ble_eq_true rfl) dX8_init_19 (fun q94 H hP hD hS => ?_)
  have hP : va_P D vwCl [(h0, .inr (13, [.int 0, .int 0, .int 0, .int 0, .int (-1), .int 0, .int 0, .ref q93, .int 0, .null, .int 0])), (q93, .inl (ty 5, 2, .inr (.inr (.inr (.inr (fun _ => none)))))), (q94, .inl (ty 5, 5, .inr (.inr (.inr (.inr (fun _ => none))))))] H := hP
  have hD : va_D A [(h0, .inr (13, [.int 0, .int 0, .int 0, .int 0, .int (-1), .int 0, .int 0, .ref q93, .int 0, .null, .int 0])), (q93, .inl (ty 5, 2, .inr (.inr (.inr (.inr (fun _ => none)))))), (q94, .inl (ty 5, 5, .inr (.inr (.inr (.inr (fun _ => none))))))] := hD
  refine W.widen (k := 2) (n := 7) (Nat.le_of_ble_eq_true rfl) (Nat.le_of_ble_eq_true rfl) ?_
  refine va_putF (D := D) (ci := 13) (v := .ref q94) (ty := tyX8 9) (C := RX8) (T := TX8) (N := 11) hx hb hts iv_k_X8_init_d_X8 tyX8 tyX8_ok nmX8 hown hK hP hD hS 0 rfl rfl 9 (by decide) (hts (.fieldLink RX8 21 "AnswerFold$Rule" "conditions" "[LAnswerFold$Literal;") (by decide +kernel)) (fun _ h9 => h9) rfl hin rfl (by decide +kernel) rfl rfl (Nat.le_of_ble_eq_true rfl) dX8_init_22 (fun H locs hP hD hS => ?_)
  have hP : va_P D vwCl [(h0, .inr (13, [.int 0, .int 0, .int 0, .int 0, .int (-1), .int 0, .int 0, .ref q93, .int 0, .ref q94, .int 0])), (q93, .inl (ty 5, 2, .inr (.inr (.inr (.inr (fun _ => none)))))), (q94, .inl (ty 5, 5, .inr (.inr (.inr (.inr (fun _ => none))))))] H := hP
  have hD : va_D A [(h0, .inr (13, [.int 0, .int 0, .int 0, .int 0, .int (-1), .int 0, .int 0, .ref q93, .int 0, .ref q94, .int 0])), (q93, .inl (ty 5, 2, .inr (.inr (.inr (.inr (fun _ => none)))))), (q94, .inl (ty 5, 5, .inr (.inr (.inr (.inr (fun _ => none))))))] := hD
  refine lv_aload_n hx hb dX8_init_25 rfl (lv_at hl 0 rfl) ?_
  refine lv_iload_n hx hb dX8_init_26 rfl (lv_at hl 1 rfl) ?_
  refine va_putF (D := D) (ci := 13) (v := .int 100) (ty := tyX8 0) (C := RX8) (T := TX8) (N := 11) hx hb hts iv_k_X8_init_d_X8 tyX8 tyX8_ok nmX8 hown hK hP hD hS 0 rfl rfl 0 (by decide) (hts (.fieldLink RX8 24 "AnswerFold$Rule" "kind" "C") (by decide +kernel)) (fun _ h9 => h9) rfl hin rfl (by decide +kernel) rfl rfl (Nat.le_of_ble_eq_true rfl) dX8_init_27 (fun H locs hP hD hS => ?_)
  have hP : va_P D vwCl [(h0, .inr (13, [.int 100, .int 0, .int 0, .int 0, .int (-1), .int 0, .int 0, .ref q93, .int 0, .ref q94, .int 0])), (q93, .inl (ty 5, 2, .inr (.inr (.inr (.inr (fun _ => none)))))), (q94, .inl (ty 5, 5, .inr (.inr (.inr (.inr (fun _ => none))))))] H := hP
  have hD : va_D A [(h0, .inr (13, [.int 100, .int 0, .int 0, .int 0, .int (-1), .int 0, .int 0, .ref q93, .int 0, .ref q94, .int 0])), (q93, .inl (ty 5, 2, .inr (.inr (.inr (.inr (fun _ => none)))))), (q94, .inl (ty 5, 5, .inr (.inr (.inr (.inr (fun _ => none))))))] := hD
  refine lv_aload_n hx hb dX8_init_30 rfl (lv_at hl 0 rfl) ?_
  refine lv_iload_n hx hb dX8_init_31 rfl (lv_at hl 2 rfl) ?_
  refine va_putF (D := D) (ci := 13) (v := .int k1) (ty := tyX8 1) (C := RX8) (T := TX8) (N := 11) hx hb hts iv_k_X8_init_d_X8 tyX8 tyX8_ok nmX8 hown hK hP hD hS 0 rfl rfl 1 (by decide) (hts (.fieldLink RX8 28 "AnswerFold$Rule" "part" "I") (by decide +kernel)) (fun _ h9 => h9) rfl hin rfl (by decide +kernel) rfl rfl (Nat.le_of_ble_eq_true rfl) dX8_init_32 (fun H locs hP hD hS => ?_)
  have hP : va_P D vwCl [(h0, .inr (13, [.int 100, .int k1, .int 0, .int 0, .int (-1), .int 0, .int 0, .ref q93, .int 0, .ref q94, .int 0])), (q93, .inl (ty 5, 2, .inr (.inr (.inr (.inr (fun _ => none)))))), (q94, .inl (ty 5, 5, .inr (.inr (.inr (.inr (fun _ => none))))))] H := hP
  have hD : va_D A [(h0, .inr (13, [.int 100, .int k1, .int 0, .int 0, .int (-1), .int 0, .int 0, .ref q93, .int 0, .ref q94, .int 0])), (q93, .inl (ty 5, 2, .inr (.inr (.inr (.inr (fun _ => none)))))), (q94, .inl (ty 5, 5, .inr (.inr (.inr (.inr (fun _ => none))))))] := hD
  have hP9 := hP.sub (ws' := [(h0, .inr (13, [.int 100, .int k1, .int 0, .int 0, .int (-1), .int 0, .int 0, .ref q93, .int 0, .ref q94, .int 0])), (q93, .inl (ty 5, 2, .inr (.inr (.inr (.inr (fun _ => none)))))), (q94, .inl (ty 5, 5, .inr (.inr (.inr (.inr (fun _ => none))))))]) [0, 1, 2] rfl
  have hD9 := hD.sub (ws' := [(h0, .inr (13, [.int 100, .int k1, .int 0, .int 0, .int (-1), .int 0, .int 0, .ref q93, .int 0, .ref q94, .int 0])), (q93, .inl (ty 5, 2, .inr (.inr (.inr (.inr (fun _ => none)))))), (q94, .inl (ty 5, 5, .inr (.inr (.inr (.inr (fun _ => none))))))]) [0, 1, 2] (by decide) rfl
  refine W.widen (k := 2) (n := 7) (Nat.le_of_ble_eq_true rfl) (Nat.le_of_ble_eq_true rfl) ?_
  exact W.vret hx hb hr (fun t ht hW => ⟨⟨[(h0, .inr (13, [.int 100, .int k1, .int 0, .int 0, .int (-1), .int 0, .int 0, .ref q93, .int 0, .ref q94, .int 0])), (q93, .inl (ty 5, 2, .inr (.inr (.inr (.inr (fun _ => none)))))), (q94, .inl (ty 5, 5, .inr (.inr (.inr (.inr (fun _ => none))))))], rfl, ⟨q93, q94, rfl⟩, wq_B.of ht hP9 hD9⟩, hS.F ht⟩) hS.2.2 dX8_init_35
def vs_k_X8_init_c : List Cond := .code yX8_init cX8_init 3 none :: ([.methodLink RX8 3 objectInit, .instanceMethod objectInit, .code objectInit ⟨#[0xb1]⟩ 1 none, .fieldLink RX8 9 "AnswerFold$Rule" "span" "I", .classLink RX8 15 RX4, .fieldLink RX8 17 "AnswerFold$Rule" "heads" "[LAnswerFold$Literal;", .fieldLink RX8 21 "AnswerFold$Rule" "conditions" "[LAnswerFold$Literal;", .fieldLink RX8 24 "AnswerFold$Rule" "kind" "C", .fieldLink RX8 28 "AnswerFold$Rule" "part" "I"] ++ (u_ws RX8 TX8 11))
theorem iv_k_X8_init_c_X8 : ∀ w ∈ u_ws RX8 TX8 11, w ∈ vs_k_X8_init_c := (fun _ h => List.mem_cons_of_mem _ (List.mem_append_right _ (h)))
set_option maxHeartbeats 4000000 in
set_option maxRecDepth 100000 in
theorem k_X8_init_c (l : Launch) (D : va_G) (ty : Nat → ClassId) (td mi sz : Nat) (h0 : Nat) (k1 : Int32) : Met l yX8_init vs_k_X8_init_c { frames := 1, cells := 2, slots := 7, locals := 12 } (va_Pc [.ref h0, .int 99, .int k1] (wq_P D ty td mi [(h0, .inr (13, [.int 0, .int 0, .int 0, .int 0, .int 0, .int 0, .int 0, .null, .int 0, .null, .int 0]))] sz)) (va_Qv (fun u : va_W => (∃ (q95 : Nat) (q96 : Nat), (u = [(h0, .inr (13, [.int 99, .int k1, .int 0, .int 0, .int (-1), .int 0, .int 0, .ref q95, .int 0, .ref q96, .int 0])), (q95, .inl (ty 5, 2, .inr (.inr (.inr (.inr (fun _ => none)))))), (q96, .inl (ty 5, 5, .inr (.inr (.inr (.inr (fun _ => none))))))]))) (wq_B D (va_A [(h0, .inr (13, [.int 0, .int 0, .int 0, .int 0, .int 0, .int 0, .int 0, .null, .int 0, .null, .int 0]))] sz)) (va_A [(h0, .inr (13, [.int 0, .int 0, .int 0, .int 0, .int 0, .int 0, .int 0, .null, .int 0, .null, .int 0]))] sz)) 2 7 (va_A [(h0, .inr (13, [.int 0, .int 0, .int 0, .int 0, .int 0, .int 0, .int 0, .null, .int 0, .null, .int 0]))] sz) := by
  refine Met.ofW (cc := cX8_init) (maxL := 3) (ret := none) (by decide) rfl ?_
  intro p e s m args below meth c s₁ B hml hv
  obtain ⟨rfl, hsz, hP, hK, hD0, hE⟩ := hv
  have hx := B.exec
  have hb := B.bytes
  have hr := B.returns
  have hts := atoms_spec (ws := vs_k_X8_init_c) B.pre
  have hown : s.vm.findClass RX8 = some m.cls := findClass_of_methodNamed B.named
  have hlocks := B.notSynchronized
  have hin : meth.name = "<init>" := (name_of_methodNamed B.named B.method).1
  subst hsz
  have hD := hD0.self (sz := s.heap.size)
  generalize hAe : va_A [(h0, .inr (13, [.int 0, .int 0, .int 0, .int 0, .int 0, .int 0, .int 0, .null, .int 0, .null, .int 0]))] s.heap.size = A at hD hE ⊢
  have hA : ∀ q : Nat, s.heap.size ≤ q → A q := fun q h => by rw [← hAe]; exact Or.inr h
  have hS : va_S A s.heap s.heap [] := va_S.rf
  have hP : va_P D vwCl [(h0, .inr (13, [.int 0, .int 0, .int 0, .int 0, .int 0, .int 0, .int 0, .null, .int 0, .null, .int 0]))] s.heap := hP
  have hl := lv_entry ([.ref h0, .int 99, .int k1]) (n := 3) (Nat.le_of_ble_eq_true rfl)
  rw [lg_entry_eq]
  generalize (lg_sl ([.ref h0, .int 99, .int k1]) ++ List.replicate (3 - (lg_sl ([.ref h0, .int 99, .int k1])).length) Slot.unset).toArray = ls at hl ⊢
  have hl : lv_has ls 3 [(0, .ref h0), (1, .int 99), (2, .int k1)] := hl
  refine lv_aload_n hx hb dX8_init_0 rfl (lv_at hl 0 rfl) ?_
  refine W.objInit hx hb hown (hts (.methodLink RX8 3 objectInit) (by decide +kernel)) (hts (.instanceMethod objectInit) (by decide +kernel)) (hts (.code objectInit ⟨#[0xb1]⟩ 1 none) (by decide +kernel)) rfl (by rw [hml]; exact hl.1) rfl dX8_init_1 (Nat.le_of_ble_eq_true rfl) (Nat.le_of_ble_eq_true rfl) ?_
  refine W.eq (g2 := F0 m 4 ls []) rfl ?_
  refine lv_aload_n hx hb dX8_init_4 rfl (lv_at hl 0 rfl) ?_
  refine lv_iconst (v := (-1)) hx hb dX8_init_5 (by decide) ?_
  refine va_put (D := D) (ci := 13) (v := .int (-1)) (ty := tyX8 4) (C := RX8) (T := TX8) (N := 11) hx hb hts iv_k_X8_init_c_X8 tyX8 tyX8_ok nmX8 hown hK hP hD hS 0 rfl rfl 4 (by decide) (hts (.fieldLink RX8 9 "AnswerFold$Rule" "span" "I") (by decide +kernel)) (fun _ h9 => h9) rfl (by decide +kernel) rfl rfl (Nat.le_of_ble_eq_true rfl) dX8_init_6 (fun H locs hP hD hS => ?_)
  have hP : va_P D vwCl [(h0, .inr (13, [.int 0, .int 0, .int 0, .int 0, .int (-1), .int 0, .int 0, .null, .int 0, .null, .int 0]))] H := hP
  have hD : va_D A [(h0, .inr (13, [.int 0, .int 0, .int 0, .int 0, .int (-1), .int 0, .int 0, .null, .int 0, .null, .int 0]))] := hD
  refine lv_aload_n hx hb dX8_init_9 rfl (lv_at hl 0 rfl) ?_
  refine lv_iconst (v := 2) hx hb dX8_init_10 (by decide) ?_
  refine wq_newq (C := RX4) hx hb hown (hts (.classLink RX8 15 RX4) (by decide +kernel)) (hE.ao (by decide +kernel)) hK hP hD hS hA 5 rfl (n := 2) (N' := 2) (by decide) (by decide) (Nat.le_of_ble_eq_true rfl) (Nat.le_of_ble_eq_true rfl) (Nat.le_of_ble_eq_true rfl) dX8_init_11 (fun q95 H hP hD hS => ?_)
  have hP : va_P D vwCl [(h0, .inr (13, [.int 0, .int 0, .int 0, .int 0, .int (-1), .int 0, .int 0, .null, .int 0, .null, .int 0])), (q95, .inl (ty 5, 2, .inr (.inr (.inr (.inr (fun _ => none))))))] H := hP
  have hD : va_D A [(h0, .inr (13, [.int 0, .int 0, .int 0, .int 0, .int (-1), .int 0, .int 0, .null, .int 0, .null, .int 0])), (q95, .inl (ty 5, 2, .inr (.inr (.inr (.inr (fun _ => none))))))] := hD
  refine W.widen (k := 1) (n := 2) (Nat.le_of_ble_eq_true rfl) (Nat.le_of_ble_eq_true rfl) ?_
  refine va_putF (D := D) (ci := 13) (v := .ref q95) (ty := tyX8 7) (C := RX8) (T := TX8) (N := 11) hx hb hts iv_k_X8_init_c_X8 tyX8 tyX8_ok nmX8 hown hK hP hD hS 0 rfl rfl 7 (by decide) (hts (.fieldLink RX8 17 "AnswerFold$Rule" "heads" "[LAnswerFold$Literal;") (by decide +kernel)) (fun _ h9 => h9) rfl hin rfl (by decide +kernel) rfl rfl (Nat.le_of_ble_eq_true rfl) dX8_init_14 (fun H locs hP hD hS => ?_)
  have hP : va_P D vwCl [(h0, .inr (13, [.int 0, .int 0, .int 0, .int 0, .int (-1), .int 0, .int 0, .ref q95, .int 0, .null, .int 0])), (q95, .inl (ty 5, 2, .inr (.inr (.inr (.inr (fun _ => none))))))] H := hP
  have hD : va_D A [(h0, .inr (13, [.int 0, .int 0, .int 0, .int 0, .int (-1), .int 0, .int 0, .ref q95, .int 0, .null, .int 0])), (q95, .inl (ty 5, 2, .inr (.inr (.inr (.inr (fun _ => none))))))] := hD
  refine lv_aload_n hx hb dX8_init_17 rfl (lv_at hl 0 rfl) ?_
  refine lv_iconst (v := 5) hx hb dX8_init_18 (by decide) ?_
  refine wq_newq (C := RX4) hx hb hown (hts (.classLink RX8 15 RX4) (by decide +kernel)) (hE.ao (by decide +kernel)) hK hP hD hS hA 5 rfl (n := 5) (N' := 5) (by decide) (by decide) (Nat.le_of_ble_eq_true rfl) (Nat.le_of_ble_eq_true rfl) (Nat.le_of_ble_eq_true rfl) dX8_init_19 (fun q96 H hP hD hS => ?_)
  have hP : va_P D vwCl [(h0, .inr (13, [.int 0, .int 0, .int 0, .int 0, .int (-1), .int 0, .int 0, .ref q95, .int 0, .null, .int 0])), (q95, .inl (ty 5, 2, .inr (.inr (.inr (.inr (fun _ => none)))))), (q96, .inl (ty 5, 5, .inr (.inr (.inr (.inr (fun _ => none))))))] H := hP
  have hD : va_D A [(h0, .inr (13, [.int 0, .int 0, .int 0, .int 0, .int (-1), .int 0, .int 0, .ref q95, .int 0, .null, .int 0])), (q95, .inl (ty 5, 2, .inr (.inr (.inr (.inr (fun _ => none)))))), (q96, .inl (ty 5, 5, .inr (.inr (.inr (.inr (fun _ => none))))))] := hD
  refine W.widen (k := 2) (n := 7) (Nat.le_of_ble_eq_true rfl) (Nat.le_of_ble_eq_true rfl) ?_
  refine va_putF (D := D) (ci := 13) (v := .ref q96) (ty := tyX8 9) (C := RX8) (T := TX8) (N := 11) hx hb hts iv_k_X8_init_c_X8 tyX8 tyX8_ok nmX8 hown hK hP hD hS 0 rfl rfl 9 (by decide) (hts (.fieldLink RX8 21 "AnswerFold$Rule" "conditions" "[LAnswerFold$Literal;") (by decide +kernel)) (fun _ h9 => h9) rfl hin rfl (by decide +kernel) rfl rfl (Nat.le_of_ble_eq_true rfl) dX8_init_22 (fun H locs hP hD hS => ?_)
  have hP : va_P D vwCl [(h0, .inr (13, [.int 0, .int 0, .int 0, .int 0, .int (-1), .int 0, .int 0, .ref q95, .int 0, .ref q96, .int 0])), (q95, .inl (ty 5, 2, .inr (.inr (.inr (.inr (fun _ => none)))))), (q96, .inl (ty 5, 5, .inr (.inr (.inr (.inr (fun _ => none))))))] H := hP
  have hD : va_D A [(h0, .inr (13, [.int 0, .int 0, .int 0, .int 0, .int (-1), .int 0, .int 0, .ref q95, .int 0, .ref q96, .int 0])), (q95, .inl (ty 5, 2, .inr (.inr (.inr (.inr (fun _ => none)))))), (q96, .inl (ty 5, 5, .inr (.inr (.inr (.inr (fun _ => none))))))] := hD
  refine lv_aload_n hx hb dX8_init_25 rfl (lv_at hl 0 rfl) ?_
  refine lv_iload_n hx hb dX8_init_26 rfl (lv_at hl 1 rfl) ?_
  refine va_putF (D := D) (ci := 13) (v := .int 99) (ty := tyX8 0) (C := RX8) (T := TX8) (N := 11) hx hb hts iv_k_X8_init_c_X8 tyX8 tyX8_ok nmX8 hown hK hP hD hS 0 rfl rfl 0 (by decide) (hts (.fieldLink RX8 24 "AnswerFold$Rule" "kind" "C") (by decide +kernel)) (fun _ h9 => h9) rfl hin rfl (by decide +kernel) rfl rfl (Nat.le_of_ble_eq_true rfl) dX8_init_27 (fun H locs hP hD hS => ?_)
  have hP : va_P D vwCl [(h0, .inr (13, [.int 99, .int 0, .int 0, .int 0, .int (-1), .int 0, .int 0, .ref q95, .int 0, .ref q96, .int 0])), (q95, .inl (ty 5, 2, .inr (.inr (.inr (.inr (fun _ => none)))))), (q96, .inl (ty 5, 5, .inr (.inr (.inr (.inr (fun _ => none))))))] H := hP
  have hD : va_D A [(h0, .inr (13, [.int 99, .int 0, .int 0, .int 0, .int (-1), .int 0, .int 0, .ref q95, .int 0, .ref q96, .int 0])), (q95, .inl (ty 5, 2, .inr (.inr (.inr (.inr (fun _ => none)))))), (q96, .inl (ty 5, 5, .inr (.inr (.inr (.inr (fun _ => none))))))] := hD
  refine lv_aload_n hx hb dX8_init_30 rfl (lv_at hl 0 rfl) ?_
  refine lv_iload_n hx hb dX8_init_31 rfl (lv_at hl 2 rfl) ?_
  refine va_putF (D := D) (ci := 13) (v := .int k1) (ty := tyX8 1) (C := RX8) (T := TX8) (N := 11) hx hb hts iv_k_X8_init_c_X8 tyX8 tyX8_ok nmX8 hown hK hP hD hS 0 rfl rfl 1 (by decide) (hts (.fieldLink RX8 28 "AnswerFold$Rule" "part" "I") (by decide +kernel)) (fun _ h9 => h9) rfl hin rfl (by decide +kernel) rfl rfl (Nat.le_of_ble_eq_true rfl) dX8_init_32 (fun H locs hP hD hS => ?_)
  have hP : va_P D vwCl [(h0, .inr (13, [.int 99, .int k1, .int 0, .int 0, .int (-1), .int 0, .int 0, .ref q95, .int 0, .ref q96, .int 0])), (q95, .inl (ty 5, 2, .inr (.inr (.inr (.inr (fun _ => none)))))), (q96, .inl (ty 5, 5, .inr (.inr (.inr (.inr (fun _ => none))))))] H := hP
  have hD : va_D A [(h0, .inr (13, [.int 99, .int k1, .int 0, .int 0, .int (-1), .int 0, .int 0, .ref q95, .int 0, .ref q96, .int 0])), (q95, .inl (ty 5, 2, .inr (.inr (.inr (.inr (fun _ => none)))))), (q96, .inl (ty 5, 5, .inr (.inr (.inr (.inr (fun _ => none))))))] := hD
  have hP9 := hP.sub (ws' := [(h0, .inr (13, [.int 99, .int k1, .int 0, .int 0, .int (-1), .int 0, .int 0, .ref q95, .int 0, .ref q96, .int 0])), (q95, .inl (ty 5, 2, .inr (.inr (.inr (.inr (fun _ => none)))))), (q96, .inl (ty 5, 5, .inr (.inr (.inr (.inr (fun _ => none))))))]) [0, 1, 2] rfl
  have hD9 := hD.sub (ws' := [(h0, .inr (13, [.int 99, .int k1, .int 0, .int 0, .int (-1), .int 0, .int 0, .ref q95, .int 0, .ref q96, .int 0])), (q95, .inl (ty 5, 2, .inr (.inr (.inr (.inr (fun _ => none)))))), (q96, .inl (ty 5, 5, .inr (.inr (.inr (.inr (fun _ => none))))))]) [0, 1, 2] (by decide) rfl
  refine W.widen (k := 2) (n := 7) (Nat.le_of_ble_eq_true rfl) (Nat.le_of_ble_eq_true rfl) ?_
  exact W.vret hx hb hr (fun t ht hW => ⟨⟨[(h0, .inr (13, [.int 99, .int k1, .int 0, .int 0, .int (-1), .int 0, .int 0, .ref q95, .int 0, .ref q96, .int 0])), (q95, .inl (ty 5, 2, .inr (.inr (.inr (.inr (fun _ => none)))))), (q96, .inl (ty 5, 5, .inr (.inr (.inr (.inr (fun _ => none))))))], rfl, ⟨q95, q96, rfl⟩, wq_B.of ht hP9 hD9⟩, hS.F ht⟩) hS.2.2 dX8_init_35
def vs_k_X8_init_w : List Cond := .code yX8_init cX8_init 3 none :: ([.methodLink RX8 3 objectInit, .instanceMethod objectInit, .code objectInit ⟨#[0xb1]⟩ 1 none, .fieldLink RX8 9 "AnswerFold$Rule" "span" "I", .classLink RX8 15 RX4, .fieldLink RX8 17 "AnswerFold$Rule" "heads" "[LAnswerFold$Literal;", .fieldLink RX8 21 "AnswerFold$Rule" "conditions" "[LAnswerFold$Literal;", .fieldLink RX8 24 "AnswerFold$Rule" "kind" "C", .fieldLink RX8 28 "AnswerFold$Rule" "part" "I"] ++ (u_ws RX8 TX8 11))
theorem iv_k_X8_init_w_X8 : ∀ w ∈ u_ws RX8 TX8 11, w ∈ vs_k_X8_init_w := (fun _ h => List.mem_cons_of_mem _ (List.mem_append_right _ (h)))
set_option maxHeartbeats 4000000 in
set_option maxRecDepth 100000 in
theorem k_X8_init_w (l : Launch) (D : va_G) (ty : Nat → ClassId) (td mi sz : Nat) (h0 : Nat) (k1 : Int32) : Met l yX8_init vs_k_X8_init_w { frames := 1, cells := 2, slots := 7, locals := 12 } (va_Pc [.ref h0, .int 119, .int k1] (wq_P D ty td mi [(h0, .inr (13, [.int 0, .int 0, .int 0, .int 0, .int 0, .int 0, .int 0, .null, .int 0, .null, .int 0]))] sz)) (va_Qv (fun u : va_W => (∃ (q97 : Nat) (q98 : Nat), (u = [(h0, .inr (13, [.int 119, .int k1, .int 0, .int 0, .int (-1), .int 0, .int 0, .ref q97, .int 0, .ref q98, .int 0])), (q97, .inl (ty 5, 2, .inr (.inr (.inr (.inr (fun _ => none)))))), (q98, .inl (ty 5, 5, .inr (.inr (.inr (.inr (fun _ => none))))))]))) (wq_B D (va_A [(h0, .inr (13, [.int 0, .int 0, .int 0, .int 0, .int 0, .int 0, .int 0, .null, .int 0, .null, .int 0]))] sz)) (va_A [(h0, .inr (13, [.int 0, .int 0, .int 0, .int 0, .int 0, .int 0, .int 0, .null, .int 0, .null, .int 0]))] sz)) 2 7 (va_A [(h0, .inr (13, [.int 0, .int 0, .int 0, .int 0, .int 0, .int 0, .int 0, .null, .int 0, .null, .int 0]))] sz) := by
  refine Met.ofW (cc := cX8_init) (maxL := 3) (ret := none) (by decide) rfl ?_
  intro p e s m args below meth c s₁ B hml hv
  obtain ⟨rfl, hsz, hP, hK, hD0, hE⟩ := hv
  have hx := B.exec
  have hb := B.bytes
  have hr := B.returns
  have hts := atoms_spec (ws := vs_k_X8_init_w) B.pre
  have hown : s.vm.findClass RX8 = some m.cls := findClass_of_methodNamed B.named
  have hlocks := B.notSynchronized
  have hin : meth.name = "<init>" := (name_of_methodNamed B.named B.method).1
  subst hsz
  have hD := hD0.self (sz := s.heap.size)
  generalize hAe : va_A [(h0, .inr (13, [.int 0, .int 0, .int 0, .int 0, .int 0, .int 0, .int 0, .null, .int 0, .null, .int 0]))] s.heap.size = A at hD hE ⊢
  have hA : ∀ q : Nat, s.heap.size ≤ q → A q := fun q h => by rw [← hAe]; exact Or.inr h
  have hS : va_S A s.heap s.heap [] := va_S.rf
  have hP : va_P D vwCl [(h0, .inr (13, [.int 0, .int 0, .int 0, .int 0, .int 0, .int 0, .int 0, .null, .int 0, .null, .int 0]))] s.heap := hP
  have hl := lv_entry ([.ref h0, .int 119, .int k1]) (n := 3) (Nat.le_of_ble_eq_true rfl)
  rw [lg_entry_eq]
  generalize (lg_sl ([.ref h0, .int 119, .int k1]) ++ List.replicate (3 - (lg_sl ([.ref h0, .int 119, .int k1])).length) Slot.unset).toArray = ls at hl ⊢
  have hl : lv_has ls 3 [(0, .ref h0), (1, .int 119), (2, .int k1)] := hl
  refine lv_aload_n hx hb dX8_init_0 rfl (lv_at hl 0 rfl) ?_
  refine W.objInit hx hb hown (hts (.methodLink RX8 3 objectInit) (by decide +kernel)) (hts (.instanceMethod objectInit) (by decide +kernel)) (hts (.code objectInit ⟨#[0xb1]⟩ 1 none) (by decide +kernel)) rfl (by rw [hml]; exact hl.1) rfl dX8_init_1 (Nat.le_of_ble_eq_true rfl) (Nat.le_of_ble_eq_true rfl) ?_
  refine W.eq (g2 := F0 m 4 ls []) rfl ?_
  refine lv_aload_n hx hb dX8_init_4 rfl (lv_at hl 0 rfl) ?_
  refine lv_iconst (v := (-1)) hx hb dX8_init_5 (by decide) ?_
  refine va_put (D := D) (ci := 13) (v := .int (-1)) (ty := tyX8 4) (C := RX8) (T := TX8) (N := 11) hx hb hts iv_k_X8_init_w_X8 tyX8 tyX8_ok nmX8 hown hK hP hD hS 0 rfl rfl 4 (by decide) (hts (.fieldLink RX8 9 "AnswerFold$Rule" "span" "I") (by decide +kernel)) (fun _ h9 => h9) rfl (by decide +kernel) rfl rfl (Nat.le_of_ble_eq_true rfl) dX8_init_6 (fun H locs hP hD hS => ?_)
  have hP : va_P D vwCl [(h0, .inr (13, [.int 0, .int 0, .int 0, .int 0, .int (-1), .int 0, .int 0, .null, .int 0, .null, .int 0]))] H := hP
  have hD : va_D A [(h0, .inr (13, [.int 0, .int 0, .int 0, .int 0, .int (-1), .int 0, .int 0, .null, .int 0, .null, .int 0]))] := hD
  refine lv_aload_n hx hb dX8_init_9 rfl (lv_at hl 0 rfl) ?_
  refine lv_iconst (v := 2) hx hb dX8_init_10 (by decide) ?_
  refine wq_newq (C := RX4) hx hb hown (hts (.classLink RX8 15 RX4) (by decide +kernel)) (hE.ao (by decide +kernel)) hK hP hD hS hA 5 rfl (n := 2) (N' := 2) (by decide) (by decide) (Nat.le_of_ble_eq_true rfl) (Nat.le_of_ble_eq_true rfl) (Nat.le_of_ble_eq_true rfl) dX8_init_11 (fun q97 H hP hD hS => ?_)
  have hP : va_P D vwCl [(h0, .inr (13, [.int 0, .int 0, .int 0, .int 0, .int (-1), .int 0, .int 0, .null, .int 0, .null, .int 0])), (q97, .inl (ty 5, 2, .inr (.inr (.inr (.inr (fun _ => none))))))] H := hP
  have hD : va_D A [(h0, .inr (13, [.int 0, .int 0, .int 0, .int 0, .int (-1), .int 0, .int 0, .null, .int 0, .null, .int 0])), (q97, .inl (ty 5, 2, .inr (.inr (.inr (.inr (fun _ => none))))))] := hD
  refine W.widen (k := 1) (n := 2) (Nat.le_of_ble_eq_true rfl) (Nat.le_of_ble_eq_true rfl) ?_
  refine va_putF (D := D) (ci := 13) (v := .ref q97) (ty := tyX8 7) (C := RX8) (T := TX8) (N := 11) hx hb hts iv_k_X8_init_w_X8 tyX8 tyX8_ok nmX8 hown hK hP hD hS 0 rfl rfl 7 (by decide) (hts (.fieldLink RX8 17 "AnswerFold$Rule" "heads" "[LAnswerFold$Literal;") (by decide +kernel)) (fun _ h9 => h9) rfl hin rfl (by decide +kernel) rfl rfl (Nat.le_of_ble_eq_true rfl) dX8_init_14 (fun H locs hP hD hS => ?_)
  have hP : va_P D vwCl [(h0, .inr (13, [.int 0, .int 0, .int 0, .int 0, .int (-1), .int 0, .int 0, .ref q97, .int 0, .null, .int 0])), (q97, .inl (ty 5, 2, .inr (.inr (.inr (.inr (fun _ => none))))))] H := hP
  have hD : va_D A [(h0, .inr (13, [.int 0, .int 0, .int 0, .int 0, .int (-1), .int 0, .int 0, .ref q97, .int 0, .null, .int 0])), (q97, .inl (ty 5, 2, .inr (.inr (.inr (.inr (fun _ => none))))))] := hD
  refine lv_aload_n hx hb dX8_init_17 rfl (lv_at hl 0 rfl) ?_
  refine lv_iconst (v := 5) hx hb dX8_init_18 (by decide) ?_
  refine wq_newq (C := RX4) hx hb hown (hts (.classLink RX8 15 RX4) (by decide +kernel)) (hE.ao (by decide +kernel)) hK hP hD hS hA 5 rfl (n := 5) (N' := 5) (by decide) (by decide) (Nat.le_of_ble_eq_true rfl) (Nat.le_of_ble_eq_true rfl) (Nat.le_of_ble_eq_true rfl) dX8_init_19 (fun q98 H hP hD hS => ?_)
  have hP : va_P D vwCl [(h0, .inr (13, [.int 0, .int 0, .int 0, .int 0, .int (-1), .int 0, .int 0, .ref q97, .int 0, .null, .int 0])), (q97, .inl (ty 5, 2, .inr (.inr (.inr (.inr (fun _ => none)))))), (q98, .inl (ty 5, 5, .inr (.inr (.inr (.inr (fun _ => none))))))] H := hP
  have hD : va_D A [(h0, .inr (13, [.int 0, .int 0, .int 0, .int 0, .int (-1), .int 0, .int 0, .ref q97, .int 0, .null, .int 0])), (q97, .inl (ty 5, 2, .inr (.inr (.inr (.inr (fun _ => none)))))), (q98, .inl (ty 5, 5, .inr (.inr (.inr (.inr (fun _ => none))))))] := hD
  refine W.widen (k := 2) (n := 7) (Nat.le_of_ble_eq_true rfl) (Nat.le_of_ble_eq_true rfl) ?_
  refine va_putF (D := D) (ci := 13) (v := .ref q98) (ty := tyX8 9) (C := RX8) (T := TX8) (N := 11) hx hb hts iv_k_X8_init_w_X8 tyX8 tyX8_ok nmX8 hown hK hP hD hS 0 rfl rfl 9 (by decide) (hts (.fieldLink RX8 21 "AnswerFold$Rule" "conditions" "[LAnswerFold$Literal;") (by decide +kernel)) (fun _ h9 => h9) rfl hin rfl (by decide +kernel) rfl rfl (Nat.le_of_ble_eq_true rfl) dX8_init_22 (fun H locs hP hD hS => ?_)
  have hP : va_P D vwCl [(h0, .inr (13, [.int 0, .int 0, .int 0, .int 0, .int (-1), .int 0, .int 0, .ref q97, .int 0, .ref q98, .int 0])), (q97, .inl (ty 5, 2, .inr (.inr (.inr (.inr (fun _ => none)))))), (q98, .inl (ty 5, 5, .inr (.inr (.inr (.inr (fun _ => none))))))] H := hP
  have hD : va_D A [(h0, .inr (13, [.int 0, .int 0, .int 0, .int 0, .int (-1), .int 0, .int 0, .ref q97, .int 0, .ref q98, .int 0])), (q97, .inl (ty 5, 2, .inr (.inr (.inr (.inr (fun _ => none)))))), (q98, .inl (ty 5, 5, .inr (.inr (.inr (.inr (fun _ => none))))))] := hD
  refine lv_aload_n hx hb dX8_init_25 rfl (lv_at hl 0 rfl) ?_
  refine lv_iload_n hx hb dX8_init_26 rfl (lv_at hl 1 rfl) ?_
  refine va_putF (D := D) (ci := 13) (v := .int 119) (ty := tyX8 0) (C := RX8) (T := TX8) (N := 11) hx hb hts iv_k_X8_init_w_X8 tyX8 tyX8_ok nmX8 hown hK hP hD hS 0 rfl rfl 0 (by decide) (hts (.fieldLink RX8 24 "AnswerFold$Rule" "kind" "C") (by decide +kernel)) (fun _ h9 => h9) rfl hin rfl (by decide +kernel) rfl rfl (Nat.le_of_ble_eq_true rfl) dX8_init_27 (fun H locs hP hD hS => ?_)
  have hP : va_P D vwCl [(h0, .inr (13, [.int 119, .int 0, .int 0, .int 0, .int (-1), .int 0, .int 0, .ref q97, .int 0, .ref q98, .int 0])), (q97, .inl (ty 5, 2, .inr (.inr (.inr (.inr (fun _ => none)))))), (q98, .inl (ty 5, 5, .inr (.inr (.inr (.inr (fun _ => none))))))] H := hP
  have hD : va_D A [(h0, .inr (13, [.int 119, .int 0, .int 0, .int 0, .int (-1), .int 0, .int 0, .ref q97, .int 0, .ref q98, .int 0])), (q97, .inl (ty 5, 2, .inr (.inr (.inr (.inr (fun _ => none)))))), (q98, .inl (ty 5, 5, .inr (.inr (.inr (.inr (fun _ => none))))))] := hD
  refine lv_aload_n hx hb dX8_init_30 rfl (lv_at hl 0 rfl) ?_
  refine lv_iload_n hx hb dX8_init_31 rfl (lv_at hl 2 rfl) ?_
  refine va_putF (D := D) (ci := 13) (v := .int k1) (ty := tyX8 1) (C := RX8) (T := TX8) (N := 11) hx hb hts iv_k_X8_init_w_X8 tyX8 tyX8_ok nmX8 hown hK hP hD hS 0 rfl rfl 1 (by decide) (hts (.fieldLink RX8 28 "AnswerFold$Rule" "part" "I") (by decide +kernel)) (fun _ h9 => h9) rfl hin rfl (by decide +kernel) rfl rfl (Nat.le_of_ble_eq_true rfl) dX8_init_32 (fun H locs hP hD hS => ?_)
  have hP : va_P D vwCl [(h0, .inr (13, [.int 119, .int k1, .int 0, .int 0, .int (-1), .int 0, .int 0, .ref q97, .int 0, .ref q98, .int 0])), (q97, .inl (ty 5, 2, .inr (.inr (.inr (.inr (fun _ => none)))))), (q98, .inl (ty 5, 5, .inr (.inr (.inr (.inr (fun _ => none))))))] H := hP
  have hD : va_D A [(h0, .inr (13, [.int 119, .int k1, .int 0, .int 0, .int (-1), .int 0, .int 0, .ref q97, .int 0, .ref q98, .int 0])), (q97, .inl (ty 5, 2, .inr (.inr (.inr (.inr (fun _ => none)))))), (q98, .inl (ty 5, 5, .inr (.inr (.inr (.inr (fun _ => none))))))] := hD
  have hP9 := hP.sub (ws' := [(h0, .inr (13, [.int 119, .int k1, .int 0, .int 0, .int (-1), .int 0, .int 0, .ref q97, .int 0, .ref q98, .int 0])), (q97, .inl (ty 5, 2, .inr (.inr (.inr (.inr (fun _ => none)))))), (q98, .inl (ty 5, 5, .inr (.inr (.inr (.inr (fun _ => none))))))]) [0, 1, 2] rfl
  have hD9 := hD.sub (ws' := [(h0, .inr (13, [.int 119, .int k1, .int 0, .int 0, .int (-1), .int 0, .int 0, .ref q97, .int 0, .ref q98, .int 0])), (q97, .inl (ty 5, 2, .inr (.inr (.inr (.inr (fun _ => none)))))), (q98, .inl (ty 5, 5, .inr (.inr (.inr (.inr (fun _ => none))))))]) [0, 1, 2] (by decide) rfl
  refine W.widen (k := 2) (n := 7) (Nat.le_of_ble_eq_true rfl) (Nat.le_of_ble_eq_true rfl) ?_
  exact W.vret hx hb hr (fun t ht hW => ⟨⟨[(h0, .inr (13, [.int 119, .int k1, .int 0, .int 0, .int (-1), .int 0, .int 0, .ref q97, .int 0, .ref q98, .int 0])), (q97, .inl (ty 5, 2, .inr (.inr (.inr (.inr (fun _ => none)))))), (q98, .inl (ty 5, 5, .inr (.inr (.inr (.inr (fun _ => none))))))], rfl, ⟨q97, q98, rfl⟩, wq_B.of ht hP9 hD9⟩, hS.F ht⟩) hS.2.2 dX8_init_35
def vs_k_X6_tellRule : List Cond := .code yX6_tellRule cX6_tellRule 2 (some .int) :: ([.fieldLink RX6 45 "AnswerFold$Program" "ruleCount" "I", .fieldLink RX6 17 "AnswerFold$Program" "rules" "[LAnswerFold$Rule;"] ++ (u_ws RX6 TX6 10))
theorem iv_k_X6_tellRule_X6 : ∀ w ∈ u_ws RX6 TX6 10, w ∈ vs_k_X6_tellRule := (fun _ h => List.mem_cons_of_mem _ (List.mem_append_right _ (h)))
set_option maxHeartbeats 4000000 in
set_option maxRecDepth 100000 in
theorem k_X6_tellRule (l : Launch) (D : va_G) (ty : Nat → ClassId) (td mi sz : Nat) (x1 : Nat) (x2 : Nat) (x3 : Nat) (x4 : Nat) (x5 : Nat) (x6 : Nat) (x7 : Nat) (h1 : Nat) (f7 : Nat) (f9 : Nat) (f0 : Int32) (f1 : Int32) (f2 : Int32) (f3 : Int32) (f4 : Int32) (f5 : Int32) (f6 : Int32) (f7 : Nat) (f8 : Int32) (f9 : Nat) (f10 : Int32) : Met l yX6_tellRule vs_k_X6_tellRule { frames := 0, cells := 0, slots := 0, locals := 0 } (va_Pc [.ref x1, .ref h1] (wq_P D ty td mi [(x1, .inr (11, [.ref x2, .int 0, .ref x3, .int 0, .ref x4, .ref x5, .int 1, .ref x6, .ref x7, .int 0])), (x3, .inl (ty 4, 20, .inr (.inr (.inr (.inr (fun _ => none)))))), (h1, .inr (13, [.int f0, .int f1, .int f2, .int f3, .int f4, .int f5, .int f6, .ref f7, .int f8, .ref f9, .int f10]))] sz)) (va_Qi (fun (r : Int32) (u : va_W) => (r = 0 ∧ (u = []))) (wq_B D (va_A [(x1, .inr (11, [.ref x2, .int 0, .ref x3, .int 0, .ref x4, .ref x5, .int 1, .ref x6, .ref x7, .int 0])), (x3, .inl (ty 4, 20, .inr (.inr (.inr (.inr (fun _ => none)))))), (h1, .inr (13, [.int f0, .int f1, .int f2, .int f3, .int f4, .int f5, .int f6, .ref f7, .int f8, .ref f9, .int f10]))] sz)) (va_A [(x1, .inr (11, [.ref x2, .int 0, .ref x3, .int 0, .ref x4, .ref x5, .int 1, .ref x6, .ref x7, .int 0])), (x3, .inl (ty 4, 20, .inr (.inr (.inr (.inr (fun _ => none)))))), (h1, .inr (13, [.int f0, .int f1, .int f2, .int f3, .int f4, .int f5, .int f6, .ref f7, .int f8, .ref f9, .int f10]))] sz)) 0 0 (va_A [(x1, .inr (11, [.ref x2, .int 0, .ref x3, .int 0, .ref x4, .ref x5, .int 1, .ref x6, .ref x7, .int 0])), (x3, .inl (ty 4, 20, .inr (.inr (.inr (.inr (fun _ => none)))))), (h1, .inr (13, [.int f0, .int f1, .int f2, .int f3, .int f4, .int f5, .int f6, .ref f7, .int f8, .ref f9, .int f10]))] sz) := by
  refine Met.ofW (cc := cX6_tellRule) (maxL := 2) (ret := (some .int)) (by decide) rfl ?_
  intro p e s m args below meth c s₁ B hml hv
  obtain ⟨rfl, hsz, hP, hK, hD0, hE⟩ := hv
  have hx := B.exec
  have hb := B.bytes
  have hr := B.returns
  have hts := atoms_spec (ws := vs_k_X6_tellRule) B.pre
  have hown : s.vm.findClass RX6 = some m.cls := findClass_of_methodNamed B.named
  have hlocks := B.notSynchronized
  subst hsz
  have hD := hD0.self (sz := s.heap.size)
  generalize hAe : va_A [(x1, .inr (11, [.ref x2, .int 0, .ref x3, .int 0, .ref x4, .ref x5, .int 1, .ref x6, .ref x7, .int 0])), (x3, .inl (ty 4, 20, .inr (.inr (.inr (.inr (fun _ => none)))))), (h1, .inr (13, [.int f0, .int f1, .int f2, .int f3, .int f4, .int f5, .int f6, .ref f7, .int f8, .ref f9, .int f10]))] s.heap.size = A at hD hE ⊢
  have hA : ∀ q : Nat, s.heap.size ≤ q → A q := fun q h => by rw [← hAe]; exact Or.inr h
  have hS : va_S A s.heap s.heap [] := va_S.rf
  have hP : va_P D vwCl [(x1, .inr (11, [.ref x2, .int 0, .ref x3, .int 0, .ref x4, .ref x5, .int 1, .ref x6, .ref x7, .int 0])), (x3, .inl (ty 4, 20, .inr (.inr (.inr (.inr (fun _ => none)))))), (h1, .inr (13, [.int f0, .int f1, .int f2, .int f3, .int f4, .int f5, .int f6, .ref f7, .int f8, .ref f9, .int f10]))] s.heap := hP
  have hl := lv_entry ([.ref x1, .ref h1]) (n := 2) (Nat.le_of_ble_eq_true rfl)
  rw [lg_entry_eq]
  generalize (lg_sl ([.ref x1, .ref h1]) ++ List.replicate (2 - (lg_sl ([.ref x1, .ref h1])).length) Slot.unset).toArray = ls at hl ⊢
  have hl : lv_has ls 2 [(0, .ref x1), (1, .ref h1)] := hl
  refine lv_aload_n hx hb dX6_tellRule_0 rfl (lv_at hl 0 rfl) ?_
  refine va_get (D := D) (ci := 11) (v := .int 0) (C := RX6) (T := TX6) (N := 10) hx hb hts iv_k_X6_tellRule_X6 hown hK hP 0 rfl rfl 3 (by decide) (hts (.fieldLink RX6 45 "AnswerFold$Program" "ruleCount" "I") (by decide +kernel)) (fun _ h9 => h9) rfl dX6_tellRule_1 ?_
  refine lv_if_lt (tgt := 16) hx hb dX6_tellRule_4 (by decide) (fun c0 => absurd c0 (by decide)) (fun _ => ?_)
  refine lv_aload_n hx hb dX6_tellRule_7 rfl (lv_at hl 0 rfl) ?_
  refine va_get (D := D) (ci := 11) (v := .int 0) (C := RX6) (T := TX6) (N := 10) hx hb hts iv_k_X6_tellRule_X6 hown hK hP 0 rfl rfl 3 (by decide) (hts (.fieldLink RX6 45 "AnswerFold$Program" "ruleCount" "I") (by decide +kernel)) (fun _ h9 => h9) rfl dX6_tellRule_8 ?_
  refine lv_bipush (v := 20) hx hb dX6_tellRule_11 (by decide) ?_
  refine lv_icmp_lt (tgt := 18) hx hb dX6_tellRule_13 (by decide) (fun _ => ?_) (fun c0 => absurd (by decide) c0)
  refine lv_aload_n hx hb dX6_tellRule_18 rfl (lv_at hl 0 rfl) ?_
  refine va_get (D := D) (ci := 11) (v := .ref x3) (C := RX6) (T := TX6) (N := 10) hx hb hts iv_k_X6_tellRule_X6 hown hK hP 0 rfl rfl 2 (by decide) (hts (.fieldLink RX6 17 "AnswerFold$Program" "rules" "[LAnswerFold$Rule;") (by decide +kernel)) (fun _ h9 => h9) rfl dX6_tellRule_19 ?_
  refine lv_aload_n hx hb dX6_tellRule_22 rfl (lv_at hl 0 rfl) ?_
  refine va_get (D := D) (ci := 11) (v := .int 0) (C := RX6) (T := TX6) (N := 10) hx hb hts iv_k_X6_tellRule_X6 hown hK hP 0 rfl rfl 3 (by decide) (hts (.fieldLink RX6 45 "AnswerFold$Program" "ruleCount" "I") (by decide +kernel)) (fun _ h9 => h9) rfl dX6_tellRule_23 ?_
  refine lv_aload_n hx hb dX6_tellRule_26 rfl (lv_at hl 1 rfl) ?_
  refine va_astq (D := D) hx hb hK hP hD hS 1 4 2 13 rfl rfl rfl rfl (vp_in_iff.mpr (by decide)) dX6_tellRule_27 (fun H locs hP hD hS => ?_)
  have hP : va_P D vwCl [(x1, .inr (11, [.ref x2, .int 0, .ref x3, .int 0, .ref x4, .ref x5, .int 1, .ref x6, .ref x7, .int 0])), (x3, .inl (ty 4, 20, .inr (.inr (.inr (.inr (va_up (fun _ => none) (0 : Int32).toNatClampNeg (some h1))))))), (h1, .inr (13, [.int f0, .int f1, .int f2, .int f3, .int f4, .int f5, .int f6, .ref f7, .int f8, .ref f9, .int f10]))] H := hP
  have hD : va_D A [(x1, .inr (11, [.ref x2, .int 0, .ref x3, .int 0, .ref x4, .ref x5, .int 1, .ref x6, .ref x7, .int 0])), (x3, .inl (ty 4, 20, .inr (.inr (.inr (.inr (va_up (fun _ => none) (0 : Int32).toNatClampNeg (some h1))))))), (h1, .inr (13, [.int f0, .int f1, .int f2, .int f3, .int f4, .int f5, .int f6, .ref f7, .int f8, .ref f9, .int f10]))] := hD
  refine lv_aload_n hx hb dX6_tellRule_28 rfl (lv_at hl 0 rfl) ?_
  refine lv_dup hx hb dX6_tellRule_29 rfl ?_
  refine va_get (D := D) (ci := 11) (v := .int 0) (C := RX6) (T := TX6) (N := 10) hx hb hts iv_k_X6_tellRule_X6 hown hK hP 0 rfl rfl 3 (by decide) (hts (.fieldLink RX6 45 "AnswerFold$Program" "ruleCount" "I") (by decide +kernel)) (fun _ h9 => h9) rfl dX6_tellRule_30 ?_
  refine lv_dup_x1 hx hb dX6_tellRule_33 rfl rfl ?_
  refine lv_iconst (v := 1) hx hb dX6_tellRule_34 (by decide) ?_
  refine lv_iadd hx hb dX6_tellRule_35 ?_
  refine lv_topi (nm_r (e' := 1) (by decide) ?_)
  refine va_put (D := D) (ci := 11) (v := .int 1) (ty := tyX6 3) (C := RX6) (T := TX6) (N := 10) hx hb hts iv_k_X6_tellRule_X6 tyX6 tyX6_ok nmX6 hown hK hP hD hS 0 rfl rfl 3 (by decide) (hts (.fieldLink RX6 45 "AnswerFold$Program" "ruleCount" "I") (by decide +kernel)) (fun _ h9 => h9) rfl (by decide +kernel) rfl rfl (Nat.le_of_ble_eq_true rfl) dX6_tellRule_36 (fun H locs hP hD hS => ?_)
  have hP : va_P D vwCl [(x1, .inr (11, [.ref x2, .int 0, .ref x3, .int 1, .ref x4, .ref x5, .int 1, .ref x6, .ref x7, .int 0])), (x3, .inl (ty 4, 20, .inr (.inr (.inr (.inr (va_up (fun _ => none) (0 : Int32).toNatClampNeg (some h1))))))), (h1, .inr (13, [.int f0, .int f1, .int f2, .int f3, .int f4, .int f5, .int f6, .ref f7, .int f8, .ref f9, .int f10]))] H := hP
  have hD : va_D A [(x1, .inr (11, [.ref x2, .int 0, .ref x3, .int 1, .ref x4, .ref x5, .int 1, .ref x6, .ref x7, .int 0])), (x3, .inl (ty 4, 20, .inr (.inr (.inr (.inr (va_up (fun _ => none) (0 : Int32).toNatClampNeg (some h1))))))), (h1, .inr (13, [.int f0, .int f1, .int f2, .int f3, .int f4, .int f5, .int f6, .ref f7, .int f8, .ref f9, .int f10]))] := hD
  have hP9 := hP.sub (ws' := []) [] rfl
  have hD9 := hD.sub (ws' := []) [] (by decide) rfl
  refine W.widen (k := 0) (n := 0) (Nat.le_of_ble_eq_true rfl) (Nat.le_of_ble_eq_true rfl) ?_
  exact W.iret (v := 0) hx hb hr (fun t ht hW => ⟨⟨0, [], rfl, ⟨rfl, rfl⟩, wq_B.of ht hP9 hD9⟩, hS.F ht⟩) hS.2.2 dX6_tellRule_39
def vs_k_X10_addDisjunction : List Cond := .code yX10_addDisjunction cX10_addDisjunction 2 (some .int) :: ([.methodLink RX10 83 yX10_checkPart, .instanceMethod yX10_checkPart, .selects RX10 yX10_checkPart yX10_checkPart, .initialized RX10, .methodLink RX10 87 yX10_checkRoomForRule, .instanceMethod yX10_checkRoomForRule, .selects RX10 yX10_checkRoomForRule yX10_checkRoomForRule, .methodLink RX10 76 yX10_forgetGrounding, .instanceMethod yX10_forgetGrounding, .selects RX10 yX10_forgetGrounding yX10_forgetGrounding, .fieldLink RX10 12 "AnswerFold" "program" "LAnswerFold$Program;", .classLink RX10 90 RX8, .instantiable RX8 11, .initialized RX8, .methodLink RX10 92 yX8_init, .instanceMethod yX8_init, .methodLink RX10 95 yX6_tellRule, .instanceMethod yX6_tellRule, .selects RX6 yX6_tellRule yX6_tellRule, .initialized RX6] ++ (vs_k_X10_checkPart ++ (vs_k_X10_checkRoomForRule ++ (vs_k_X10_forgetGrounding ++ (u_ws RX10 TX10 7 ++ (u_ws RX8 TX8 11 ++ (vs_k_X8_init_d ++ (vs_k_X6_tellRule))))))))
theorem iv_k_X10_addDisjunction_X10 : ∀ w ∈ u_ws RX10 TX10 7, w ∈ vs_k_X10_addDisjunction := (fun _ h => List.mem_cons_of_mem _ (List.mem_append_right _ (List.mem_append_right _ (List.mem_append_right _ (List.mem_append_right _ (List.mem_append_left _ h))))))
theorem iv_k_X10_addDisjunction_X8 : ∀ w ∈ u_ws RX8 TX8 11, w ∈ vs_k_X10_addDisjunction := (fun _ h => List.mem_cons_of_mem _ (List.mem_append_right _ (List.mem_append_right _ (List.mem_append_right _ (List.mem_append_right _ (List.mem_append_right _ (List.mem_append_left _ h)))))))
set_option maxRecDepth 20000 in
theorem gv_k_X10_addDisjunction_0 : GoodIn vs_k_X10_addDisjunction (wsV RX10 83 RX10 yX10_checkPart vs_k_X10_checkPart) := goodIn_app (goodIn_sub (by decide +kernel) (by decide +kernel)) (goodIn_sub (fun _ h => List.mem_cons_of_mem _ (List.mem_append_right _ (List.mem_append_left _ h))) (by decide +kernel))
set_option maxRecDepth 20000 in
theorem gv_k_X10_addDisjunction_1 : GoodIn vs_k_X10_addDisjunction (wsV RX10 87 RX10 yX10_checkRoomForRule vs_k_X10_checkRoomForRule) := goodIn_app (goodIn_sub (by decide +kernel) (by decide +kernel)) (goodIn_sub (fun _ h => List.mem_cons_of_mem _ (List.mem_append_right _ (List.mem_append_right _ (List.mem_append_left _ h)))) (by decide +kernel))
set_option maxRecDepth 20000 in
theorem gv_k_X10_addDisjunction_2 : GoodIn vs_k_X10_addDisjunction (wsV RX10 76 RX10 yX10_forgetGrounding vs_k_X10_forgetGrounding) := goodIn_app (goodIn_sub (by decide +kernel) (by decide +kernel)) (goodIn_sub (fun _ h => List.mem_cons_of_mem _ (List.mem_append_right _ (List.mem_append_right _ (List.mem_append_right _ (List.mem_append_left _ h))))) (by decide +kernel))
set_option maxRecDepth 20000 in
theorem gv_k_X10_addDisjunction_3 : GoodIn vs_k_X10_addDisjunction (vs_k_X8_init_d) := (goodIn_sub (fun _ h => List.mem_cons_of_mem _ (List.mem_append_right _ (List.mem_append_right _ (List.mem_append_right _ (List.mem_append_right _ (List.mem_append_right _ (List.mem_append_right _ (List.mem_append_left _ h)))))))) (by decide +kernel))
set_option maxRecDepth 20000 in
theorem gv_k_X10_addDisjunction_4 : GoodIn vs_k_X10_addDisjunction (wsV RX10 95 RX6 yX6_tellRule vs_k_X6_tellRule) := goodIn_app (goodIn_sub (by decide +kernel) (by decide +kernel)) (goodIn_sub (fun _ h => List.mem_cons_of_mem _ (List.mem_append_right _ (List.mem_append_right _ (List.mem_append_right _ (List.mem_append_right _ (List.mem_append_right _ (List.mem_append_right _ (List.mem_append_right _ (h))))))))) (by decide +kernel))
set_option maxHeartbeats 4000000 in
set_option maxRecDepth 100000 in
theorem k_X10_addDisjunction (l : Launch) (hl9 : l.stackTraces = false) (D : va_G) (ty : Nat → ClassId) (td mi sz : Nat) (x0 : Nat) (x1 : Nat) (x8 : Nat) (x20 : Nat) (x39 : Nat) (x41 : Nat) (x43 : Nat) (x45 : Nat) (x2 : Nat) (x3 : Nat) (x4 : Nat) (x5 : Nat) (x6 : Nat) (x7 : Nat) (x9 : Nat) (x10 : Nat) (x12 : Nat) (x14 : Nat) (x15 : Nat) (x16 : Nat) (x17 : Nat) (x18 : Nat) (x19 : Nat) (x21 : Nat) (x28 : Nat) (x35 : Nat) (x36 : Nat) (x37 : Nat) (x38 : Nat) (x46 : Nat) (x47 : Nat) (k1 : Int32) : vx_Met l yX10_addDisjunction vs_k_X10_addDisjunction { frames := 7, cells := 4, slots := 24, locals := 103 } (va_Pc [.ref x0, .int k1] (wq_P D ty td mi [(x0, .inr (15, [.ref x1, .ref x8, .ref x20, .ref x39, .ref x41, .ref x43, .ref x45])), (x1, .inr (11, [.ref x2, .int 0, .ref x3, .int 0, .ref x4, .ref x5, .int 1, .ref x6, .ref x7, .int 0])), (x3, .inl (ty 4, 20, .inr (.inr (.inr (.inr (fun _ => none)))))), (x8, .inr (8, [.ref x1, .ref x9, .ref x10, .ref x12, .ref x14, .int 0, .ref x15, .ref x16, .ref x17, .int 0, .ref x18, .ref x19, .int 0, .int 0, .int 0, .int 0])), (x20, .inr (14, [.ref x1, .ref x8, .ref x21, .ref x28, .ref x35, .int 0, .ref x36, .ref x37, .ref x38, .int 0, .int 0, .int 0, .int 0, .int 0, .int 0, .int 0, .int 0])), (x45, .inr (5, [.ref x46, .ref x47, .int 0, .int 0]))] sz)) (va_Qi (fun (r : Int32) (u : va_W) => (r = 0 ∧ (¬ (k1 < 0)) ∧ (k1 ≤ 3) ∧ (u = []))) (wq_B D (va_A [(x0, .inr (15, [.ref x1, .ref x8, .ref x20, .ref x39, .ref x41, .ref x43, .ref x45])), (x1, .inr (11, [.ref x2, .int 0, .ref x3, .int 0, .ref x4, .ref x5, .int 1, .ref x6, .ref x7, .int 0])), (x3, .inl (ty 4, 20, .inr (.inr (.inr (.inr (fun _ => none)))))), (x8, .inr (8, [.ref x1, .ref x9, .ref x10, .ref x12, .ref x14, .int 0, .ref x15, .ref x16, .ref x17, .int 0, .ref x18, .ref x19, .int 0, .int 0, .int 0, .int 0])), (x20, .inr (14, [.ref x1, .ref x8, .ref x21, .ref x28, .ref x35, .int 0, .ref x36, .ref x37, .ref x38, .int 0, .int 0, .int 0, .int 0, .int 0, .int 0, .int 0, .int 0])), (x45, .inr (5, [.ref x46, .ref x47, .int 0, .int 0]))] sz)) (va_A [(x0, .inr (15, [.ref x1, .ref x8, .ref x20, .ref x39, .ref x41, .ref x43, .ref x45])), (x1, .inr (11, [.ref x2, .int 0, .ref x3, .int 0, .ref x4, .ref x5, .int 1, .ref x6, .ref x7, .int 0])), (x3, .inl (ty 4, 20, .inr (.inr (.inr (.inr (fun _ => none)))))), (x8, .inr (8, [.ref x1, .ref x9, .ref x10, .ref x12, .ref x14, .int 0, .ref x15, .ref x16, .ref x17, .int 0, .ref x18, .ref x19, .int 0, .int 0, .int 0, .int 0])), (x20, .inr (14, [.ref x1, .ref x8, .ref x21, .ref x28, .ref x35, .int 0, .ref x36, .ref x37, .ref x38, .int 0, .int 0, .int 0, .int 0, .int 0, .int 0, .int 0, .int 0])), (x45, .inr (5, [.ref x46, .ref x47, .int 0, .int 0]))] sz)) (vx_X (fun u : String × va_W => (u = ("java/lang/IllegalArgumentException", []) ∧ (k1 < 0)) ∨ (u = ("java/lang/IllegalArgumentException", []) ∧ (¬ (k1 < 0)) ∧ (¬ (k1 ≤ 3)))) (wq_BX D (va_A [(x0, .inr (15, [.ref x1, .ref x8, .ref x20, .ref x39, .ref x41, .ref x43, .ref x45])), (x1, .inr (11, [.ref x2, .int 0, .ref x3, .int 0, .ref x4, .ref x5, .int 1, .ref x6, .ref x7, .int 0])), (x3, .inl (ty 4, 20, .inr (.inr (.inr (.inr (fun _ => none)))))), (x8, .inr (8, [.ref x1, .ref x9, .ref x10, .ref x12, .ref x14, .int 0, .ref x15, .ref x16, .ref x17, .int 0, .ref x18, .ref x19, .int 0, .int 0, .int 0, .int 0])), (x20, .inr (14, [.ref x1, .ref x8, .ref x21, .ref x28, .ref x35, .int 0, .ref x36, .ref x37, .ref x38, .int 0, .int 0, .int 0, .int 0, .int 0, .int 0, .int 0, .int 0])), (x45, .inr (5, [.ref x46, .ref x47, .int 0, .int 0]))] sz)) (va_A [(x0, .inr (15, [.ref x1, .ref x8, .ref x20, .ref x39, .ref x41, .ref x43, .ref x45])), (x1, .inr (11, [.ref x2, .int 0, .ref x3, .int 0, .ref x4, .ref x5, .int 1, .ref x6, .ref x7, .int 0])), (x3, .inl (ty 4, 20, .inr (.inr (.inr (.inr (fun _ => none)))))), (x8, .inr (8, [.ref x1, .ref x9, .ref x10, .ref x12, .ref x14, .int 0, .ref x15, .ref x16, .ref x17, .int 0, .ref x18, .ref x19, .int 0, .int 0, .int 0, .int 0])), (x20, .inr (14, [.ref x1, .ref x8, .ref x21, .ref x28, .ref x35, .int 0, .ref x36, .ref x37, .ref x38, .int 0, .int 0, .int 0, .int 0, .int 0, .int 0, .int 0, .int 0])), (x45, .inr (5, [.ref x46, .ref x47, .int 0, .int 0]))] sz)) 4 24 (va_A [(x0, .inr (15, [.ref x1, .ref x8, .ref x20, .ref x39, .ref x41, .ref x43, .ref x45])), (x1, .inr (11, [.ref x2, .int 0, .ref x3, .int 0, .ref x4, .ref x5, .int 1, .ref x6, .ref x7, .int 0])), (x3, .inl (ty 4, 20, .inr (.inr (.inr (.inr (fun _ => none)))))), (x8, .inr (8, [.ref x1, .ref x9, .ref x10, .ref x12, .ref x14, .int 0, .ref x15, .ref x16, .ref x17, .int 0, .ref x18, .ref x19, .int 0, .int 0, .int 0, .int 0])), (x20, .inr (14, [.ref x1, .ref x8, .ref x21, .ref x28, .ref x35, .int 0, .ref x36, .ref x37, .ref x38, .int 0, .int 0, .int 0, .int 0, .int 0, .int 0, .int 0, .int 0])), (x45, .inr (5, [.ref x46, .ref x47, .int 0, .int 0]))] sz) := by
  refine vx_ofW (cc := cX10_addDisjunction) (maxL := 2) (ret := (some .int)) (by decide) rfl ?_
  intro p e s m args below meth c s₁ B hml hEx hv
  obtain ⟨rfl, hsz, hP, hK, hD0, hE⟩ := hv
  have hx := B.exec
  have hb := B.bytes
  have hr := B.returns
  have hts := atoms_spec (ws := vs_k_X10_addDisjunction) B.pre
  have hown : s.vm.findClass RX10 = some m.cls := findClass_of_methodNamed B.named
  have hlocks := B.notSynchronized
  subst hsz
  have hD := hD0.self (sz := s.heap.size)
  generalize hAe : va_A [(x0, .inr (15, [.ref x1, .ref x8, .ref x20, .ref x39, .ref x41, .ref x43, .ref x45])), (x1, .inr (11, [.ref x2, .int 0, .ref x3, .int 0, .ref x4, .ref x5, .int 1, .ref x6, .ref x7, .int 0])), (x3, .inl (ty 4, 20, .inr (.inr (.inr (.inr (fun _ => none)))))), (x8, .inr (8, [.ref x1, .ref x9, .ref x10, .ref x12, .ref x14, .int 0, .ref x15, .ref x16, .ref x17, .int 0, .ref x18, .ref x19, .int 0, .int 0, .int 0, .int 0])), (x20, .inr (14, [.ref x1, .ref x8, .ref x21, .ref x28, .ref x35, .int 0, .ref x36, .ref x37, .ref x38, .int 0, .int 0, .int 0, .int 0, .int 0, .int 0, .int 0, .int 0])), (x45, .inr (5, [.ref x46, .ref x47, .int 0, .int 0]))] s.heap.size = A at hD hE ⊢
  have hA : ∀ q : Nat, s.heap.size ≤ q → A q := fun q h => by rw [← hAe]; exact Or.inr h
  have hS : va_S A s.heap s.heap [] := va_S.rf
  have hP : va_P D vwCl [(x0, .inr (15, [.ref x1, .ref x8, .ref x20, .ref x39, .ref x41, .ref x43, .ref x45])), (x1, .inr (11, [.ref x2, .int 0, .ref x3, .int 0, .ref x4, .ref x5, .int 1, .ref x6, .ref x7, .int 0])), (x3, .inl (ty 4, 20, .inr (.inr (.inr (.inr (fun _ => none)))))), (x8, .inr (8, [.ref x1, .ref x9, .ref x10, .ref x12, .ref x14, .int 0, .ref x15, .ref x16, .ref x17, .int 0, .ref x18, .ref x19, .int 0, .int 0, .int 0, .int 0])), (x20, .inr (14, [.ref x1, .ref x8, .ref x21, .ref x28, .ref x35, .int 0, .ref x36, .ref x37, .ref x38, .int 0, .int 0, .int 0, .int 0, .int 0, .int 0, .int 0, .int 0])), (x45, .inr (5, [.ref x46, .ref x47, .int 0, .int 0]))] s.heap := hP
  have hl := lv_entry ([.ref x0, .int k1]) (n := 2) (Nat.le_of_ble_eq_true rfl)
  rw [lg_entry_eq]
  generalize (lg_sl ([.ref x0, .int k1]) ++ List.replicate (2 - (lg_sl ([.ref x0, .int k1])).length) Slot.unset).toArray = ls at hl ⊢
  have hl : lv_has ls 2 [(0, .ref x0), (1, .int k1)] := hl
  refine lv_aload_n hx hb dX10_addDisjunction_0 rfl (lv_at hl 0 rfl) ?_
  refine lv_iload_n hx hb dX10_addDisjunction_1 rfl (lv_at hl 1 rfl) ?_
  refine wq_xv (wc := [(x0, .inr (15, [.ref x1, .ref x8, .ref x20, .ref x39, .ref x41, .ref x43, .ref x45]))]) (wr := [(x1, .inr (11, [.ref x2, .int 0, .ref x3, .int 0, .ref x4, .ref x5, .int 1, .ref x6, .ref x7, .int 0])), (x3, .inl (ty 4, 20, .inr (.inr (.inr (.inr (fun _ => none)))))), (x8, .inr (8, [.ref x1, .ref x9, .ref x10, .ref x12, .ref x14, .int 0, .ref x15, .ref x16, .ref x17, .int 0, .ref x18, .ref x19, .int 0, .int 0, .int 0, .int 0])), (x20, .inr (14, [.ref x1, .ref x8, .ref x21, .ref x28, .ref x35, .int 0, .ref x36, .ref x37, .ref x38, .int 0, .int 0, .int 0, .int 0, .int 0, .int 0, .int 0, .int 0])), (x45, .inr (5, [.ref x46, .ref x47, .int 0, .int 0]))]) (vx_runV (As := [.int k1]) (rest := []) ⟨hx, hb, hml, hown, hts⟩ (k_X10_checkPart l hl9 D ty td mi s.heap.size x0 x1 x8 x20 x39 x41 x43 x45 k1) (cwV 1 hts gv_k_X10_addDisjunction_0 rfl rfl rfl (by decide +kernel) ⟨(Nat.le_of_ble_eq_true rfl), (Nat.le_of_ble_eq_true rfl)⟩) (wq_preV hP hD hK hE hS hA [0] rfl (by decide) 0 15 rfl rfl) rfl rfl hl.1 rfl (lv_room (Nat.le_of_ble_eq_true rfl)) dX10_addDisjunction_2 ⟨(Nat.le_of_ble_eq_true rfl), (Nat.le_of_ble_eq_true rfl)⟩) hS hA hP hD [0] [1, 2, 3, 4, 5] rfl rfl (by decide) (by decide) (fun E9 u H locs q9 ce hw hP hD hS hce hcv hcl => ?_) (fun u H locs hw hP hD hS => ?_)
  · rcases hw with ⟨hEq, c_1⟩ | ⟨hEq, c_2, c_3⟩
    · cases hEq
      have hP : va_P D vwCl [(x1, .inr (11, [.ref x2, .int 0, .ref x3, .int 0, .ref x4, .ref x5, .int 1, .ref x6, .ref x7, .int 0])), (x3, .inl (ty 4, 20, .inr (.inr (.inr (.inr (fun _ => none)))))), (x8, .inr (8, [.ref x1, .ref x9, .ref x10, .ref x12, .ref x14, .int 0, .ref x15, .ref x16, .ref x17, .int 0, .ref x18, .ref x19, .int 0, .int 0, .int 0, .int 0])), (x20, .inr (14, [.ref x1, .ref x8, .ref x21, .ref x28, .ref x35, .int 0, .ref x36, .ref x37, .ref x38, .int 0, .int 0, .int 0, .int 0, .int 0, .int 0, .int 0, .int 0])), (x45, .inr (5, [.ref x46, .ref x47, .int 0, .int 0]))] H := hP
      have hD : va_D A [(x1, .inr (11, [.ref x2, .int 0, .ref x3, .int 0, .ref x4, .ref x5, .int 1, .ref x6, .ref x7, .int 0])), (x3, .inl (ty 4, 20, .inr (.inr (.inr (.inr (fun _ => none)))))), (x8, .inr (8, [.ref x1, .ref x9, .ref x10, .ref x12, .ref x14, .int 0, .ref x15, .ref x16, .ref x17, .int 0, .ref x18, .ref x19, .int 0, .int 0, .int 0, .int 0])), (x20, .inr (14, [.ref x1, .ref x8, .ref x21, .ref x28, .ref x35, .int 0, .ref x36, .ref x37, .ref x38, .int 0, .int 0, .int 0, .int 0, .int 0, .int 0, .int 0, .int 0])), (x45, .inr (5, [.ref x46, .ref x47, .int 0, .int 0]))] := hD
      refine vx_widen (k := 4) (n := 24) (Nat.le_of_ble_eq_true rfl) (Nat.le_of_ble_eq_true rfl) ?_
      exact vx_out (E := "java/lang/IllegalArgumentException") (fun x hx => (hEx x hx).elim) hlocks hce hcv hcl (fun t ht ha => wq_thr0 hS (by exact (Or.inl ⟨rfl, c_1⟩)) ht) hS.2.2 (Nat.le_refl _) (Nat.le_refl _)
    · cases hEq
      have hP : va_P D vwCl [(x1, .inr (11, [.ref x2, .int 0, .ref x3, .int 0, .ref x4, .ref x5, .int 1, .ref x6, .ref x7, .int 0])), (x3, .inl (ty 4, 20, .inr (.inr (.inr (.inr (fun _ => none)))))), (x8, .inr (8, [.ref x1, .ref x9, .ref x10, .ref x12, .ref x14, .int 0, .ref x15, .ref x16, .ref x17, .int 0, .ref x18, .ref x19, .int 0, .int 0, .int 0, .int 0])), (x20, .inr (14, [.ref x1, .ref x8, .ref x21, .ref x28, .ref x35, .int 0, .ref x36, .ref x37, .ref x38, .int 0, .int 0, .int 0, .int 0, .int 0, .int 0, .int 0, .int 0])), (x45, .inr (5, [.ref x46, .ref x47, .int 0, .int 0]))] H := hP
      have hD : va_D A [(x1, .inr (11, [.ref x2, .int 0, .ref x3, .int 0, .ref x4, .ref x5, .int 1, .ref x6, .ref x7, .int 0])), (x3, .inl (ty 4, 20, .inr (.inr (.inr (.inr (fun _ => none)))))), (x8, .inr (8, [.ref x1, .ref x9, .ref x10, .ref x12, .ref x14, .int 0, .ref x15, .ref x16, .ref x17, .int 0, .ref x18, .ref x19, .int 0, .int 0, .int 0, .int 0])), (x20, .inr (14, [.ref x1, .ref x8, .ref x21, .ref x28, .ref x35, .int 0, .ref x36, .ref x37, .ref x38, .int 0, .int 0, .int 0, .int 0, .int 0, .int 0, .int 0, .int 0])), (x45, .inr (5, [.ref x46, .ref x47, .int 0, .int 0]))] := hD
      refine vx_widen (k := 4) (n := 24) (Nat.le_of_ble_eq_true rfl) (Nat.le_of_ble_eq_true rfl) ?_
      exact vx_out (E := "java/lang/IllegalArgumentException") (fun x hx => (hEx x hx).elim) hlocks hce hcv hcl (fun t ht ha => wq_thr0 hS (by exact (Or.inr ⟨rfl, c_2, c_3⟩)) ht) hS.2.2 (Nat.le_refl _) (Nat.le_refl _)
  · obtain ⟨c_4, c_5, rfl⟩ := hw
    have hP : va_P D vwCl [(x1, .inr (11, [.ref x2, .int 0, .ref x3, .int 0, .ref x4, .ref x5, .int 1, .ref x6, .ref x7, .int 0])), (x3, .inl (ty 4, 20, .inr (.inr (.inr (.inr (fun _ => none)))))), (x8, .inr (8, [.ref x1, .ref x9, .ref x10, .ref x12, .ref x14, .int 0, .ref x15, .ref x16, .ref x17, .int 0, .ref x18, .ref x19, .int 0, .int 0, .int 0, .int 0])), (x20, .inr (14, [.ref x1, .ref x8, .ref x21, .ref x28, .ref x35, .int 0, .ref x36, .ref x37, .ref x38, .int 0, .int 0, .int 0, .int 0, .int 0, .int 0, .int 0, .int 0])), (x45, .inr (5, [.ref x46, .ref x47, .int 0, .int 0])), (x0, .inr (15, [.ref x1, .ref x8, .ref x20, .ref x39, .ref x41, .ref x43, .ref x45]))] H := hP
    have hD : va_D A [(x1, .inr (11, [.ref x2, .int 0, .ref x3, .int 0, .ref x4, .ref x5, .int 1, .ref x6, .ref x7, .int 0])), (x3, .inl (ty 4, 20, .inr (.inr (.inr (.inr (fun _ => none)))))), (x8, .inr (8, [.ref x1, .ref x9, .ref x10, .ref x12, .ref x14, .int 0, .ref x15, .ref x16, .ref x17, .int 0, .ref x18, .ref x19, .int 0, .int 0, .int 0, .int 0])), (x20, .inr (14, [.ref x1, .ref x8, .ref x21, .ref x28, .ref x35, .int 0, .ref x36, .ref x37, .ref x38, .int 0, .int 0, .int 0, .int 0, .int 0, .int 0, .int 0, .int 0])), (x45, .inr (5, [.ref x46, .ref x47, .int 0, .int 0])), (x0, .inr (15, [.ref x1, .ref x8, .ref x20, .ref x39, .ref x41, .ref x43, .ref x45]))] := hD
    refine W.widen (k := 1) (n := 6) (Nat.le_of_ble_eq_true rfl) (Nat.le_of_ble_eq_true rfl) ?_
    refine lv_aload_n hx hb dX10_addDisjunction_5 rfl (lv_at hl 0 rfl) ?_
    refine wq_v (wc := [(x0, .inr (15, [.ref x1, .ref x8, .ref x20, .ref x39, .ref x41, .ref x43, .ref x45])), (x1, .inr (11, [.ref x2, .int 0, .ref x3, .int 0, .ref x4, .ref x5, .int 1, .ref x6, .ref x7, .int 0]))]) (wr := [(x3, .inl (ty 4, 20, .inr (.inr (.inr (.inr (fun _ => none)))))), (x8, .inr (8, [.ref x1, .ref x9, .ref x10, .ref x12, .ref x14, .int 0, .ref x15, .ref x16, .ref x17, .int 0, .ref x18, .ref x19, .int 0, .int 0, .int 0, .int 0])), (x20, .inr (14, [.ref x1, .ref x8, .ref x21, .ref x28, .ref x35, .int 0, .ref x36, .ref x37, .ref x38, .int 0, .int 0, .int 0, .int 0, .int 0, .int 0, .int 0, .int 0])), (x45, .inr (5, [.ref x46, .ref x47, .int 0, .int 0]))]) (va_runV (As := []) (rest := []) ⟨hx, hb, hml, hown, hts⟩ (k_X10_checkRoomForRule l D ty td mi H.size x0 x1 x8 x20 x39 x41 x43 x45 x2 x3 x4 x5 x6 x7) (cwV 0 hts gv_k_X10_addDisjunction_1 rfl rfl rfl (by decide +kernel) ⟨(Nat.le_of_ble_eq_true rfl), (Nat.le_of_ble_eq_true rfl)⟩) (wq_preV hP hD hK hE hS hA [5, 0] rfl (by decide) 5 15 rfl rfl) rfl rfl hl.1 rfl (lv_room (Nat.le_of_ble_eq_true rfl)) dX10_addDisjunction_6 ⟨(Nat.le_of_ble_eq_true rfl), (Nat.le_of_ble_eq_true rfl)⟩) hS hA hP hD [5, 0] [1, 2, 3, 4] rfl rfl (by decide) (by decide) (fun u H locs hw hP hD hS => ?_)
    obtain rfl := hw
    have hP : va_P D vwCl [(x3, .inl (ty 4, 20, .inr (.inr (.inr (.inr (fun _ => none)))))), (x8, .inr (8, [.ref x1, .ref x9, .ref x10, .ref x12, .ref x14, .int 0, .ref x15, .ref x16, .ref x17, .int 0, .ref x18, .ref x19, .int 0, .int 0, .int 0, .int 0])), (x20, .inr (14, [.ref x1, .ref x8, .ref x21, .ref x28, .ref x35, .int 0, .ref x36, .ref x37, .ref x38, .int 0, .int 0, .int 0, .int 0, .int 0, .int 0, .int 0, .int 0])), (x45, .inr (5, [.ref x46, .ref x47, .int 0, .int 0])), (x0, .inr (15, [.ref x1, .ref x8, .ref x20, .ref x39, .ref x41, .ref x43, .ref x45])), (x1, .inr (11, [.ref x2, .int 0, .ref x3, .int 0, .ref x4, .ref x5, .int 1, .ref x6, .ref x7, .int 0]))] H := hP
    have hD : va_D A [(x3, .inl (ty 4, 20, .inr (.inr (.inr (.inr (fun _ => none)))))), (x8, .inr (8, [.ref x1, .ref x9, .ref x10, .ref x12, .ref x14, .int 0, .ref x15, .ref x16, .ref x17, .int 0, .ref x18, .ref x19, .int 0, .int 0, .int 0, .int 0])), (x20, .inr (14, [.ref x1, .ref x8, .ref x21, .ref x28, .ref x35, .int 0, .ref x36, .ref x37, .ref x38, .int 0, .int 0, .int 0, .int 0, .int 0, .int 0, .int 0, .int 0])), (x45, .inr (5, [.ref x46, .ref x47, .int 0, .int 0])), (x0, .inr (15, [.ref x1, .ref x8, .ref x20, .ref x39, .ref x41, .ref x43, .ref x45])), (x1, .inr (11, [.ref x2, .int 0, .ref x3, .int 0, .ref x4, .ref x5, .int 1, .ref x6, .ref x7, .int 0]))] := hD
    refine W.widen (k := 1) (n := 6) (Nat.le_of_ble_eq_true rfl) (Nat.le_of_ble_eq_true rfl) ?_
    refine lv_aload_n hx hb dX10_addDisjunction_9 rfl (lv_at hl 0 rfl) ?_
    refine wq_v (wc := [(x0, .inr (15, [.ref x1, .ref x8, .ref x20, .ref x39, .ref x41, .ref x43, .ref x45])), (x8, .inr (8, [.ref x1, .ref x9, .ref x10, .ref x12, .ref x14, .int 0, .ref x15, .ref x16, .ref x17, .int 0, .ref x18, .ref x19, .int 0, .int 0, .int 0, .int 0])), (x20, .inr (14, [.ref x1, .ref x8, .ref x21, .ref x28, .ref x35, .int 0, .ref x36, .ref x37, .ref x38, .int 0, .int 0, .int 0, .int 0, .int 0, .int 0, .int 0, .int 0])), (x45, .inr (5, [.ref x46, .ref x47, .int 0, .int 0]))]) (wr := [(x3, .inl (ty 4, 20, .inr (.inr (.inr (.inr (fun _ => none)))))), (x1, .inr (11, [.ref x2, .int 0, .ref x3, .int 0, .ref x4, .ref x5, .int 1, .ref x6, .ref x7, .int 0]))]) (va_runV (As := []) (rest := []) ⟨hx, hb, hml, hown, hts⟩ (k_X10_forgetGrounding l D ty td mi H.size x0 x1 x8 x20 x39 x41 x43 x45 x9 x10 x12 x14 x15 x16 x17 x18 x19 x21 x28 x35 x36 x37 x38 x46 x47) (cwV 0 hts gv_k_X10_addDisjunction_2 rfl rfl rfl (by decide +kernel) ⟨(Nat.le_of_ble_eq_true rfl), (Nat.le_of_ble_eq_true rfl)⟩) (wq_preV hP hD hK hE hS hA [4, 1, 2, 3] rfl (by decide) 4 15 rfl rfl) rfl rfl hl.1 rfl (lv_room (Nat.le_of_ble_eq_true rfl)) dX10_addDisjunction_10 ⟨(Nat.le_of_ble_eq_true rfl), (Nat.le_of_ble_eq_true rfl)⟩) hS hA hP hD [4, 1, 2, 3] [0, 5] rfl rfl (by decide) (by decide) (fun u H locs hw hP hD hS => ?_)
    obtain rfl := hw
    have hP : va_P D vwCl [(x3, .inl (ty 4, 20, .inr (.inr (.inr (.inr (fun _ => none)))))), (x1, .inr (11, [.ref x2, .int 0, .ref x3, .int 0, .ref x4, .ref x5, .int 1, .ref x6, .ref x7, .int 0])), (x0, .inr (15, [.ref x1, .ref x8, .ref x20, .ref x39, .ref x41, .ref x43, .ref x45])), (x8, .inr (8, [.ref x1, .ref x9, .ref x10, .ref x12, .ref x14, .int 0, .ref x15, .ref x16, .ref x17, .int 0, .ref x18, .ref x19, .int 0, .int 0, .int 0, .int 0])), (x20, .inr (14, [.ref x1, .ref x8, .ref x21, .ref x28, .ref x35, .int 0, .ref x36, .ref x37, .ref x38, .int 0, .int 0, .int 0, .int 0, .int 0, .int 0, .int 0, .int 0])), (x45, .inr (5, [.ref x46, .ref x47, .int 0, .int 0]))] H := hP
    have hD : va_D A [(x3, .inl (ty 4, 20, .inr (.inr (.inr (.inr (fun _ => none)))))), (x1, .inr (11, [.ref x2, .int 0, .ref x3, .int 0, .ref x4, .ref x5, .int 1, .ref x6, .ref x7, .int 0])), (x0, .inr (15, [.ref x1, .ref x8, .ref x20, .ref x39, .ref x41, .ref x43, .ref x45])), (x8, .inr (8, [.ref x1, .ref x9, .ref x10, .ref x12, .ref x14, .int 0, .ref x15, .ref x16, .ref x17, .int 0, .ref x18, .ref x19, .int 0, .int 0, .int 0, .int 0])), (x20, .inr (14, [.ref x1, .ref x8, .ref x21, .ref x28, .ref x35, .int 0, .ref x36, .ref x37, .ref x38, .int 0, .int 0, .int 0, .int 0, .int 0, .int 0, .int 0, .int 0])), (x45, .inr (5, [.ref x46, .ref x47, .int 0, .int 0]))] := hD
    refine W.widen (k := 1) (n := 6) (Nat.le_of_ble_eq_true rfl) (Nat.le_of_ble_eq_true rfl) ?_
    refine lv_aload_n hx hb dX10_addDisjunction_13 rfl (lv_at hl 0 rfl) ?_
    refine va_get (D := D) (ci := 15) (v := .ref x1) (C := RX10) (T := TX10) (N := 7) hx hb hts iv_k_X10_addDisjunction_X10 hown hK hP 2 rfl rfl 0 (by decide) (hts (.fieldLink RX10 12 "AnswerFold" "program" "LAnswerFold$Program;") (by decide +kernel)) (fun _ h9 => h9) rfl dX10_addDisjunction_14 ?_
    refine va_new (ci := 13) (fs := [.int 0, .int 0, .int 0, .int 0, .int 0, .int 0, .int 0, .null, .int 0, .null, .int 0]) (C := RX8) (T := TX8) (N := 11) hx hb hts iv_k_X10_addDisjunction_X8 tyX8 tyX8_ok hown (hts (.classLink RX10 90 RX8) (by decide +kernel)) (hts (.instantiable RX8 11) (by decide +kernel)) (hts (.initialized RX8) (by decide +kernel)) hK hP hD hS hA rfl (fun j hj => by rcases (show j = 0 ∨ j = 1 ∨ j = 2 ∨ j = 3 ∨ j = 4 ∨ j = 5 ∨ j = 6 ∨ j = 7 ∨ j = 8 ∨ j = 9 ∨ j = 10 by omega) with rfl | rfl | rfl | rfl | rfl | rfl | rfl | rfl | rfl | rfl | rfl <;> rfl) (Nat.le_of_ble_eq_true rfl) (Nat.le_of_ble_eq_true rfl) dX10_addDisjunction_17 (fun q99 H hP hD hS => ?_)
    have hP : va_P D vwCl [(x3, .inl (ty 4, 20, .inr (.inr (.inr (.inr (fun _ => none)))))), (x1, .inr (11, [.ref x2, .int 0, .ref x3, .int 0, .ref x4, .ref x5, .int 1, .ref x6, .ref x7, .int 0])), (x0, .inr (15, [.ref x1, .ref x8, .ref x20, .ref x39, .ref x41, .ref x43, .ref x45])), (x8, .inr (8, [.ref x1, .ref x9, .ref x10, .ref x12, .ref x14, .int 0, .ref x15, .ref x16, .ref x17, .int 0, .ref x18, .ref x19, .int 0, .int 0, .int 0, .int 0])), (x20, .inr (14, [.ref x1, .ref x8, .ref x21, .ref x28, .ref x35, .int 0, .ref x36, .ref x37, .ref x38, .int 0, .int 0, .int 0, .int 0, .int 0, .int 0, .int 0, .int 0])), (x45, .inr (5, [.ref x46, .ref x47, .int 0, .int 0])), (q99, .inr (13, [.int 0, .int 0, .int 0, .int 0, .int 0, .int 0, .int 0, .null, .int 0, .null, .int 0]))] H := hP
    have hD : va_D A [(x3, .inl (ty 4, 20, .inr (.inr (.inr (.inr (fun _ => none)))))), (x1, .inr (11, [.ref x2, .int 0, .ref x3, .int 0, .ref x4, .ref x5, .int 1, .ref x6, .ref x7, .int 0])), (x0, .inr (15, [.ref x1, .ref x8, .ref x20, .ref x39, .ref x41, .ref x43, .ref x45])), (x8, .inr (8, [.ref x1, .ref x9, .ref x10, .ref x12, .ref x14, .int 0, .ref x15, .ref x16, .ref x17, .int 0, .ref x18, .ref x19, .int 0, .int 0, .int 0, .int 0])), (x20, .inr (14, [.ref x1, .ref x8, .ref x21, .ref x28, .ref x35, .int 0, .ref x36, .ref x37, .ref x38, .int 0, .int 0, .int 0, .int 0, .int 0, .int 0, .int 0, .int 0])), (x45, .inr (5, [.ref x46, .ref x47, .int 0, .int 0])), (q99, .inr (13, [.int 0, .int 0, .int 0, .int 0, .int 0, .int 0, .int 0, .null, .int 0, .null, .int 0]))] := hD
    refine W.widen (k := 2) (n := 17) (Nat.le_of_ble_eq_true rfl) (Nat.le_of_ble_eq_true rfl) ?_
    refine lv_dup hx hb dX10_addDisjunction_20 rfl ?_
    refine lv_bipush (v := 100) hx hb dX10_addDisjunction_21 (by decide) ?_
    refine lv_iload_n hx hb dX10_addDisjunction_23 rfl (lv_at hl 1 rfl) ?_
    refine wq_v (wc := [(q99, .inr (13, [.int 0, .int 0, .int 0, .int 0, .int 0, .int 0, .int 0, .null, .int 0, .null, .int 0]))]) (wr := [(x3, .inl (ty 4, 20, .inr (.inr (.inr (.inr (fun _ => none)))))), (x1, .inr (11, [.ref x2, .int 0, .ref x3, .int 0, .ref x4, .ref x5, .int 1, .ref x6, .ref x7, .int 0])), (x0, .inr (15, [.ref x1, .ref x8, .ref x20, .ref x39, .ref x41, .ref x43, .ref x45])), (x8, .inr (8, [.ref x1, .ref x9, .ref x10, .ref x12, .ref x14, .int 0, .ref x15, .ref x16, .ref x17, .int 0, .ref x18, .ref x19, .int 0, .int 0, .int 0, .int 0])), (x20, .inr (14, [.ref x1, .ref x8, .ref x21, .ref x28, .ref x35, .int 0, .ref x36, .ref x37, .ref x38, .int 0, .int 0, .int 0, .int 0, .int 0, .int 0, .int 0, .int 0])), (x45, .inr (5, [.ref x46, .ref x47, .int 0, .int 0]))]) (va_runI (As := [.int 100, .int k1]) (rest := [.ref q99, .ref x1]) ⟨hx, hb, hml, hown, hts⟩ (k_X8_init_d l D ty td mi H.size q99 k1) (cwI 2 hts gv_k_X10_addDisjunction_3 rfl rfl rfl (hts (.initialized RX8) (by decide +kernel)) (hts (.methodLink RX10 92 yX8_init) (by decide +kernel)) (hts (.instanceMethod yX8_init) (by decide +kernel)) rfl (by decide +kernel) ⟨(Nat.le_of_ble_eq_true rfl), (Nat.le_of_ble_eq_true rfl)⟩) (wq_preS hP hD hK hE hS hA [6] rfl (by decide)) rfl rfl hl.1 rfl (lv_room (Nat.le_of_ble_eq_true rfl)) dX10_addDisjunction_24 ⟨(Nat.le_of_ble_eq_true rfl), (Nat.le_of_ble_eq_true rfl)⟩) hS hA hP hD [6] [0, 1, 2, 3, 4, 5] rfl rfl (by decide) (by decide) (fun u H locs hw hP hD hS => ?_)
    obtain ⟨q100, q101, rfl⟩ := hw
    have hP : va_P D vwCl [(x3, .inl (ty 4, 20, .inr (.inr (.inr (.inr (fun _ => none)))))), (x1, .inr (11, [.ref x2, .int 0, .ref x3, .int 0, .ref x4, .ref x5, .int 1, .ref x6, .ref x7, .int 0])), (x0, .inr (15, [.ref x1, .ref x8, .ref x20, .ref x39, .ref x41, .ref x43, .ref x45])), (x8, .inr (8, [.ref x1, .ref x9, .ref x10, .ref x12, .ref x14, .int 0, .ref x15, .ref x16, .ref x17, .int 0, .ref x18, .ref x19, .int 0, .int 0, .int 0, .int 0])), (x20, .inr (14, [.ref x1, .ref x8, .ref x21, .ref x28, .ref x35, .int 0, .ref x36, .ref x37, .ref x38, .int 0, .int 0, .int 0, .int 0, .int 0, .int 0, .int 0, .int 0])), (x45, .inr (5, [.ref x46, .ref x47, .int 0, .int 0])), (q99, .inr (13, [.int 100, .int k1, .int 0, .int 0, .int (-1), .int 0, .int 0, .ref q100, .int 0, .ref q101, .int 0])), (q100, .inl (ty 5, 2, .inr (.inr (.inr (.inr (fun _ => none)))))), (q101, .inl (ty 5, 5, .inr (.inr (.inr (.inr (fun _ => none))))))] H := hP
    have hD : va_D A [(x3, .inl (ty 4, 20, .inr (.inr (.inr (.inr (fun _ => none)))))), (x1, .inr (11, [.ref x2, .int 0, .ref x3, .int 0, .ref x4, .ref x5, .int 1, .ref x6, .ref x7, .int 0])), (x0, .inr (15, [.ref x1, .ref x8, .ref x20, .ref x39, .ref x41, .ref x43, .ref x45])), (x8, .inr (8, [.ref x1, .ref x9, .ref x10, .ref x12, .ref x14, .int 0, .ref x15, .ref x16, .ref x17, .int 0, .ref x18, .ref x19, .int 0, .int 0, .int 0, .int 0])), (x20, .inr (14, [.ref x1, .ref x8, .ref x21, .ref x28, .ref x35, .int 0, .ref x36, .ref x37, .ref x38, .int 0, .int 0, .int 0, .int 0, .int 0, .int 0, .int 0, .int 0])), (x45, .inr (5, [.ref x46, .ref x47, .int 0, .int 0])), (q99, .inr (13, [.int 100, .int k1, .int 0, .int 0, .int (-1), .int 0, .int 0, .ref q100, .int 0, .ref q101, .int 0])), (q100, .inl (ty 5, 2, .inr (.inr (.inr (.inr (fun _ => none)))))), (q101, .inl (ty 5, 5, .inr (.inr (.inr (.inr (fun _ => none))))))] := hD
    refine W.widen (k := 4) (n := 24) (Nat.le_of_ble_eq_true rfl) (Nat.le_of_ble_eq_true rfl) ?_
    refine wq_i (wc := [(x1, .inr (11, [.ref x2, .int 0, .ref x3, .int 0, .ref x4, .ref x5, .int 1, .ref x6, .ref x7, .int 0])), (x3, .inl (ty 4, 20, .inr (.inr (.inr (.inr (fun _ => none)))))), (q99, .inr (13, [.int 100, .int k1, .int 0, .int 0, .int (-1), .int 0, .int 0, .ref q100, .int 0, .ref q101, .int 0]))]) (wr := [(x0, .inr (15, [.ref x1, .ref x8, .ref x20, .ref x39, .ref x41, .ref x43, .ref x45])), (x8, .inr (8, [.ref x1, .ref x9, .ref x10, .ref x12, .ref x14, .int 0, .ref x15, .ref x16, .ref x17, .int 0, .ref x18, .ref x19, .int 0, .int 0, .int 0, .int 0])), (x20, .inr (14, [.ref x1, .ref x8, .ref x21, .ref x28, .ref x35, .int 0, .ref x36, .ref x37, .ref x38, .int 0, .int 0, .int 0, .int 0, .int 0, .int 0, .int 0, .int 0])), (x45, .inr (5, [.ref x46, .ref x47, .int 0, .int 0])), (q100, .inl (ty 5, 2, .inr (.inr (.inr (.inr (fun _ => none)))))), (q101, .inl (ty 5, 5, .inr (.inr (.inr (.inr (fun _ => none))))))]) (va_runV (As := [.ref q99]) (rest := []) ⟨hx, hb, hml, hown, hts⟩ (k_X6_tellRule l D ty td mi H.size x1 x2 x3 x4 x5 x6 x7 q99 q100 q101 100 k1 0 0 (-1) 0 0 q100 0 q101 0) (cwV 1 hts gv_k_X10_addDisjunction_4 rfl rfl rfl (by decide +kernel) ⟨(Nat.le_of_ble_eq_true rfl), (Nat.le_of_ble_eq_true rfl)⟩) (wq_preV hP hD hK hE hS hA [1, 0, 6] rfl (by decide) 1 11 rfl rfl) rfl rfl hl.1 rfl (lv_room (Nat.le_of_ble_eq_true rfl)) dX10_addDisjunction_27 ⟨(Nat.le_of_ble_eq_true rfl), (Nat.le_of_ble_eq_true rfl)⟩) hS hA hP hD [1, 0, 6] [2, 3, 4, 5, 7, 8] rfl rfl (by decide) (by decide) (fun r u H locs hw hP hD hS => ?_)
    obtain ⟨rfl, rfl⟩ := hw
    have hP : va_P D vwCl [(x0, .inr (15, [.ref x1, .ref x8, .ref x20, .ref x39, .ref x41, .ref x43, .ref x45])), (x8, .inr (8, [.ref x1, .ref x9, .ref x10, .ref x12, .ref x14, .int 0, .ref x15, .ref x16, .ref x17, .int 0, .ref x18, .ref x19, .int 0, .int 0, .int 0, .int 0])), (x20, .inr (14, [.ref x1, .ref x8, .ref x21, .ref x28, .ref x35, .int 0, .ref x36, .ref x37, .ref x38, .int 0, .int 0, .int 0, .int 0, .int 0, .int 0, .int 0, .int 0])), (x45, .inr (5, [.ref x46, .ref x47, .int 0, .int 0])), (q100, .inl (ty 5, 2, .inr (.inr (.inr (.inr (fun _ => none)))))), (q101, .inl (ty 5, 5, .inr (.inr (.inr (.inr (fun _ => none))))))] H := hP
    have hD : va_D A [(x0, .inr (15, [.ref x1, .ref x8, .ref x20, .ref x39, .ref x41, .ref x43, .ref x45])), (x8, .inr (8, [.ref x1, .ref x9, .ref x10, .ref x12, .ref x14, .int 0, .ref x15, .ref x16, .ref x17, .int 0, .ref x18, .ref x19, .int 0, .int 0, .int 0, .int 0])), (x20, .inr (14, [.ref x1, .ref x8, .ref x21, .ref x28, .ref x35, .int 0, .ref x36, .ref x37, .ref x38, .int 0, .int 0, .int 0, .int 0, .int 0, .int 0, .int 0, .int 0])), (x45, .inr (5, [.ref x46, .ref x47, .int 0, .int 0])), (q100, .inl (ty 5, 2, .inr (.inr (.inr (.inr (fun _ => none)))))), (q101, .inl (ty 5, 5, .inr (.inr (.inr (.inr (fun _ => none))))))] := hD
    refine W.widen (k := 4) (n := 24) (Nat.le_of_ble_eq_true rfl) (Nat.le_of_ble_eq_true rfl) ?_
    have hP9 := hP.sub (ws' := []) [] rfl
    have hD9 := hD.sub (ws' := []) [] (by decide) rfl
    refine W.widen (k := 4) (n := 24) (Nat.le_of_ble_eq_true rfl) (Nat.le_of_ble_eq_true rfl) ?_
    refine vx_ret ?_
    exact W.iret (v := 0) hx hb hr (fun t ht hW => ⟨⟨0, [], rfl, ⟨rfl, c_4, c_5, rfl⟩, wq_B.of ht hP9 hD9⟩, hS.F ht⟩) hS.2.2 dX10_addDisjunction_30
def vs_k_X10_addChoice : List Cond := .code yX10_addChoice cX10_addChoice 6 (some .int) :: ([.methodLink RX10 83 yX10_checkPart, .instanceMethod yX10_checkPart, .selects RX10 yX10_checkPart yX10_checkPart, .initialized RX10, .classLink RX10 60 "java/lang/IllegalArgumentException", .initialized "java/lang/IllegalArgumentException", .methodLink RX10 87 yX10_checkRoomForRule, .instanceMethod yX10_checkRoomForRule, .selects RX10 yX10_checkRoomForRule yX10_checkRoomForRule, .methodLink RX10 76 yX10_forgetGrounding, .instanceMethod yX10_forgetGrounding, .selects RX10 yX10_forgetGrounding yX10_forgetGrounding, .classLink RX10 90 RX8, .instantiable RX8 11, .initialized RX8, .methodLink RX10 92 yX8_init, .instanceMethod yX8_init, .fieldLink RX10 12 "AnswerFold" "program" "LAnswerFold$Program;", .methodLink RX10 95 yX6_tellRule, .instanceMethod yX6_tellRule, .selects RX6 yX6_tellRule yX6_tellRule, .initialized RX6, .methodLink RX10 101 yX6_placesOf, .instanceMethod yX6_placesOf, .selects RX6 yX6_placesOf yX6_placesOf] ++ (vs_k_X10_checkPart ++ ((vx_atS RX10 64 "java/lang/IllegalArgumentException" ["java/lang/RuntimeException", "java/lang/Exception"]).filter goodWord ++ (vs_k_X10_checkRoomForRule ++ (vs_k_X10_forgetGrounding ++ (u_ws RX8 TX8 11 ++ (vs_k_X8_init_c ++ (u_ws RX10 TX10 7 ++ (vs_k_X6_tellRule ++ (vs_k_X6_placesOf))))))))))
theorem iv_k_X10_addChoice_X10 : ∀ w ∈ u_ws RX10 TX10 7, w ∈ vs_k_X10_addChoice := (fun _ h => List.mem_cons_of_mem _ (List.mem_append_right _ (List.mem_append_right _ (List.mem_append_right _ (List.mem_append_right _ (List.mem_append_right _ (List.mem_append_right _ (List.mem_append_right _ (List.mem_append_left _ h)))))))))
theorem iv_k_X10_addChoice_X8 : ∀ w ∈ u_ws RX8 TX8 11, w ∈ vs_k_X10_addChoice := (fun _ h => List.mem_cons_of_mem _ (List.mem_append_right _ (List.mem_append_right _ (List.mem_append_right _ (List.mem_append_right _ (List.mem_append_right _ (List.mem_append_left _ h)))))))
theorem ix_k_X10_addChoice_64 : ∀ w ∈ (vx_atS RX10 64 "java/lang/IllegalArgumentException" ["java/lang/RuntimeException", "java/lang/Exception"]).filter goodWord, w ∈ vs_k_X10_addChoice := (fun _ h => List.mem_cons_of_mem _ (List.mem_append_right _ (List.mem_append_right _ (List.mem_append_left _ h))))
set_option maxRecDepth 20000 in
theorem gv_k_X10_addChoice_0 : GoodIn vs_k_X10_addChoice (wsV RX10 83 RX10 yX10_checkPart vs_k_X10_checkPart) := goodIn_app (goodIn_sub (by decide +kernel) (by decide +kernel)) (goodIn_sub (fun _ h => List.mem_cons_of_mem _ (List.mem_append_right _ (List.mem_append_left _ h))) (by decide +kernel))
set_option maxRecDepth 20000 in
theorem gv_k_X10_addChoice_1 : GoodIn vs_k_X10_addChoice (wsV RX10 87 RX10 yX10_checkRoomForRule vs_k_X10_checkRoomForRule) := goodIn_app (goodIn_sub (by decide +kernel) (by decide +kernel)) (goodIn_sub (fun _ h => List.mem_cons_of_mem _ (List.mem_append_right _ (List.mem_append_right _ (List.mem_append_right _ (List.mem_append_left _ h))))) (by decide +kernel))
set_option maxRecDepth 20000 in
theorem gv_k_X10_addChoice_2 : GoodIn vs_k_X10_addChoice (wsV RX10 76 RX10 yX10_forgetGrounding vs_k_X10_forgetGrounding) := goodIn_app (goodIn_sub (by decide +kernel) (by decide +kernel)) (goodIn_sub (fun _ h => List.mem_cons_of_mem _ (List.mem_append_right _ (List.mem_append_right _ (List.mem_append_right _ (List.mem_append_right _ (List.mem_append_left _ h)))))) (by decide +kernel))
set_option maxRecDepth 20000 in
theorem gv_k_X10_addChoice_3 : GoodIn vs_k_X10_addChoice (vs_k_X8_init_c) := (goodIn_sub (fun _ h => List.mem_cons_of_mem _ (List.mem_append_right _ (List.mem_append_right _ (List.mem_append_right _ (List.mem_append_right _ (List.mem_append_right _ (List.mem_append_right _ (List.mem_append_left _ h)))))))) (by decide +kernel))
set_option maxRecDepth 20000 in
theorem gv_k_X10_addChoice_4 : GoodIn vs_k_X10_addChoice (wsV RX10 95 RX6 yX6_tellRule vs_k_X6_tellRule) := goodIn_app (goodIn_sub (by decide +kernel) (by decide +kernel)) (goodIn_sub (fun _ h => List.mem_cons_of_mem _ (List.mem_append_right _ (List.mem_append_right _ (List.mem_append_right _ (List.mem_append_right _ (List.mem_append_right _ (List.mem_append_right _ (List.mem_append_right _ (List.mem_append_right _ (List.mem_append_left _ h)))))))))) (by decide +kernel))
set_option maxRecDepth 20000 in
theorem gv_k_X10_addChoice_5 : GoodIn vs_k_X10_addChoice (wsV RX10 101 RX6 yX6_placesOf vs_k_X6_placesOf) := goodIn_app (goodIn_sub (by decide +kernel) (by decide +kernel)) (goodIn_sub (fun _ h => List.mem_cons_of_mem _ (List.mem_append_right _ (List.mem_append_right _ (List.mem_append_right _ (List.mem_append_right _ (List.mem_append_right _ (List.mem_append_right _ (List.mem_append_right _ (List.mem_append_right _ (List.mem_append_right _ (h))))))))))) (by decide +kernel))
set_option maxHeartbeats 4000000 in
set_option maxRecDepth 100000 in
theorem k_X10_addChoice (l : Launch) (hl9 : l.stackTraces = false) (D : va_G) (ty : Nat → ClassId) (td mi sz : Nat) (x0 : Nat) (x1 : Nat) (x8 : Nat) (x20 : Nat) (x39 : Nat) (x41 : Nat) (x43 : Nat) (x45 : Nat) (x2 : Nat) (x3 : Nat) (x4 : Nat) (x5 : Nat) (x6 : Nat) (x7 : Nat) (x9 : Nat) (x10 : Nat) (x12 : Nat) (x14 : Nat) (x15 : Nat) (x16 : Nat) (x17 : Nat) (x18 : Nat) (x19 : Nat) (x21 : Nat) (x28 : Nat) (x35 : Nat) (x36 : Nat) (x37 : Nat) (x38 : Nat) (x46 : Nat) (x47 : Nat) (k1 : Int32) (k2 : Int32) (k3 : Int32) (k4 : Int32) : vx_Met l yX10_addChoice vs_k_X10_addChoice { frames := 7, cells := 4, slots := 24, locals := 103 } (va_Pc [.ref x0, .int k1, .int k2, .int k3, .int k4] (wq_P D ty td mi [(x0, .inr (15, [.ref x1, .ref x8, .ref x20, .ref x39, .ref x41, .ref x43, .ref x45])), (x1, .inr (11, [.ref x2, .int 0, .ref x3, .int 0, .ref x4, .ref x5, .int 1, .ref x6, .ref x7, .int 0])), (x3, .inl (ty 4, 20, .inr (.inr (.inr (.inr (fun _ => none)))))), (x8, .inr (8, [.ref x1, .ref x9, .ref x10, .ref x12, .ref x14, .int 0, .ref x15, .ref x16, .ref x17, .int 0, .ref x18, .ref x19, .int 0, .int 0, .int 0, .int 0])), (x20, .inr (14, [.ref x1, .ref x8, .ref x21, .ref x28, .ref x35, .int 0, .ref x36, .ref x37, .ref x38, .int 0, .int 0, .int 0, .int 0, .int 0, .int 0, .int 0, .int 0])), (x45, .inr (5, [.ref x46, .ref x47, .int 0, .int 0]))] sz)) (va_Qi (fun (r : Int32) (u : va_W) => (r = 0 ∧ (¬ (k1 < 0)) ∧ (k1 ≤ 3) ∧ (¬ (k2 < 0)) ∧ (¬ (k3 < k2)) ∧ (k3 ≤ 9) ∧ (k4 = (-1)) ∧ (u = []))) (wq_B D (va_A [(x0, .inr (15, [.ref x1, .ref x8, .ref x20, .ref x39, .ref x41, .ref x43, .ref x45])), (x1, .inr (11, [.ref x2, .int 0, .ref x3, .int 0, .ref x4, .ref x5, .int 1, .ref x6, .ref x7, .int 0])), (x3, .inl (ty 4, 20, .inr (.inr (.inr (.inr (fun _ => none)))))), (x8, .inr (8, [.ref x1, .ref x9, .ref x10, .ref x12, .ref x14, .int 0, .ref x15, .ref x16, .ref x17, .int 0, .ref x18, .ref x19, .int 0, .int 0, .int 0, .int 0])), (x20, .inr (14, [.ref x1, .ref x8, .ref x21, .ref x28, .ref x35, .int 0, .ref x36, .ref x37, .ref x38, .int 0, .int 0, .int 0, .int 0, .int 0, .int 0, .int 0, .int 0])), (x45, .inr (5, [.ref x46, .ref x47, .int 0, .int 0]))] sz)) (va_A [(x0, .inr (15, [.ref x1, .ref x8, .ref x20, .ref x39, .ref x41, .ref x43, .ref x45])), (x1, .inr (11, [.ref x2, .int 0, .ref x3, .int 0, .ref x4, .ref x5, .int 1, .ref x6, .ref x7, .int 0])), (x3, .inl (ty 4, 20, .inr (.inr (.inr (.inr (fun _ => none)))))), (x8, .inr (8, [.ref x1, .ref x9, .ref x10, .ref x12, .ref x14, .int 0, .ref x15, .ref x16, .ref x17, .int 0, .ref x18, .ref x19, .int 0, .int 0, .int 0, .int 0])), (x20, .inr (14, [.ref x1, .ref x8, .ref x21, .ref x28, .ref x35, .int 0, .ref x36, .ref x37, .ref x38, .int 0, .int 0, .int 0, .int 0, .int 0, .int 0, .int 0, .int 0])), (x45, .inr (5, [.ref x46, .ref x47, .int 0, .int 0]))] sz)) (vx_X (fun u : String × va_W => (u = ("java/lang/IllegalArgumentException", []) ∧ (k1 < 0)) ∨ (u = ("java/lang/IllegalArgumentException", []) ∧ (¬ (k1 < 0)) ∧ (¬ (k1 ≤ 3))) ∨ (u = ("java/lang/IllegalArgumentException", []) ∧ (¬ (k1 < 0)) ∧ (k1 ≤ 3) ∧ (k2 < 0)) ∨ (u = ("java/lang/IllegalArgumentException", []) ∧ (¬ (k1 < 0)) ∧ (k1 ≤ 3) ∧ (¬ (k2 < 0)) ∧ (k3 < k2)) ∨ (u = ("java/lang/IllegalArgumentException", []) ∧ (¬ (k1 < 0)) ∧ (k1 ≤ 3) ∧ (¬ (k2 < 0)) ∧ (¬ (k3 < k2)) ∧ (k3 ≤ 9) ∧ (¬ (k4 = (-1)))) ∨ (u = ("java/lang/IllegalArgumentException", []) ∧ (¬ (k1 < 0)) ∧ (k1 ≤ 3) ∧ (¬ (k2 < 0)) ∧ (¬ (k3 < k2)) ∧ (¬ (k3 ≤ 9)))) (wq_BX D (va_A [(x0, .inr (15, [.ref x1, .ref x8, .ref x20, .ref x39, .ref x41, .ref x43, .ref x45])), (x1, .inr (11, [.ref x2, .int 0, .ref x3, .int 0, .ref x4, .ref x5, .int 1, .ref x6, .ref x7, .int 0])), (x3, .inl (ty 4, 20, .inr (.inr (.inr (.inr (fun _ => none)))))), (x8, .inr (8, [.ref x1, .ref x9, .ref x10, .ref x12, .ref x14, .int 0, .ref x15, .ref x16, .ref x17, .int 0, .ref x18, .ref x19, .int 0, .int 0, .int 0, .int 0])), (x20, .inr (14, [.ref x1, .ref x8, .ref x21, .ref x28, .ref x35, .int 0, .ref x36, .ref x37, .ref x38, .int 0, .int 0, .int 0, .int 0, .int 0, .int 0, .int 0, .int 0])), (x45, .inr (5, [.ref x46, .ref x47, .int 0, .int 0]))] sz)) (va_A [(x0, .inr (15, [.ref x1, .ref x8, .ref x20, .ref x39, .ref x41, .ref x43, .ref x45])), (x1, .inr (11, [.ref x2, .int 0, .ref x3, .int 0, .ref x4, .ref x5, .int 1, .ref x6, .ref x7, .int 0])), (x3, .inl (ty 4, 20, .inr (.inr (.inr (.inr (fun _ => none)))))), (x8, .inr (8, [.ref x1, .ref x9, .ref x10, .ref x12, .ref x14, .int 0, .ref x15, .ref x16, .ref x17, .int 0, .ref x18, .ref x19, .int 0, .int 0, .int 0, .int 0])), (x20, .inr (14, [.ref x1, .ref x8, .ref x21, .ref x28, .ref x35, .int 0, .ref x36, .ref x37, .ref x38, .int 0, .int 0, .int 0, .int 0, .int 0, .int 0, .int 0, .int 0])), (x45, .inr (5, [.ref x46, .ref x47, .int 0, .int 0]))] sz)) 4 24 (va_A [(x0, .inr (15, [.ref x1, .ref x8, .ref x20, .ref x39, .ref x41, .ref x43, .ref x45])), (x1, .inr (11, [.ref x2, .int 0, .ref x3, .int 0, .ref x4, .ref x5, .int 1, .ref x6, .ref x7, .int 0])), (x3, .inl (ty 4, 20, .inr (.inr (.inr (.inr (fun _ => none)))))), (x8, .inr (8, [.ref x1, .ref x9, .ref x10, .ref x12, .ref x14, .int 0, .ref x15, .ref x16, .ref x17, .int 0, .ref x18, .ref x19, .int 0, .int 0, .int 0, .int 0])), (x20, .inr (14, [.ref x1, .ref x8, .ref x21, .ref x28, .ref x35, .int 0, .ref x36, .ref x37, .ref x38, .int 0, .int 0, .int 0, .int 0, .int 0, .int 0, .int 0, .int 0])), (x45, .inr (5, [.ref x46, .ref x47, .int 0, .int 0]))] sz) := by
  refine vx_ofW (cc := cX10_addChoice) (maxL := 6) (ret := (some .int)) (by decide) rfl ?_
  intro p e s m args below meth c s₁ B hml hEx hv
  obtain ⟨rfl, hsz, hP, hK, hD0, hE⟩ := hv
  have hx := B.exec
  have hb := B.bytes
  have hr := B.returns
  have hts := atoms_spec (ws := vs_k_X10_addChoice) B.pre
  have hown : s.vm.findClass RX10 = some m.cls := findClass_of_methodNamed B.named
  have hlocks := B.notSynchronized
  subst hsz
  have hD := hD0.self (sz := s.heap.size)
  generalize hAe : va_A [(x0, .inr (15, [.ref x1, .ref x8, .ref x20, .ref x39, .ref x41, .ref x43, .ref x45])), (x1, .inr (11, [.ref x2, .int 0, .ref x3, .int 0, .ref x4, .ref x5, .int 1, .ref x6, .ref x7, .int 0])), (x3, .inl (ty 4, 20, .inr (.inr (.inr (.inr (fun _ => none)))))), (x8, .inr (8, [.ref x1, .ref x9, .ref x10, .ref x12, .ref x14, .int 0, .ref x15, .ref x16, .ref x17, .int 0, .ref x18, .ref x19, .int 0, .int 0, .int 0, .int 0])), (x20, .inr (14, [.ref x1, .ref x8, .ref x21, .ref x28, .ref x35, .int 0, .ref x36, .ref x37, .ref x38, .int 0, .int 0, .int 0, .int 0, .int 0, .int 0, .int 0, .int 0])), (x45, .inr (5, [.ref x46, .ref x47, .int 0, .int 0]))] s.heap.size = A at hD hE ⊢
  have hA : ∀ q : Nat, s.heap.size ≤ q → A q := fun q h => by rw [← hAe]; exact Or.inr h
  have hS : va_S A s.heap s.heap [] := va_S.rf
  have hP : va_P D vwCl [(x0, .inr (15, [.ref x1, .ref x8, .ref x20, .ref x39, .ref x41, .ref x43, .ref x45])), (x1, .inr (11, [.ref x2, .int 0, .ref x3, .int 0, .ref x4, .ref x5, .int 1, .ref x6, .ref x7, .int 0])), (x3, .inl (ty 4, 20, .inr (.inr (.inr (.inr (fun _ => none)))))), (x8, .inr (8, [.ref x1, .ref x9, .ref x10, .ref x12, .ref x14, .int 0, .ref x15, .ref x16, .ref x17, .int 0, .ref x18, .ref x19, .int 0, .int 0, .int 0, .int 0])), (x20, .inr (14, [.ref x1, .ref x8, .ref x21, .ref x28, .ref x35, .int 0, .ref x36, .ref x37, .ref x38, .int 0, .int 0, .int 0, .int 0, .int 0, .int 0, .int 0, .int 0])), (x45, .inr (5, [.ref x46, .ref x47, .int 0, .int 0]))] s.heap := hP
  have hl := lv_entry ([.ref x0, .int k1, .int k2, .int k3, .int k4]) (n := 6) (Nat.le_of_ble_eq_true rfl)
  rw [lg_entry_eq]
  generalize (lg_sl ([.ref x0, .int k1, .int k2, .int k3, .int k4]) ++ List.replicate (6 - (lg_sl ([.ref x0, .int k1, .int k2, .int k3, .int k4])).length) Slot.unset).toArray = ls at hl ⊢
  have hl : lv_has ls 6 [(0, .ref x0), (1, .int k1), (2, .int k2), (3, .int k3), (4, .int k4)] := hl
  refine lv_aload_n hx hb dX10_addChoice_0 rfl (lv_at hl 0 rfl) ?_
  refine lv_iload_n hx hb dX10_addChoice_1 rfl (lv_at hl 1 rfl) ?_
  refine wq_xv (wc := [(x0, .inr (15, [.ref x1, .ref x8, .ref x20, .ref x39, .ref x41, .ref x43, .ref x45]))]) (wr := [(x1, .inr (11, [.ref x2, .int 0, .ref x3, .int 0, .ref x4, .ref x5, .int 1, .ref x6, .ref x7, .int 0])), (x3, .inl (ty 4, 20, .inr (.inr (.inr (.inr (fun _ => none)))))), (x8, .inr (8, [.ref x1, .ref x9, .ref x10, .ref x12, .ref x14, .int 0, .ref x15, .ref x16, .ref x17, .int 0, .ref x18, .ref x19, .int 0, .int 0, .int 0, .int 0])), (x20, .inr (14, [.ref x1, .ref x8, .ref x21, .ref x28, .ref x35, .int 0, .ref x36, .ref x37, .ref x38, .int 0, .int 0, .int 0, .int 0, .int 0, .int 0, .int 0, .int 0])), (x45, .inr (5, [.ref x46, .ref x47, .int 0, .int 0]))]) (vx_runV (As := [.int k1]) (rest := []) ⟨hx, hb, hml, hown, hts⟩ (k_X10_checkPart l hl9 D ty td mi s.heap.size x0 x1 x8 x20 x39 x41 x43 x45 k1) (cwV 1 hts gv_k_X10_addChoice_0 rfl rfl rfl (by decide +kernel) ⟨(Nat.le_of_ble_eq_true rfl), (Nat.le_of_ble_eq_true rfl)⟩) (wq_preV hP hD hK hE hS hA [0] rfl (by decide) 0 15 rfl rfl) rfl rfl hl.1 rfl (lv_room (Nat.le_of_ble_eq_true rfl)) dX10_addChoice_2 ⟨(Nat.le_of_ble_eq_true rfl), (Nat.le_of_ble_eq_true rfl)⟩) hS hA hP hD [0] [1, 2, 3, 4, 5] rfl rfl (by decide) (by decide) (fun E9 u H locs q9 ce hw hP hD hS hce hcv hcl => ?_) (fun u H locs hw hP hD hS => ?_)
  · rcases hw with ⟨hEq, c_1⟩ | ⟨hEq, c_2, c_3⟩
    · cases hEq
      have hP : va_P D vwCl [(x1, .inr (11, [.ref x2, .int 0, .ref x3, .int 0, .ref x4, .ref x5, .int 1, .ref x6, .ref x7, .int 0])), (x3, .inl (ty 4, 20, .inr (.inr (.inr (.inr (fun _ => none)))))), (x8, .inr (8, [.ref x1, .ref x9, .ref x10, .ref x12, .ref x14, .int 0, .ref x15, .ref x16, .ref x17, .int 0, .ref x18, .ref x19, .int 0, .int 0, .int 0, .int 0])), (x20, .inr (14, [.ref x1, .ref x8, .ref x21, .ref x28, .ref x35, .int 0, .ref x36, .ref x37, .ref x38, .int 0, .int 0, .int 0, .int 0, .int 0, .int 0, .int 0, .int 0])), (x45, .inr (5, [.ref x46, .ref x47, .int 0, .int 0]))] H := hP
      have hD : va_D A [(x1, .inr (11, [.ref x2, .int 0, .ref x3, .int 0, .ref x4, .ref x5, .int 1, .ref x6, .ref x7, .int 0])), (x3, .inl (ty 4, 20, .inr (.inr (.inr (.inr (fun _ => none)))))), (x8, .inr (8, [.ref x1, .ref x9, .ref x10, .ref x12, .ref x14, .int 0, .ref x15, .ref x16, .ref x17, .int 0, .ref x18, .ref x19, .int 0, .int 0, .int 0, .int 0])), (x20, .inr (14, [.ref x1, .ref x8, .ref x21, .ref x28, .ref x35, .int 0, .ref x36, .ref x37, .ref x38, .int 0, .int 0, .int 0, .int 0, .int 0, .int 0, .int 0, .int 0])), (x45, .inr (5, [.ref x46, .ref x47, .int 0, .int 0]))] := hD
      refine vx_widen (k := 4) (n := 24) (Nat.le_of_ble_eq_true rfl) (Nat.le_of_ble_eq_true rfl) ?_
      exact vx_out (E := "java/lang/IllegalArgumentException") (fun x hx => (hEx x hx).elim) hlocks hce hcv hcl (fun t ht ha => wq_thr0 hS (by exact (Or.inl ⟨rfl, c_1⟩)) ht) hS.2.2 (Nat.le_refl _) (Nat.le_refl _)
    · cases hEq
      have hP : va_P D vwCl [(x1, .inr (11, [.ref x2, .int 0, .ref x3, .int 0, .ref x4, .ref x5, .int 1, .ref x6, .ref x7, .int 0])), (x3, .inl (ty 4, 20, .inr (.inr (.inr (.inr (fun _ => none)))))), (x8, .inr (8, [.ref x1, .ref x9, .ref x10, .ref x12, .ref x14, .int 0, .ref x15, .ref x16, .ref x17, .int 0, .ref x18, .ref x19, .int 0, .int 0, .int 0, .int 0])), (x20, .inr (14, [.ref x1, .ref x8, .ref x21, .ref x28, .ref x35, .int 0, .ref x36, .ref x37, .ref x38, .int 0, .int 0, .int 0, .int 0, .int 0, .int 0, .int 0, .int 0])), (x45, .inr (5, [.ref x46, .ref x47, .int 0, .int 0]))] H := hP
      have hD : va_D A [(x1, .inr (11, [.ref x2, .int 0, .ref x3, .int 0, .ref x4, .ref x5, .int 1, .ref x6, .ref x7, .int 0])), (x3, .inl (ty 4, 20, .inr (.inr (.inr (.inr (fun _ => none)))))), (x8, .inr (8, [.ref x1, .ref x9, .ref x10, .ref x12, .ref x14, .int 0, .ref x15, .ref x16, .ref x17, .int 0, .ref x18, .ref x19, .int 0, .int 0, .int 0, .int 0])), (x20, .inr (14, [.ref x1, .ref x8, .ref x21, .ref x28, .ref x35, .int 0, .ref x36, .ref x37, .ref x38, .int 0, .int 0, .int 0, .int 0, .int 0, .int 0, .int 0, .int 0])), (x45, .inr (5, [.ref x46, .ref x47, .int 0, .int 0]))] := hD
      refine vx_widen (k := 4) (n := 24) (Nat.le_of_ble_eq_true rfl) (Nat.le_of_ble_eq_true rfl) ?_
      exact vx_out (E := "java/lang/IllegalArgumentException") (fun x hx => (hEx x hx).elim) hlocks hce hcv hcl (fun t ht ha => wq_thr0 hS (by exact (Or.inr (Or.inl ⟨rfl, c_2, c_3⟩))) ht) hS.2.2 (Nat.le_refl _) (Nat.le_refl _)
  · obtain ⟨c_4, c_5, rfl⟩ := hw
    have hP : va_P D vwCl [(x1, .inr (11, [.ref x2, .int 0, .ref x3, .int 0, .ref x4, .ref x5, .int 1, .ref x6, .ref x7, .int 0])), (x3, .inl (ty 4, 20, .inr (.inr (.inr (.inr (fun _ => none)))))), (x8, .inr (8, [.ref x1, .ref x9, .ref x10, .ref x12, .ref x14, .int 0, .ref x15, .ref x16, .ref x17, .int 0, .ref x18, .ref x19, .int 0, .int 0, .int 0, .int 0])), (x20, .inr (14, [.ref x1, .ref x8, .ref x21, .ref x28, .ref x35, .int 0, .ref x36, .ref x37, .ref x38, .int 0, .int 0, .int 0, .int 0, .int 0, .int 0, .int 0, .int 0])), (x45, .inr (5, [.ref x46, .ref x47, .int 0, .int 0])), (x0, .inr (15, [.ref x1, .ref x8, .ref x20, .ref x39, .ref x41, .ref x43, .ref x45]))] H := hP
    have hD : va_D A [(x1, .inr (11, [.ref x2, .int 0, .ref x3, .int 0, .ref x4, .ref x5, .int 1, .ref x6, .ref x7, .int 0])), (x3, .inl (ty 4, 20, .inr (.inr (.inr (.inr (fun _ => none)))))), (x8, .inr (8, [.ref x1, .ref x9, .ref x10, .ref x12, .ref x14, .int 0, .ref x15, .ref x16, .ref x17, .int 0, .ref x18, .ref x19, .int 0, .int 0, .int 0, .int 0])), (x20, .inr (14, [.ref x1, .ref x8, .ref x21, .ref x28, .ref x35, .int 0, .ref x36, .ref x37, .ref x38, .int 0, .int 0, .int 0, .int 0, .int 0, .int 0, .int 0, .int 0])), (x45, .inr (5, [.ref x46, .ref x47, .int 0, .int 0])), (x0, .inr (15, [.ref x1, .ref x8, .ref x20, .ref x39, .ref x41, .ref x43, .ref x45]))] := hD
    refine W.widen (k := 1) (n := 6) (Nat.le_of_ble_eq_true rfl) (Nat.le_of_ble_eq_true rfl) ?_
    refine lv_iload_n hx hb dX10_addChoice_5 rfl (lv_at hl 2 rfl) ?_
    refine lv_if_lt (tgt := 20) hx hb dX10_addChoice_6 (by decide) (fun c_6 => ?_) (fun c_6 => ?_)
    · obtain ⟨sa, hsa⟩ := hE.st 99 "bounds are 0 to 9, the upper one not less than the lower one" (by decide +kernel)
      exact vx_throwS (own := RX10) (cls := "java/lang/IllegalArgumentException") (text := "bounds are 0 to 9, the upper one not less than the lower one") (names := ["java/lang/RuntimeException", "java/lang/Exception"]) (ik := 60) (is := 99) (ic := 64) (sa := sa) (A := A) hx hb hl9 hown (by decide +kernel) (by decide +kernel) (hts (.classLink RX10 60 "java/lang/IllegalArgumentException") (by decide +kernel)) (hts (.initialized "java/lang/IllegalArgumentException") (by decide +kernel)) hsa (wq_hat hE hts ix_k_X10_addChoice_64 (by decide +kernel) (by decide +kernel)) (by decide +kernel) hE.zu hE.zs hS (hl.1.trans hml.symm) dX10_addChoice_20 dX10_addChoice_23 dX10_addChoice_24 dX10_addChoice_26 dX10_addChoice_29 (fun x hx => (hEx x hx).elim) (Nat.le_of_ble_eq_true rfl) (Nat.le_of_ble_eq_true rfl) (Nat.le_of_ble_eq_true rfl) (Nat.le_of_ble_eq_true rfl) hlocks (fun t ha hz hk => wq_thr hS (by exact (Or.inr (Or.inr (Or.inl ⟨rfl, c_4, c_5, c_6⟩)))) hz hk) hS.2.2 (Nat.le_of_ble_eq_true rfl) (Nat.le_of_ble_eq_true rfl)
    · refine lv_iload_n hx hb dX10_addChoice_9 rfl (lv_at hl 3 rfl) ?_
      refine lv_iload_n hx hb dX10_addChoice_10 rfl (lv_at hl 2 rfl) ?_
      refine lv_icmp_lt (tgt := 20) hx hb dX10_addChoice_11 (by decide) (fun c_7 => ?_) (fun c_7 => ?_)
      · obtain ⟨sa, hsa⟩ := hE.st 99 "bounds are 0 to 9, the upper one not less than the lower one" (by decide +kernel)
        exact vx_throwS (own := RX10) (cls := "java/lang/IllegalArgumentException") (text := "bounds are 0 to 9, the upper one not less than the lower one") (names := ["java/lang/RuntimeException", "java/lang/Exception"]) (ik := 60) (is := 99) (ic := 64) (sa := sa) (A := A) hx hb hl9 hown (by decide +kernel) (by decide +kernel) (hts (.classLink RX10 60 "java/lang/IllegalArgumentException") (by decide +kernel)) (hts (.initialized "java/lang/IllegalArgumentException") (by decide +kernel)) hsa (wq_hat hE hts ix_k_X10_addChoice_64 (by decide +kernel) (by decide +kernel)) (by decide +kernel) hE.zu hE.zs hS (hl.1.trans hml.symm) dX10_addChoice_20 dX10_addChoice_23 dX10_addChoice_24 dX10_addChoice_26 dX10_addChoice_29 (fun x hx => (hEx x hx).elim) (Nat.le_of_ble_eq_true rfl) (Nat.le_of_ble_eq_true rfl) (Nat.le_of_ble_eq_true rfl) (Nat.le_of_ble_eq_true rfl) hlocks (fun t ha hz hk => wq_thr hS (by exact (Or.inr (Or.inr (Or.inr (Or.inl ⟨rfl, c_4, c_5, c_6, c_7⟩))))) hz hk) hS.2.2 (Nat.le_of_ble_eq_true rfl) (Nat.le_of_ble_eq_true rfl)
      · refine lv_iload_n hx hb dX10_addChoice_14 rfl (lv_at hl 3 rfl) ?_
        refine lv_bipush (v := 9) hx hb dX10_addChoice_15 (by decide) ?_
        refine lv_icmp_le (tgt := 30) hx hb dX10_addChoice_17 (by decide) (fun c_8 => ?_) (fun c_8 => ?_)
        · refine lv_iload hx hb dX10_addChoice_30 (lv_at hl 4 rfl) ?_
          refine lv_iconst (v := (-1)) hx hb dX10_addChoice_32 (by decide) ?_
          refine lv_icmp_eq (tgt := 59) hx hb dX10_addChoice_33 (by decide) (fun c_9 => ?_) (fun c_9 => ?_)
          · refine lv_aload_n hx hb dX10_addChoice_59 rfl (lv_at hl 0 rfl) ?_
            refine wq_v (wc := [(x0, .inr (15, [.ref x1, .ref x8, .ref x20, .ref x39, .ref x41, .ref x43, .ref x45])), (x1, .inr (11, [.ref x2, .int 0, .ref x3, .int 0, .ref x4, .ref x5, .int 1, .ref x6, .ref x7, .int 0]))]) (wr := [(x3, .inl (ty 4, 20, .inr (.inr (.inr (.inr (fun _ => none)))))), (x8, .inr (8, [.ref x1, .ref x9, .ref x10, .ref x12, .ref x14, .int 0, .ref x15, .ref x16, .ref x17, .int 0, .ref x18, .ref x19, .int 0, .int 0, .int 0, .int 0])), (x20, .inr (14, [.ref x1, .ref x8, .ref x21, .ref x28, .ref x35, .int 0, .ref x36, .ref x37, .ref x38, .int 0, .int 0, .int 0, .int 0, .int 0, .int 0, .int 0, .int 0])), (x45, .inr (5, [.ref x46, .ref x47, .int 0, .int 0]))]) (va_runV (As := []) (rest := []) ⟨hx, hb, hml, hown, hts⟩ (k_X10_checkRoomForRule l D ty td mi H.size x0 x1 x8 x20 x39 x41 x43 x45 x2 x3 x4 x5 x6 x7) (cwV 0 hts gv_k_X10_addChoice_1 rfl rfl rfl (by decide +kernel) ⟨(Nat.le_of_ble_eq_true rfl), (Nat.le_of_ble_eq_true rfl)⟩) (wq_preV hP hD hK hE hS hA [5, 0] rfl (by decide) 5 15 rfl rfl) rfl rfl hl.1 rfl (lv_room (Nat.le_of_ble_eq_true rfl)) dX10_addChoice_60 ⟨(Nat.le_of_ble_eq_true rfl), (Nat.le_of_ble_eq_true rfl)⟩) hS hA hP hD [5, 0] [1, 2, 3, 4] rfl rfl (by decide) (by decide) (fun u H locs hw hP hD hS => ?_)
            obtain rfl := hw
            have hP : va_P D vwCl [(x3, .inl (ty 4, 20, .inr (.inr (.inr (.inr (fun _ => none)))))), (x8, .inr (8, [.ref x1, .ref x9, .ref x10, .ref x12, .ref x14, .int 0, .ref x15, .ref x16, .ref x17, .int 0, .ref x18, .ref x19, .int 0, .int 0, .int 0, .int 0])), (x20, .inr (14, [.ref x1, .ref x8, .ref x21, .ref x28, .ref x35, .int 0, .ref x36, .ref x37, .ref x38, .int 0, .int 0, .int 0, .int 0, .int 0, .int 0, .int 0, .int 0])), (x45, .inr (5, [.ref x46, .ref x47, .int 0, .int 0])), (x0, .inr (15, [.ref x1, .ref x8, .ref x20, .ref x39, .ref x41, .ref x43, .ref x45])), (x1, .inr (11, [.ref x2, .int 0, .ref x3, .int 0, .ref x4, .ref x5, .int 1, .ref x6, .ref x7, .int 0]))] H := hP
            have hD : va_D A [(x3, .inl (ty 4, 20, .inr (.inr (.inr (.inr (fun _ => none)))))), (x8, .inr (8, [.ref x1, .ref x9, .ref x10, .ref x12, .ref x14, .int 0, .ref x15, .ref x16, .ref x17, .int 0, .ref x18, .ref x19, .int 0, .int 0, .int 0, .int 0])), (x20, .inr (14, [.ref x1, .ref x8, .ref x21, .ref x28, .ref x35, .int 0, .ref x36, .ref x37, .ref x38, .int 0, .int 0, .int 0, .int 0, .int 0, .int 0, .int 0, .int 0])), (x45, .inr (5, [.ref x46, .ref x47, .int 0, .int 0])), (x0, .inr (15, [.ref x1, .ref x8, .ref x20, .ref x39, .ref x41, .ref x43, .ref x45])), (x1, .inr (11, [.ref x2, .int 0, .ref x3, .int 0, .ref x4, .ref x5, .int 1, .ref x6, .ref x7, .int 0]))] := hD
            refine W.widen (k := 1) (n := 6) (Nat.le_of_ble_eq_true rfl) (Nat.le_of_ble_eq_true rfl) ?_
            refine lv_aload_n hx hb dX10_addChoice_63 rfl (lv_at hl 0 rfl) ?_
            refine wq_v (wc := [(x0, .inr (15, [.ref x1, .ref x8, .ref x20, .ref x39, .ref x41, .ref x43, .ref x45])), (x8, .inr (8, [.ref x1, .ref x9, .ref x10, .ref x12, .ref x14, .int 0, .ref x15, .ref x16, .ref x17, .int 0, .ref x18, .ref x19, .int 0, .int 0, .int 0, .int 0])), (x20, .inr (14, [.ref x1, .ref x8, .ref x21, .ref x28, .ref x35, .int 0, .ref x36, .ref x37, .ref x38, .int 0, .int 0, .int 0, .int 0, .int 0, .int 0, .int 0, .int 0])), (x45, .inr (5, [.ref x46, .ref x47, .int 0, .int 0]))]) (wr := [(x3, .inl (ty 4, 20, .inr (.inr (.inr (.inr (fun _ => none)))))), (x1, .inr (11, [.ref x2, .int 0, .ref x3, .int 0, .ref x4, .ref x5, .int 1, .ref x6, .ref x7, .int 0]))]) (va_runV (As := []) (rest := []) ⟨hx, hb, hml, hown, hts⟩ (k_X10_forgetGrounding l D ty td mi H.size x0 x1 x8 x20 x39 x41 x43 x45 x9 x10 x12 x14 x15 x16 x17 x18 x19 x21 x28 x35 x36 x37 x38 x46 x47) (cwV 0 hts gv_k_X10_addChoice_2 rfl rfl rfl (by decide +kernel) ⟨(Nat.le_of_ble_eq_true rfl), (Nat.le_of_ble_eq_true rfl)⟩) (wq_preV hP hD hK hE hS hA [4, 1, 2, 3] rfl (by decide) 4 15 rfl rfl) rfl rfl hl.1 rfl (lv_room (Nat.le_of_ble_eq_true rfl)) dX10_addChoice_64 ⟨(Nat.le_of_ble_eq_true rfl), (Nat.le_of_ble_eq_true rfl)⟩) hS hA hP hD [4, 1, 2, 3] [0, 5] rfl rfl (by decide) (by decide) (fun u H locs hw hP hD hS => ?_)
            obtain rfl := hw
            have hP : va_P D vwCl [(x3, .inl (ty 4, 20, .inr (.inr (.inr (.inr (fun _ => none)))))), (x1, .inr (11, [.ref x2, .int 0, .ref x3, .int 0, .ref x4, .ref x5, .int 1, .ref x6, .ref x7, .int 0])), (x0, .inr (15, [.ref x1, .ref x8, .ref x20, .ref x39, .ref x41, .ref x43, .ref x45])), (x8, .inr (8, [.ref x1, .ref x9, .ref x10, .ref x12, .ref x14, .int 0, .ref x15, .ref x16, .ref x17, .int 0, .ref x18, .ref x19, .int 0, .int 0, .int 0, .int 0])), (x20, .inr (14, [.ref x1, .ref x8, .ref x21, .ref x28, .ref x35, .int 0, .ref x36, .ref x37, .ref x38, .int 0, .int 0, .int 0, .int 0, .int 0, .int 0, .int 0, .int 0])), (x45, .inr (5, [.ref x46, .ref x47, .int 0, .int 0]))] H := hP
            have hD : va_D A [(x3, .inl (ty 4, 20, .inr (.inr (.inr (.inr (fun _ => none)))))), (x1, .inr (11, [.ref x2, .int 0, .ref x3, .int 0, .ref x4, .ref x5, .int 1, .ref x6, .ref x7, .int 0])), (x0, .inr (15, [.ref x1, .ref x8, .ref x20, .ref x39, .ref x41, .ref x43, .ref x45])), (x8, .inr (8, [.ref x1, .ref x9, .ref x10, .ref x12, .ref x14, .int 0, .ref x15, .ref x16, .ref x17, .int 0, .ref x18, .ref x19, .int 0, .int 0, .int 0, .int 0])), (x20, .inr (14, [.ref x1, .ref x8, .ref x21, .ref x28, .ref x35, .int 0, .ref x36, .ref x37, .ref x38, .int 0, .int 0, .int 0, .int 0, .int 0, .int 0, .int 0, .int 0])), (x45, .inr (5, [.ref x46, .ref x47, .int 0, .int 0]))] := hD
            refine W.widen (k := 1) (n := 6) (Nat.le_of_ble_eq_true rfl) (Nat.le_of_ble_eq_true rfl) ?_
            refine va_new (ci := 13) (fs := [.int 0, .int 0, .int 0, .int 0, .int 0, .int 0, .int 0, .null, .int 0, .null, .int 0]) (C := RX8) (T := TX8) (N := 11) hx hb hts iv_k_X10_addChoice_X8 tyX8 tyX8_ok hown (hts (.classLink RX10 90 RX8) (by decide +kernel)) (hts (.instantiable RX8 11) (by decide +kernel)) (hts (.initialized RX8) (by decide +kernel)) hK hP hD hS hA rfl (fun j hj => by rcases (show j = 0 ∨ j = 1 ∨ j = 2 ∨ j = 3 ∨ j = 4 ∨ j = 5 ∨ j = 6 ∨ j = 7 ∨ j = 8 ∨ j = 9 ∨ j = 10 by omega) with rfl | rfl | rfl | rfl | rfl | rfl | rfl | rfl | rfl | rfl | rfl <;> rfl) (Nat.le_of_ble_eq_true rfl) (Nat.le_of_ble_eq_true rfl) dX10_addChoice_67 (fun q102 H hP hD hS => ?_)
            have hP : va_P D vwCl [(x3, .inl (ty 4, 20, .inr (.inr (.inr (.inr (fun _ => none)))))), (x1, .inr (11, [.ref x2, .int 0, .ref x3, .int 0, .ref x4, .ref x5, .int 1, .ref x6, .ref x7, .int 0])), (x0, .inr (15, [.ref x1, .ref x8, .ref x20, .ref x39, .ref x41, .ref x43, .ref x45])), (x8, .inr (8, [.ref x1, .ref x9, .ref x10, .ref x12, .ref x14, .int 0, .ref x15, .ref x16, .ref x17, .int 0, .ref x18, .ref x19, .int 0, .int 0, .int 0, .int 0])), (x20, .inr (14, [.ref x1, .ref x8, .ref x21, .ref x28, .ref x35, .int 0, .ref x36, .ref x37, .ref x38, .int 0, .int 0, .int 0, .int 0, .int 0, .int 0, .int 0, .int 0])), (x45, .inr (5, [.ref x46, .ref x47, .int 0, .int 0])), (q102, .inr (13, [.int 0, .int 0, .int 0, .int 0, .int 0, .int 0, .int 0, .null, .int 0, .null, .int 0]))] H := hP
            have hD : va_D A [(x3, .inl (ty 4, 20, .inr (.inr (.inr (.inr (fun _ => none)))))), (x1, .inr (11, [.ref x2, .int 0, .ref x3, .int 0, .ref x4, .ref x5, .int 1, .ref x6, .ref x7, .int 0])), (x0, .inr (15, [.ref x1, .ref x8, .ref x20, .ref x39, .ref x41, .ref x43, .ref x45])), (x8, .inr (8, [.ref x1, .ref x9, .ref x10, .ref x12, .ref x14, .int 0, .ref x15, .ref x16, .ref x17, .int 0, .ref x18, .ref x19, .int 0, .int 0, .int 0, .int 0])), (x20, .inr (14, [.ref x1, .ref x8, .ref x21, .ref x28, .ref x35, .int 0, .ref x36, .ref x37, .ref x38, .int 0, .int 0, .int 0, .int 0, .int 0, .int 0, .int 0, .int 0])), (x45, .inr (5, [.ref x46, .ref x47, .int 0, .int 0])), (q102, .inr (13, [.int 0, .int 0, .int 0, .int 0, .int 0, .int 0, .int 0, .null, .int 0, .null, .int 0]))] := hD
            refine W.widen (k := 2) (n := 17) (Nat.le_of_ble_eq_true rfl) (Nat.le_of_ble_eq_true rfl) ?_
            refine lv_dup hx hb dX10_addChoice_70 rfl ?_
            refine lv_bipush (v := 99) hx hb dX10_addChoice_71 (by decide) ?_
            refine lv_iload_n hx hb dX10_addChoice_73 rfl (lv_at hl 1 rfl) ?_
            refine wq_v (wc := [(q102, .inr (13, [.int 0, .int 0, .int 0, .int 0, .int 0, .int 0, .int 0, .null, .int 0, .null, .int 0]))]) (wr := [(x3, .inl (ty 4, 20, .inr (.inr (.inr (.inr (fun _ => none)))))), (x1, .inr (11, [.ref x2, .int 0, .ref x3, .int 0, .ref x4, .ref x5, .int 1, .ref x6, .ref x7, .int 0])), (x0, .inr (15, [.ref x1, .ref x8, .ref x20, .ref x39, .ref x41, .ref x43, .ref x45])), (x8, .inr (8, [.ref x1, .ref x9, .ref x10, .ref x12, .ref x14, .int 0, .ref x15, .ref x16, .ref x17, .int 0, .ref x18, .ref x19, .int 0, .int 0, .int 0, .int 0])), (x20, .inr (14, [.ref x1, .ref x8, .ref x21, .ref x28, .ref x35, .int 0, .ref x36, .ref x37, .ref x38, .int 0, .int 0, .int 0, .int 0, .int 0, .int 0, .int 0, .int 0])), (x45, .inr (5, [.ref x46, .ref x47, .int 0, .int 0]))]) (va_runI (As := [.int 99, .int k1]) (rest := [.ref q102]) ⟨hx, hb, hml, hown, hts⟩ (k_X8_init_c l D ty td mi H.size q102 k1) (cwI 2 hts gv_k_X10_addChoice_3 rfl rfl rfl (hts (.initialized RX8) (by decide +kernel)) (hts (.methodLink RX10 92 yX8_init) (by decide +kernel)) (hts (.instanceMethod yX8_init) (by decide +kernel)) rfl (by decide +kernel) ⟨(Nat.le_of_ble_eq_true rfl), (Nat.le_of_ble_eq_true rfl)⟩) (wq_preS hP hD hK hE hS hA [6] rfl (by decide)) rfl rfl hl.1 rfl (lv_room (Nat.le_of_ble_eq_true rfl)) dX10_addChoice_74 ⟨(Nat.le_of_ble_eq_true rfl), (Nat.le_of_ble_eq_true rfl)⟩) hS hA hP hD [6] [0, 1, 2, 3, 4, 5] rfl rfl (by decide) (by decide) (fun u H locs hw hP hD hS => ?_)
            obtain ⟨q103, q104, rfl⟩ := hw
            have hP : va_P D vwCl [(x3, .inl (ty 4, 20, .inr (.inr (.inr (.inr (fun _ => none)))))), (x1, .inr (11, [.ref x2, .int 0, .ref x3, .int 0, .ref x4, .ref x5, .int 1, .ref x6, .ref x7, .int 0])), (x0, .inr (15, [.ref x1, .ref x8, .ref x20, .ref x39, .ref x41, .ref x43, .ref x45])), (x8, .inr (8, [.ref x1, .ref x9, .ref x10, .ref x12, .ref x14, .int 0, .ref x15, .ref x16, .ref x17, .int 0, .ref x18, .ref x19, .int 0, .int 0, .int 0, .int 0])), (x20, .inr (14, [.ref x1, .ref x8, .ref x21, .ref x28, .ref x35, .int 0, .ref x36, .ref x37, .ref x38, .int 0, .int 0, .int 0, .int 0, .int 0, .int 0, .int 0, .int 0])), (x45, .inr (5, [.ref x46, .ref x47, .int 0, .int 0])), (q102, .inr (13, [.int 99, .int k1, .int 0, .int 0, .int (-1), .int 0, .int 0, .ref q103, .int 0, .ref q104, .int 0])), (q103, .inl (ty 5, 2, .inr (.inr (.inr (.inr (fun _ => none)))))), (q104, .inl (ty 5, 5, .inr (.inr (.inr (.inr (fun _ => none))))))] H := hP
            have hD : va_D A [(x3, .inl (ty 4, 20, .inr (.inr (.inr (.inr (fun _ => none)))))), (x1, .inr (11, [.ref x2, .int 0, .ref x3, .int 0, .ref x4, .ref x5, .int 1, .ref x6, .ref x7, .int 0])), (x0, .inr (15, [.ref x1, .ref x8, .ref x20, .ref x39, .ref x41, .ref x43, .ref x45])), (x8, .inr (8, [.ref x1, .ref x9, .ref x10, .ref x12, .ref x14, .int 0, .ref x15, .ref x16, .ref x17, .int 0, .ref x18, .ref x19, .int 0, .int 0, .int 0, .int 0])), (x20, .inr (14, [.ref x1, .ref x8, .ref x21, .ref x28, .ref x35, .int 0, .ref x36, .ref x37, .ref x38, .int 0, .int 0, .int 0, .int 0, .int 0, .int 0, .int 0, .int 0])), (x45, .inr (5, [.ref x46, .ref x47, .int 0, .int 0])), (q102, .inr (13, [.int 99, .int k1, .int 0, .int 0, .int (-1), .int 0, .int 0, .ref q103, .int 0, .ref q104, .int 0])), (q103, .inl (ty 5, 2, .inr (.inr (.inr (.inr (fun _ => none)))))), (q104, .inl (ty 5, 5, .inr (.inr (.inr (.inr (fun _ => none))))))] := hD
            refine W.widen (k := 4) (n := 24) (Nat.le_of_ble_eq_true rfl) (Nat.le_of_ble_eq_true rfl) ?_
            refine lv_astore (lv' := [(5, .ref q102), (0, .ref x0), (1, .int k1), (2, .int k2), (3, .int k3), (4, .int k4)]) hx hb dX10_addChoice_77 hl (by decide) rfl (fun ls hl => ?_)
            refine lv_aload hx hb dX10_addChoice_79 (lv_at hl 0 rfl) ?_
            refine lv_iload_n hx hb dX10_addChoice_81 rfl (lv_at hl 3 rfl) ?_
            refine va_putN (D := D) (ci := 13) (v := .int k2) (ty := tyX8 2) (C := RX8) (T := TX8) (N := 11) hx hb hts iv_k_X10_addChoice_X8 tyX8 tyX8_ok nmX8 hown hK hP hD hS 6 rfl rfl 2 (by decide) (hE.at (.fieldLinkNest "AnswerFold" 106 "AnswerFold$Rule" "lower" "I" "AnswerFold") (by decide +kernel)) (fun _ h9 => h9) rfl (by decide +kernel) rfl rfl (Nat.le_of_ble_eq_true rfl) dX10_addChoice_82 (fun H locs hP hD hS => ?_)
            have hP : va_P D vwCl [(x3, .inl (ty 4, 20, .inr (.inr (.inr (.inr (fun _ => none)))))), (x1, .inr (11, [.ref x2, .int 0, .ref x3, .int 0, .ref x4, .ref x5, .int 1, .ref x6, .ref x7, .int 0])), (x0, .inr (15, [.ref x1, .ref x8, .ref x20, .ref x39, .ref x41, .ref x43, .ref x45])), (x8, .inr (8, [.ref x1, .ref x9, .ref x10, .ref x12, .ref x14, .int 0, .ref x15, .ref x16, .ref x17, .int 0, .ref x18, .ref x19, .int 0, .int 0, .int 0, .int 0])), (x20, .inr (14, [.ref x1, .ref x8, .ref x21, .ref x28, .ref x35, .int 0, .ref x36, .ref x37, .ref x38, .int 0, .int 0, .int 0, .int 0, .int 0, .int 0, .int 0, .int 0])), (x45, .inr (5, [.ref x46, .ref x47, .int 0, .int 0])), (q102, .inr (13, [.int 99, .int k1, .int k2, .int 0, .int (-1), .int 0, .int 0, .ref q103, .int 0, .ref q104, .int 0])), (q103, .inl (ty 5, 2, .inr (.inr (.inr (.inr (fun _ => none)))))), (q104, .inl (ty 5, 5, .inr (.inr (.inr (.inr (fun _ => none))))))] H := hP
            have hD : va_D A [(x3, .inl (ty 4, 20, .inr (.inr (.inr (.inr (fun _ => none)))))), (x1, .inr (11, [.ref x2, .int 0, .ref x3, .int 0, .ref x4, .ref x5, .int 1, .ref x6, .ref x7, .int 0])), (x0, .inr (15, [.ref x1, .ref x8, .ref x20, .ref x39, .ref x41, .ref x43, .ref x45])), (x8, .inr (8, [.ref x1, .ref x9, .ref x10, .ref x12, .ref x14, .int 0, .ref x15, .ref x16, .ref x17, .int 0, .ref x18, .ref x19, .int 0, .int 0, .int 0, .int 0])), (x20, .inr (14, [.ref x1, .ref x8, .ref x21, .ref x28, .ref x35, .int 0, .ref x36, .ref x37, .ref x38, .int 0, .int 0, .int 0, .int 0, .int 0, .int 0, .int 0, .int 0])), (x45, .inr (5, [.ref x46, .ref x47, .int 0, .int 0])), (q102, .inr (13, [.int 99, .int k1, .int k2, .int 0, .int (-1), .int 0, .int 0, .ref q103, .int 0, .ref q104, .int 0])), (q103, .inl (ty 5, 2, .inr (.inr (.inr (.inr (fun _ => none)))))), (q104, .inl (ty 5, 5, .inr (.inr (.inr (.inr (fun _ => none))))))] := hD
            refine lv_aload hx hb dX10_addChoice_85 (lv_at hl 0 rfl) ?_
            refine lv_iload_n hx hb dX10_addChoice_87 rfl (lv_at hl 4 rfl) ?_
            refine va_putN (D := D) (ci := 13) (v := .int k3) (ty := tyX8 3) (C := RX8) (T := TX8) (N := 11) hx hb hts iv_k_X10_addChoice_X8 tyX8 tyX8_ok nmX8 hown hK hP hD hS 6 rfl rfl 3 (by decide) (hE.at (.fieldLinkNest "AnswerFold" 109 "AnswerFold$Rule" "upper" "I" "AnswerFold") (by decide +kernel)) (fun _ h9 => h9) rfl (by decide +kernel) rfl rfl (Nat.le_of_ble_eq_true rfl) dX10_addChoice_88 (fun H locs hP hD hS => ?_)
            have hP : va_P D vwCl [(x3, .inl (ty 4, 20, .inr (.inr (.inr (.inr (fun _ => none)))))), (x1, .inr (11, [.ref x2, .int 0, .ref x3, .int 0, .ref x4, .ref x5, .int 1, .ref x6, .ref x7, .int 0])), (x0, .inr (15, [.ref x1, .ref x8, .ref x20, .ref x39, .ref x41, .ref x43, .ref x45])), (x8, .inr (8, [.ref x1, .ref x9, .ref x10, .ref x12, .ref x14, .int 0, .ref x15, .ref x16, .ref x17, .int 0, .ref x18, .ref x19, .int 0, .int 0, .int 0, .int 0])), (x20, .inr (14, [.ref x1, .ref x8, .ref x21, .ref x28, .ref x35, .int 0, .ref x36, .ref x37, .ref x38, .int 0, .int 0, .int 0, .int 0, .int 0, .int 0, .int 0, .int 0])), (x45, .inr (5, [.ref x46, .ref x47, .int 0, .int 0])), (q102, .inr (13, [.int 99, .int k1, .int k2, .int k3, .int (-1), .int 0, .int 0, .ref q103, .int 0, .ref q104, .int 0])), (q103, .inl (ty 5, 2, .inr (.inr (.inr (.inr (fun _ => none)))))), (q104, .inl (ty 5, 5, .inr (.inr (.inr (.inr (fun _ => none))))))] H := hP
            have hD : va_D A [(x3, .inl (ty 4, 20, .inr (.inr (.inr (.inr (fun _ => none)))))), (x1, .inr (11, [.ref x2, .int 0, .ref x3, .int 0, .ref x4, .ref x5, .int 1, .ref x6, .ref x7, .int 0])), (x0, .inr (15, [.ref x1, .ref x8, .ref x20, .ref x39, .ref x41, .ref x43, .ref x45])), (x8, .inr (8, [.ref x1, .ref x9, .ref x10, .ref x12, .ref x14, .int 0, .ref x15, .ref x16, .ref x17, .int 0, .ref x18, .ref x19, .int 0, .int 0, .int 0, .int 0])), (x20, .inr (14, [.ref x1, .ref x8, .ref x21, .ref x28, .ref x35, .int 0, .ref x36, .ref x37, .ref x38, .int 0, .int 0, .int 0, .int 0, .int 0, .int 0, .int 0, .int 0])), (x45, .inr (5, [.ref x46, .ref x47, .int 0, .int 0])), (q102, .inr (13, [.int 99, .int k1, .int k2, .int k3, .int (-1), .int 0, .int 0, .ref q103, .int 0, .ref q104, .int 0])), (q103, .inl (ty 5, 2, .inr (.inr (.inr (.inr (fun _ => none)))))), (q104, .inl (ty 5, 5, .inr (.inr (.inr (.inr (fun _ => none))))))] := hD
            refine lv_aload hx hb dX10_addChoice_91 (lv_at hl 0 rfl) ?_
            refine lv_iload hx hb dX10_addChoice_93 (lv_at hl 5 rfl) ?_
            refine va_putN (D := D) (ci := 13) (v := .int k4) (ty := tyX8 4) (C := RX8) (T := TX8) (N := 11) hx hb hts iv_k_X10_addChoice_X8 tyX8 tyX8_ok nmX8 hown hK hP hD hS 6 rfl rfl 4 (by decide) (hE.at (.fieldLinkNest "AnswerFold" 112 "AnswerFold$Rule" "span" "I" "AnswerFold") (by decide +kernel)) (fun _ h9 => h9) rfl (by decide +kernel) rfl rfl (Nat.le_of_ble_eq_true rfl) dX10_addChoice_95 (fun H locs hP hD hS => ?_)
            have hP : va_P D vwCl [(x3, .inl (ty 4, 20, .inr (.inr (.inr (.inr (fun _ => none)))))), (x1, .inr (11, [.ref x2, .int 0, .ref x3, .int 0, .ref x4, .ref x5, .int 1, .ref x6, .ref x7, .int 0])), (x0, .inr (15, [.ref x1, .ref x8, .ref x20, .ref x39, .ref x41, .ref x43, .ref x45])), (x8, .inr (8, [.ref x1, .ref x9, .ref x10, .ref x12, .ref x14, .int 0, .ref x15, .ref x16, .ref x17, .int 0, .ref x18, .ref x19, .int 0, .int 0, .int 0, .int 0])), (x20, .inr (14, [.ref x1, .ref x8, .ref x21, .ref x28, .ref x35, .int 0, .ref x36, .ref x37, .ref x38, .int 0, .int 0, .int 0, .int 0, .int 0, .int 0, .int 0, .int 0])), (x45, .inr (5, [.ref x46, .ref x47, .int 0, .int 0])), (q102, .inr (13, [.int 99, .int k1, .int k2, .int k3, .int k4, .int 0, .int 0, .ref q103, .int 0, .ref q104, .int 0])), (q103, .inl (ty 5, 2, .inr (.inr (.inr (.inr (fun _ => none)))))), (q104, .inl (ty 5, 5, .inr (.inr (.inr (.inr (fun _ => none))))))] H := hP
            have hD : va_D A [(x3, .inl (ty 4, 20, .inr (.inr (.inr (.inr (fun _ => none)))))), (x1, .inr (11, [.ref x2, .int 0, .ref x3, .int 0, .ref x4, .ref x5, .int 1, .ref x6, .ref x7, .int 0])), (x0, .inr (15, [.ref x1, .ref x8, .ref x20, .ref x39, .ref x41, .ref x43, .ref x45])), (x8, .inr (8, [.ref x1, .ref x9, .ref x10, .ref x12, .ref x14, .int 0, .ref x15, .ref x16, .ref x17, .int 0, .ref x18, .ref x19, .int 0, .int 0, .int 0, .int 0])), (x20, .inr (14, [.ref x1, .ref x8, .ref x21, .ref x28, .ref x35, .int 0, .ref x36, .ref x37, .ref x38, .int 0, .int 0, .int 0, .int 0, .int 0, .int 0, .int 0, .int 0])), (x45, .inr (5, [.ref x46, .ref x47, .int 0, .int 0])), (q102, .inr (13, [.int 99, .int k1, .int k2, .int k3, .int k4, .int 0, .int 0, .ref q103, .int 0, .ref q104, .int 0])), (q103, .inl (ty 5, 2, .inr (.inr (.inr (.inr (fun _ => none)))))), (q104, .inl (ty 5, 5, .inr (.inr (.inr (.inr (fun _ => none))))))] := hD
            refine lv_aload_n hx hb dX10_addChoice_98 rfl (lv_at hl 1 rfl) ?_
            refine va_get (D := D) (ci := 15) (v := .ref x1) (C := RX10) (T := TX10) (N := 7) hx hb hts iv_k_X10_addChoice_X10 hown hK hP 2 rfl rfl 0 (by decide) (hts (.fieldLink RX10 12 "AnswerFold" "program" "LAnswerFold$Program;") (by decide +kernel)) (fun _ h9 => h9) rfl dX10_addChoice_99 ?_
            refine lv_aload hx hb dX10_addChoice_102 (lv_at hl 0 rfl) ?_
            refine wq_i (wc := [(x1, .inr (11, [.ref x2, .int 0, .ref x3, .int 0, .ref x4, .ref x5, .int 1, .ref x6, .ref x7, .int 0])), (x3, .inl (ty 4, 20, .inr (.inr (.inr (.inr (fun _ => none)))))), (q102, .inr (13, [.int 99, .int k1, .int k2, .int k3, .int k4, .int 0, .int 0, .ref q103, .int 0, .ref q104, .int 0]))]) (wr := [(x0, .inr (15, [.ref x1, .ref x8, .ref x20, .ref x39, .ref x41, .ref x43, .ref x45])), (x8, .inr (8, [.ref x1, .ref x9, .ref x10, .ref x12, .ref x14, .int 0, .ref x15, .ref x16, .ref x17, .int 0, .ref x18, .ref x19, .int 0, .int 0, .int 0, .int 0])), (x20, .inr (14, [.ref x1, .ref x8, .ref x21, .ref x28, .ref x35, .int 0, .ref x36, .ref x37, .ref x38, .int 0, .int 0, .int 0, .int 0, .int 0, .int 0, .int 0, .int 0])), (x45, .inr (5, [.ref x46, .ref x47, .int 0, .int 0])), (q103, .inl (ty 5, 2, .inr (.inr (.inr (.inr (fun _ => none)))))), (q104, .inl (ty 5, 5, .inr (.inr (.inr (.inr (fun _ => none))))))]) (va_runV (As := [.ref q102]) (rest := []) ⟨hx, hb, hml, hown, hts⟩ (k_X6_tellRule l D ty td mi H.size x1 x2 x3 x4 x5 x6 x7 q102 q103 q104 99 k1 k2 k3 k4 0 0 q103 0 q104 0) (cwV 1 hts gv_k_X10_addChoice_4 rfl rfl rfl (by decide +kernel) ⟨(Nat.le_of_ble_eq_true rfl), (Nat.le_of_ble_eq_true rfl)⟩) (wq_preV hP hD hK hE hS hA [1, 0, 6] rfl (by decide) 1 11 rfl rfl) rfl rfl hl.1 rfl (lv_room (Nat.le_of_ble_eq_true rfl)) dX10_addChoice_104 ⟨(Nat.le_of_ble_eq_true rfl), (Nat.le_of_ble_eq_true rfl)⟩) hS hA hP hD [1, 0, 6] [2, 3, 4, 5, 7, 8] rfl rfl (by decide) (by decide) (fun r u H locs hw hP hD hS => ?_)
            obtain ⟨rfl, rfl⟩ := hw
            have hP : va_P D vwCl [(x0, .inr (15, [.ref x1, .ref x8, .ref x20, .ref x39, .ref x41, .ref x43, .ref x45])), (x8, .inr (8, [.ref x1, .ref x9, .ref x10, .ref x12, .ref x14, .int 0, .ref x15, .ref x16, .ref x17, .int 0, .ref x18, .ref x19, .int 0, .int 0, .int 0, .int 0])), (x20, .inr (14, [.ref x1, .ref x8, .ref x21, .ref x28, .ref x35, .int 0, .ref x36, .ref x37, .ref x38, .int 0, .int 0, .int 0, .int 0, .int 0, .int 0, .int 0, .int 0])), (x45, .inr (5, [.ref x46, .ref x47, .int 0, .int 0])), (q103, .inl (ty 5, 2, .inr (.inr (.inr (.inr (fun _ => none)))))), (q104, .inl (ty 5, 5, .inr (.inr (.inr (.inr (fun _ => none))))))] H := hP
            have hD : va_D A [(x0, .inr (15, [.ref x1, .ref x8, .ref x20, .ref x39, .ref x41, .ref x43, .ref x45])), (x8, .inr (8, [.ref x1, .ref x9, .ref x10, .ref x12, .ref x14, .int 0, .ref x15, .ref x16, .ref x17, .int 0, .ref x18, .ref x19, .int 0, .int 0, .int 0, .int 0])), (x20, .inr (14, [.ref x1, .ref x8, .ref x21, .ref x28, .ref x35, .int 0, .ref x36, .ref x37, .ref x38, .int 0, .int 0, .int 0, .int 0, .int 0, .int 0, .int 0, .int 0])), (x45, .inr (5, [.ref x46, .ref x47, .int 0, .int 0])), (q103, .inl (ty 5, 2, .inr (.inr (.inr (.inr (fun _ => none)))))), (q104, .inl (ty 5, 5, .inr (.inr (.inr (.inr (fun _ => none))))))] := hD
            refine W.widen (k := 4) (n := 24) (Nat.le_of_ble_eq_true rfl) (Nat.le_of_ble_eq_true rfl) ?_
            have hP9 := hP.sub (ws' := []) [] rfl
            have hD9 := hD.sub (ws' := []) [] (by decide) rfl
            refine W.widen (k := 4) (n := 24) (Nat.le_of_ble_eq_true rfl) (Nat.le_of_ble_eq_true rfl) ?_
            refine vx_ret ?_
            exact W.iret (v := 0) hx hb hr (fun t ht hW => ⟨⟨0, [], rfl, ⟨rfl, c_4, c_5, c_6, c_7, c_8, c_9, rfl⟩, wq_B.of ht hP9 hD9⟩, hS.F ht⟩) hS.2.2 dX10_addChoice_107
          · refine lv_aload_n hx hb dX10_addChoice_36 rfl (lv_at hl 0 rfl) ?_
            refine va_get (D := D) (ci := 15) (v := .ref x1) (C := RX10) (T := TX10) (N := 7) hx hb hts iv_k_X10_addChoice_X10 hown hK hP 5 rfl rfl 0 (by decide) (hts (.fieldLink RX10 12 "AnswerFold" "program" "LAnswerFold$Program;") (by decide +kernel)) (fun _ h9 => h9) rfl dX10_addChoice_37 ?_
            refine lv_iload hx hb dX10_addChoice_40 (lv_at hl 4 rfl) ?_
            refine wq_i (wc := [(x1, .inr (11, [.ref x2, .int 0, .ref x3, .int 0, .ref x4, .ref x5, .int 1, .ref x6, .ref x7, .int 0]))]) (wr := [(x3, .inl (ty 4, 20, .inr (.inr (.inr (.inr (fun _ => none)))))), (x8, .inr (8, [.ref x1, .ref x9, .ref x10, .ref x12, .ref x14, .int 0, .ref x15, .ref x16, .ref x17, .int 0, .ref x18, .ref x19, .int 0, .int 0, .int 0, .int 0])), (x20, .inr (14, [.ref x1, .ref x8, .ref x21, .ref x28, .ref x35, .int 0, .ref x36, .ref x37, .ref x38, .int 0, .int 0, .int 0, .int 0, .int 0, .int 0, .int 0, .int 0])), (x45, .inr (5, [.ref x46, .ref x47, .int 0, .int 0])), (x0, .inr (15, [.ref x1, .ref x8, .ref x20, .ref x39, .ref x41, .ref x43, .ref x45]))]) (va_runV (As := [.int k4]) (rest := []) ⟨hx, hb, hml, hown, hts⟩ (k_X6_placesOf l D ty td mi H.size x1 x2 x3 x4 x5 x6 x7 k4) (cwV 1 hts gv_k_X10_addChoice_5 rfl rfl rfl (by decide +kernel) ⟨(Nat.le_of_ble_eq_true rfl), (Nat.le_of_ble_eq_true rfl)⟩) (wq_preV hP hD hK hE hS hA [0] rfl (by decide) 0 11 rfl rfl) rfl rfl hl.1 rfl (lv_room (Nat.le_of_ble_eq_true rfl)) dX10_addChoice_42 ⟨(Nat.le_of_ble_eq_true rfl), (Nat.le_of_ble_eq_true rfl)⟩) hS hA hP hD [0] [1, 2, 3, 4, 5] rfl rfl (by decide) (by decide) (fun r u H locs hw hP hD hS => ?_)
            obtain ⟨rfl, rfl⟩ := hw
            have hP : va_P D vwCl [(x3, .inl (ty 4, 20, .inr (.inr (.inr (.inr (fun _ => none)))))), (x8, .inr (8, [.ref x1, .ref x9, .ref x10, .ref x12, .ref x14, .int 0, .ref x15, .ref x16, .ref x17, .int 0, .ref x18, .ref x19, .int 0, .int 0, .int 0, .int 0])), (x20, .inr (14, [.ref x1, .ref x8, .ref x21, .ref x28, .ref x35, .int 0, .ref x36, .ref x37, .ref x38, .int 0, .int 0, .int 0, .int 0, .int 0, .int 0, .int 0, .int 0])), (x45, .inr (5, [.ref x46, .ref x47, .int 0, .int 0])), (x0, .inr (15, [.ref x1, .ref x8, .ref x20, .ref x39, .ref x41, .ref x43, .ref x45])), (x1, .inr (11, [.ref x2, .int 0, .ref x3, .int 0, .ref x4, .ref x5, .int 1, .ref x6, .ref x7, .int 0]))] H := hP
            have hD : va_D A [(x3, .inl (ty 4, 20, .inr (.inr (.inr (.inr (fun _ => none)))))), (x8, .inr (8, [.ref x1, .ref x9, .ref x10, .ref x12, .ref x14, .int 0, .ref x15, .ref x16, .ref x17, .int 0, .ref x18, .ref x19, .int 0, .int 0, .int 0, .int 0])), (x20, .inr (14, [.ref x1, .ref x8, .ref x21, .ref x28, .ref x35, .int 0, .ref x36, .ref x37, .ref x38, .int 0, .int 0, .int 0, .int 0, .int 0, .int 0, .int 0, .int 0])), (x45, .inr (5, [.ref x46, .ref x47, .int 0, .int 0])), (x0, .inr (15, [.ref x1, .ref x8, .ref x20, .ref x39, .ref x41, .ref x43, .ref x45])), (x1, .inr (11, [.ref x2, .int 0, .ref x3, .int 0, .ref x4, .ref x5, .int 1, .ref x6, .ref x7, .int 0]))] := hD
            refine W.widen (k := 1) (n := 6) (Nat.le_of_ble_eq_true rfl) (Nat.le_of_ble_eq_true rfl) ?_
            refine lv_iconst (v := 1) hx hb dX10_addChoice_45 (by decide) ?_
            refine lv_icmp_eq (tgt := 59) hx hb dX10_addChoice_46 (by decide) (fun c0 => absurd c0 (by decide)) (fun _ => ?_)
            obtain ⟨sa, hsa⟩ := hE.st 104 "a span is a predicate with one place, or -1" (by decide +kernel)
            exact vx_throwS (own := RX10) (cls := "java/lang/IllegalArgumentException") (text := "a span is a predicate with one place, or -1") (names := ["java/lang/RuntimeException", "java/lang/Exception"]) (ik := 60) (is := 104) (ic := 64) (sa := sa) (A := A) hx hb hl9 hown (by decide +kernel) (by decide +kernel) (hts (.classLink RX10 60 "java/lang/IllegalArgumentException") (by decide +kernel)) (hts (.initialized "java/lang/IllegalArgumentException") (by decide +kernel)) hsa (wq_hat hE hts ix_k_X10_addChoice_64 (by decide +kernel) (by decide +kernel)) (by decide +kernel) hE.zu hE.zs hS (hl.1.trans hml.symm) dX10_addChoice_49 dX10_addChoice_52 dX10_addChoice_53 dX10_addChoice_55 dX10_addChoice_58 (fun x hx => (hEx x hx).elim) (Nat.le_of_ble_eq_true rfl) (Nat.le_of_ble_eq_true rfl) (Nat.le_of_ble_eq_true rfl) (Nat.le_of_ble_eq_true rfl) hlocks (fun t ha hz hk => wq_thr hS (by exact (Or.inr (Or.inr (Or.inr (Or.inr (Or.inl ⟨rfl, c_4, c_5, c_6, c_7, c_8, c_9⟩)))))) hz hk) hS.2.2 (Nat.le_of_ble_eq_true rfl) (Nat.le_of_ble_eq_true rfl)
        · obtain ⟨sa, hsa⟩ := hE.st 99 "bounds are 0 to 9, the upper one not less than the lower one" (by decide +kernel)
          exact vx_throwS (own := RX10) (cls := "java/lang/IllegalArgumentException") (text := "bounds are 0 to 9, the upper one not less than the lower one") (names := ["java/lang/RuntimeException", "java/lang/Exception"]) (ik := 60) (is := 99) (ic := 64) (sa := sa) (A := A) hx hb hl9 hown (by decide +kernel) (by decide +kernel) (hts (.classLink RX10 60 "java/lang/IllegalArgumentException") (by decide +kernel)) (hts (.initialized "java/lang/IllegalArgumentException") (by decide +kernel)) hsa (wq_hat hE hts ix_k_X10_addChoice_64 (by decide +kernel) (by decide +kernel)) (by decide +kernel) hE.zu hE.zs hS (hl.1.trans hml.symm) dX10_addChoice_20 dX10_addChoice_23 dX10_addChoice_24 dX10_addChoice_26 dX10_addChoice_29 (fun x hx => (hEx x hx).elim) (Nat.le_of_ble_eq_true rfl) (Nat.le_of_ble_eq_true rfl) (Nat.le_of_ble_eq_true rfl) (Nat.le_of_ble_eq_true rfl) hlocks (fun t ha hz hk => wq_thr hS (by exact (Or.inr (Or.inr (Or.inr (Or.inr (Or.inr ⟨rfl, c_4, c_5, c_6, c_7, c_8⟩)))))) hz hk) hS.2.2 (Nat.le_of_ble_eq_true rfl) (Nat.le_of_ble_eq_true rfl)
def vs_k_X10_addWeak : List Cond := .code yX10_addWeak cX10_addWeak 5 (some .int) :: ([.methodLink RX10 83 yX10_checkPart, .instanceMethod yX10_checkPart, .selects RX10 yX10_checkPart yX10_checkPart, .initialized RX10, .classLink RX10 60 "java/lang/IllegalArgumentException", .initialized "java/lang/IllegalArgumentException", .methodLink RX10 117 yX10_checkLevel, .instanceMethod yX10_checkLevel, .selects RX10 yX10_checkLevel yX10_checkLevel, .methodLink RX10 87 yX10_checkRoomForRule, .instanceMethod yX10_checkRoomForRule, .selects RX10 yX10_checkRoomForRule yX10_checkRoomForRule, .methodLink RX10 76 yX10_forgetGrounding, .instanceMethod yX10_forgetGrounding, .selects RX10 yX10_forgetGrounding yX10_forgetGrounding, .classLink RX10 90 RX8, .instantiable RX8 11, .initialized RX8, .methodLink RX10 92 yX8_init, .instanceMethod yX8_init, .fieldLink RX10 12 "AnswerFold" "program" "LAnswerFold$Program;", .methodLink RX10 95 yX6_tellRule, .instanceMethod yX6_tellRule, .selects RX6 yX6_tellRule yX6_tellRule, .initialized RX6] ++ (vs_k_X10_checkPart ++ ((vx_atS RX10 64 "java/lang/IllegalArgumentException" ["java/lang/RuntimeException", "java/lang/Exception"]).filter goodWord ++ (vs_k_X10_checkLevel ++ (vs_k_X10_checkRoomForRule ++ (vs_k_X10_forgetGrounding ++ (u_ws RX8 TX8 11 ++ (vs_k_X8_init_w ++ (u_ws RX10 TX10 7 ++ (vs_k_X6_tellRule))))))))))
theorem iv_k_X10_addWeak_X10 : ∀ w ∈ u_ws RX10 TX10 7, w ∈ vs_k_X10_addWeak := (fun _ h => List.mem_cons_of_mem _ (List.mem_append_right _ (List.mem_append_right _ (List.mem_append_right _ (List.mem_append_right _ (List.mem_append_right _ (List.mem_append_right _ (List.mem_append_right _ (List.mem_append_right _ (List.mem_append_left _ h))))))))))
theorem iv_k_X10_addWeak_X8 : ∀ w ∈ u_ws RX8 TX8 11, w ∈ vs_k_X10_addWeak := (fun _ h => List.mem_cons_of_mem _ (List.mem_append_right _ (List.mem_append_right _ (List.mem_append_right _ (List.mem_append_right _ (List.mem_append_right _ (List.mem_append_right _ (List.mem_append_left _ h))))))))
theorem ix_k_X10_addWeak_64 : ∀ w ∈ (vx_atS RX10 64 "java/lang/IllegalArgumentException" ["java/lang/RuntimeException", "java/lang/Exception"]).filter goodWord, w ∈ vs_k_X10_addWeak := (fun _ h => List.mem_cons_of_mem _ (List.mem_append_right _ (List.mem_append_right _ (List.mem_append_left _ h))))
set_option maxRecDepth 20000 in
theorem gv_k_X10_addWeak_0 : GoodIn vs_k_X10_addWeak (wsV RX10 83 RX10 yX10_checkPart vs_k_X10_checkPart) := goodIn_app (goodIn_sub (by decide +kernel) (by decide +kernel)) (goodIn_sub (fun _ h => List.mem_cons_of_mem _ (List.mem_append_right _ (List.mem_append_left _ h))) (by decide +kernel))
set_option maxRecDepth 20000 in
theorem gv_k_X10_addWeak_1 : GoodIn vs_k_X10_addWeak (wsV RX10 117 RX10 yX10_checkLevel vs_k_X10_checkLevel) := goodIn_app (goodIn_sub (by decide +kernel) (by decide +kernel)) (goodIn_sub (fun _ h => List.mem_cons_of_mem _ (List.mem_append_right _ (List.mem_append_right _ (List.mem_append_right _ (List.mem_append_left _ h))))) (by decide +kernel))
set_option maxRecDepth 20000 in
theorem gv_k_X10_addWeak_2 : GoodIn vs_k_X10_addWeak (wsV RX10 87 RX10 yX10_checkRoomForRule vs_k_X10_checkRoomForRule) := goodIn_app (goodIn_sub (by decide +kernel) (by decide +kernel)) (goodIn_sub (fun _ h => List.mem_cons_of_mem _ (List.mem_append_right _ (List.mem_append_right _ (List.mem_append_right _ (List.mem_append_right _ (List.mem_append_left _ h)))))) (by decide +kernel))
set_option maxRecDepth 20000 in
theorem gv_k_X10_addWeak_3 : GoodIn vs_k_X10_addWeak (wsV RX10 76 RX10 yX10_forgetGrounding vs_k_X10_forgetGrounding) := goodIn_app (goodIn_sub (by decide +kernel) (by decide +kernel)) (goodIn_sub (fun _ h => List.mem_cons_of_mem _ (List.mem_append_right _ (List.mem_append_right _ (List.mem_append_right _ (List.mem_append_right _ (List.mem_append_right _ (List.mem_append_left _ h))))))) (by decide +kernel))
set_option maxRecDepth 20000 in
theorem gv_k_X10_addWeak_4 : GoodIn vs_k_X10_addWeak (vs_k_X8_init_w) := (goodIn_sub (fun _ h => List.mem_cons_of_mem _ (List.mem_append_right _ (List.mem_append_right _ (List.mem_append_right _ (List.mem_append_right _ (List.mem_append_right _ (List.mem_append_right _ (List.mem_append_right _ (List.mem_append_left _ h))))))))) (by decide +kernel))
set_option maxRecDepth 20000 in
theorem gv_k_X10_addWeak_5 : GoodIn vs_k_X10_addWeak (wsV RX10 95 RX6 yX6_tellRule vs_k_X6_tellRule) := goodIn_app (goodIn_sub (by decide +kernel) (by decide +kernel)) (goodIn_sub (fun _ h => List.mem_cons_of_mem _ (List.mem_append_right _ (List.mem_append_right _ (List.mem_append_right _ (List.mem_append_right _ (List.mem_append_right _ (List.mem_append_right _ (List.mem_append_right _ (List.mem_append_right _ (List.mem_append_right _ (h))))))))))) (by decide +kernel))
set_option maxHeartbeats 4000000 in
set_option maxRecDepth 100000 in
theorem k_X10_addWeak (l : Launch) (hl9 : l.stackTraces = false) (D : va_G) (ty : Nat → ClassId) (td mi sz : Nat) (x0 : Nat) (x1 : Nat) (x8 : Nat) (x20 : Nat) (x39 : Nat) (x41 : Nat) (x43 : Nat) (x45 : Nat) (x2 : Nat) (x3 : Nat) (x4 : Nat) (x5 : Nat) (x6 : Nat) (x7 : Nat) (x9 : Nat) (x10 : Nat) (x12 : Nat) (x14 : Nat) (x15 : Nat) (x16 : Nat) (x17 : Nat) (x18 : Nat) (x19 : Nat) (x21 : Nat) (x28 : Nat) (x35 : Nat) (x36 : Nat) (x37 : Nat) (x38 : Nat) (x46 : Nat) (x47 : Nat) (k1 : Int32) (k2 : Int32) (k3 : Int32) : vx_Met l yX10_addWeak vs_k_X10_addWeak { frames := 7, cells := 5, slots := 30, locals := 103 } (va_Pc [.ref x0, .int k1, .int k2, .int k3] (wq_P D ty td mi [(x0, .inr (15, [.ref x1, .ref x8, .ref x20, .ref x39, .ref x41, .ref x43, .ref x45])), (x1, .inr (11, [.ref x2, .int 0, .ref x3, .int 0, .ref x4, .ref x5, .int 1, .ref x6, .ref x7, .int 0])), (x3, .inl (ty 4, 20, .inr (.inr (.inr (.inr (fun _ => none)))))), (x8, .inr (8, [.ref x1, .ref x9, .ref x10, .ref x12, .ref x14, .int 0, .ref x15, .ref x16, .ref x17, .int 0, .ref x18, .ref x19, .int 0, .int 0, .int 0, .int 0])), (x20, .inr (14, [.ref x1, .ref x8, .ref x21, .ref x28, .ref x35, .int 0, .ref x36, .ref x37, .ref x38, .int 0, .int 0, .int 0, .int 0, .int 0, .int 0, .int 0, .int 0])), (x45, .inr (5, [.ref x46, .ref x47, .int 0, .int 0]))] sz)) (va_Qi (fun (r : Int32) (u : va_W) => (r = 0 ∧ (¬ (k1 < 0)) ∧ (k1 ≤ 3) ∧ (¬ (k2 < (-99))) ∧ (k2 ≤ 99) ∧ (¬ (k3 < 1)) ∧ (k3 ≤ 3) ∧ (u = []))) (wq_B D (va_A [(x0, .inr (15, [.ref x1, .ref x8, .ref x20, .ref x39, .ref x41, .ref x43, .ref x45])), (x1, .inr (11, [.ref x2, .int 0, .ref x3, .int 0, .ref x4, .ref x5, .int 1, .ref x6, .ref x7, .int 0])), (x3, .inl (ty 4, 20, .inr (.inr (.inr (.inr (fun _ => none)))))), (x8, .inr (8, [.ref x1, .ref x9, .ref x10, .ref x12, .ref x14, .int 0, .ref x15, .ref x16, .ref x17, .int 0, .ref x18, .ref x19, .int 0, .int 0, .int 0, .int 0])), (x20, .inr (14, [.ref x1, .ref x8, .ref x21, .ref x28, .ref x35, .int 0, .ref x36, .ref x37, .ref x38, .int 0, .int 0, .int 0, .int 0, .int 0, .int 0, .int 0, .int 0])), (x45, .inr (5, [.ref x46, .ref x47, .int 0, .int 0]))] sz)) (va_A [(x0, .inr (15, [.ref x1, .ref x8, .ref x20, .ref x39, .ref x41, .ref x43, .ref x45])), (x1, .inr (11, [.ref x2, .int 0, .ref x3, .int 0, .ref x4, .ref x5, .int 1, .ref x6, .ref x7, .int 0])), (x3, .inl (ty 4, 20, .inr (.inr (.inr (.inr (fun _ => none)))))), (x8, .inr (8, [.ref x1, .ref x9, .ref x10, .ref x12, .ref x14, .int 0, .ref x15, .ref x16, .ref x17, .int 0, .ref x18, .ref x19, .int 0, .int 0, .int 0, .int 0])), (x20, .inr (14, [.ref x1, .ref x8, .ref x21, .ref x28, .ref x35, .int 0, .ref x36, .ref x37, .ref x38, .int 0, .int 0, .int 0, .int 0, .int 0, .int 0, .int 0, .int 0])), (x45, .inr (5, [.ref x46, .ref x47, .int 0, .int 0]))] sz)) (vx_X (fun u : String × va_W => (u = ("java/lang/IllegalArgumentException", []) ∧ (k1 < 0)) ∨ (u = ("java/lang/IllegalArgumentException", []) ∧ (¬ (k1 < 0)) ∧ (¬ (k1 ≤ 3))) ∨ (u = ("java/lang/IllegalArgumentException", []) ∧ (¬ (k1 < 0)) ∧ (k1 ≤ 3) ∧ (k2 < (-99))) ∨ (u = ("java/lang/IllegalArgumentException", []) ∧ (¬ (k1 < 0)) ∧ (k1 ≤ 3) ∧ (¬ (k2 < (-99))) ∧ (k2 ≤ 99) ∧ (k3 < 1)) ∨ (u = ("java/lang/IllegalArgumentException", []) ∧ (¬ (k1 < 0)) ∧ (k1 ≤ 3) ∧ (¬ (k2 < (-99))) ∧ (k2 ≤ 99) ∧ (¬ (k3 < 1)) ∧ (¬ (k3 ≤ 3))) ∨ (u = ("java/lang/IllegalArgumentException", []) ∧ (¬ (k1 < 0)) ∧ (k1 ≤ 3) ∧ (¬ (k2 < (-99))) ∧ (¬ (k2 ≤ 99)))) (wq_BX D (va_A [(x0, .inr (15, [.ref x1, .ref x8, .ref x20, .ref x39, .ref x41, .ref x43, .ref x45])), (x1, .inr (11, [.ref x2, .int 0, .ref x3, .int 0, .ref x4, .ref x5, .int 1, .ref x6, .ref x7, .int 0])), (x3, .inl (ty 4, 20, .inr (.inr (.inr (.inr (fun _ => none)))))), (x8, .inr (8, [.ref x1, .ref x9, .ref x10, .ref x12, .ref x14, .int 0, .ref x15, .ref x16, .ref x17, .int 0, .ref x18, .ref x19, .int 0, .int 0, .int 0, .int 0])), (x20, .inr (14, [.ref x1, .ref x8, .ref x21, .ref x28, .ref x35, .int 0, .ref x36, .ref x37, .ref x38, .int 0, .int 0, .int 0, .int 0, .int 0, .int 0, .int 0, .int 0])), (x45, .inr (5, [.ref x46, .ref x47, .int 0, .int 0]))] sz)) (va_A [(x0, .inr (15, [.ref x1, .ref x8, .ref x20, .ref x39, .ref x41, .ref x43, .ref x45])), (x1, .inr (11, [.ref x2, .int 0, .ref x3, .int 0, .ref x4, .ref x5, .int 1, .ref x6, .ref x7, .int 0])), (x3, .inl (ty 4, 20, .inr (.inr (.inr (.inr (fun _ => none)))))), (x8, .inr (8, [.ref x1, .ref x9, .ref x10, .ref x12, .ref x14, .int 0, .ref x15, .ref x16, .ref x17, .int 0, .ref x18, .ref x19, .int 0, .int 0, .int 0, .int 0])), (x20, .inr (14, [.ref x1, .ref x8, .ref x21, .ref x28, .ref x35, .int 0, .ref x36, .ref x37, .ref x38, .int 0, .int 0, .int 0, .int 0, .int 0, .int 0, .int 0, .int 0])), (x45, .inr (5, [.ref x46, .ref x47, .int 0, .int 0]))] sz)) 5 30 (va_A [(x0, .inr (15, [.ref x1, .ref x8, .ref x20, .ref x39, .ref x41, .ref x43, .ref x45])), (x1, .inr (11, [.ref x2, .int 0, .ref x3, .int 0, .ref x4, .ref x5, .int 1, .ref x6, .ref x7, .int 0])), (x3, .inl (ty 4, 20, .inr (.inr (.inr (.inr (fun _ => none)))))), (x8, .inr (8, [.ref x1, .ref x9, .ref x10, .ref x12, .ref x14, .int 0, .ref x15, .ref x16, .ref x17, .int 0, .ref x18, .ref x19, .int 0, .int 0, .int 0, .int 0])), (x20, .inr (14, [.ref x1, .ref x8, .ref x21, .ref x28, .ref x35, .int 0, .ref x36, .ref x37, .ref x38, .int 0, .int 0, .int 0, .int 0, .int 0, .int 0, .int 0, .int 0])), (x45, .inr (5, [.ref x46, .ref x47, .int 0, .int 0]))] sz) := by
  refine vx_ofW (cc := cX10_addWeak) (maxL := 5) (ret := (some .int)) (by decide) rfl ?_
  intro p e s m args below meth c s₁ B hml hEx hv
  obtain ⟨rfl, hsz, hP, hK, hD0, hE⟩ := hv
  have hx := B.exec
  have hb := B.bytes
  have hr := B.returns
  have hts := atoms_spec (ws := vs_k_X10_addWeak) B.pre
  have hown : s.vm.findClass RX10 = some m.cls := findClass_of_methodNamed B.named
  have hlocks := B.notSynchronized
  subst hsz
  have hD := hD0.self (sz := s.heap.size)
  generalize hAe : va_A [(x0, .inr (15, [.ref x1, .ref x8, .ref x20, .ref x39, .ref x41, .ref x43, .ref x45])), (x1, .inr (11, [.ref x2, .int 0, .ref x3, .int 0, .ref x4, .ref x5, .int 1, .ref x6, .ref x7, .int 0])), (x3, .inl (ty 4, 20, .inr (.inr (.inr (.inr (fun _ => none)))))), (x8, .inr (8, [.ref x1, .ref x9, .ref x10, .ref x12, .ref x14, .int 0, .ref x15, .ref x16, .ref x17, .int 0, .ref x18, .ref x19, .int 0, .int 0, .int 0, .int 0])), (x20, .inr (14, [.ref x1, .ref x8, .ref x21, .ref x28, .ref x35, .int 0, .ref x36, .ref x37, .ref x38, .int 0, .int 0, .int 0, .int 0, .int 0, .int 0, .int 0, .int 0])), (x45, .inr (5, [.ref x46, .ref x47, .int 0, .int 0]))] s.heap.size = A at hD hE ⊢
  have hA : ∀ q : Nat, s.heap.size ≤ q → A q := fun q h => by rw [← hAe]; exact Or.inr h
  have hS : va_S A s.heap s.heap [] := va_S.rf
  have hP : va_P D vwCl [(x0, .inr (15, [.ref x1, .ref x8, .ref x20, .ref x39, .ref x41, .ref x43, .ref x45])), (x1, .inr (11, [.ref x2, .int 0, .ref x3, .int 0, .ref x4, .ref x5, .int 1, .ref x6, .ref x7, .int 0])), (x3, .inl (ty 4, 20, .inr (.inr (.inr (.inr (fun _ => none)))))), (x8, .inr (8, [.ref x1, .ref x9, .ref x10, .ref x12, .ref x14, .int 0, .ref x15, .ref x16, .ref x17, .int 0, .ref x18, .ref x19, .int 0, .int 0, .int 0, .int 0])), (x20, .inr (14, [.ref x1, .ref x8, .ref x21, .ref x28, .ref x35, .int 0, .ref x36, .ref x37, .ref x38, .int 0, .int 0, .int 0, .int 0, .int 0, .int 0, .int 0, .int 0])), (x45, .inr (5, [.ref x46, .ref x47, .int 0, .int 0]))] s.heap := hP
  have hl := lv_entry ([.ref x0, .int k1, .int k2, .int k3]) (n := 5) (Nat.le_of_ble_eq_true rfl)
  rw [lg_entry_eq]
  generalize (lg_sl ([.ref x0, .int k1, .int k2, .int k3]) ++ List.replicate (5 - (lg_sl ([.ref x0, .int k1, .int k2, .int k3])).length) Slot.unset).toArray = ls at hl ⊢
  have hl : lv_has ls 5 [(0, .ref x0), (1, .int k1), (2, .int k2), (3, .int k3)] := hl
  refine lv_aload_n hx hb dX10_addWeak_0 rfl (lv_at hl 0 rfl) ?_
  refine lv_iload_n hx hb dX10_addWeak_1 rfl (lv_at hl 1 rfl) ?_
  refine wq_xv (wc := [(x0, .inr (15, [.ref x1, .ref x8, .ref x20, .ref x39, .ref x41, .ref x43, .ref x45]))]) (wr := [(x1, .inr (11, [.ref x2, .int 0, .ref x3, .int 0, .ref x4, .ref x5, .int 1, .ref x6, .ref x7, .int 0])), (x3, .inl (ty 4, 20, .inr (.inr (.inr (.inr (fun _ => none)))))), (x8, .inr (8, [.ref x1, .ref x9, .ref x10, .ref x12, .ref x14, .int 0, .ref x15, .ref x16, .ref x17, .int 0, .ref x18, .ref x19, .int 0, .int 0, .int 0, .int 0])), (x20, .inr (14, [.ref x1, .ref x8, .ref x21, .ref x28, .ref x35, .int 0, .ref x36, .ref x37, .ref x38, .int 0, .int 0, .int 0, .int 0, .int 0, .int 0, .int 0, .int 0])), (x45, .inr (5, [.ref x46, .ref x47, .int 0, .int 0]))]) (vx_runV (As := [.int k1]) (rest := []) ⟨hx, hb, hml, hown, hts⟩ (k_X10_checkPart l hl9 D ty td mi s.heap.size x0 x1 x8 x20 x39 x41 x43 x45 k1) (cwV 1 hts gv_k_X10_addWeak_0 rfl rfl rfl (by decide +kernel) ⟨(Nat.le_of_ble_eq_true rfl), (Nat.le_of_ble_eq_true rfl)⟩) (wq_preV hP hD hK hE hS hA [0] rfl (by decide) 0 15 rfl rfl) rfl rfl hl.1 rfl (lv_room (Nat.le_of_ble_eq_true rfl)) dX10_addWeak_2 ⟨(Nat.le_of_ble_eq_true rfl), (Nat.le_of_ble_eq_true rfl)⟩) hS hA hP hD [0] [1, 2, 3, 4, 5] rfl rfl (by decide) (by decide) (fun E9 u H locs q9 ce hw hP hD hS hce hcv hcl => ?_) (fun u H locs hw hP hD hS => ?_)
  · rcases hw with ⟨hEq, c_1⟩ | ⟨hEq, c_2, c_3⟩
    · cases hEq
      have hP : va_P D vwCl [(x1, .inr (11, [.ref x2, .int 0, .ref x3, .int 0, .ref x4, .ref x5, .int 1, .ref x6, .ref x7, .int 0])), (x3, .inl (ty 4, 20, .inr (.inr (.inr (.inr (fun _ => none)))))), (x8, .inr (8, [.ref x1, .ref x9, .ref x10, .ref x12, .ref x14, .int 0, .ref x15, .ref x16, .ref x17, .int 0, .ref x18, .ref x19, .int 0, .int 0, .int 0, .int 0])), (x20, .inr (14, [.ref x1, .ref x8, .ref x21, .ref x28, .ref x35, .int 0, .ref x36, .ref x37, .ref x38, .int 0, .int 0, .int 0, .int 0, .int 0, .int 0, .int 0, .int 0])), (x45, .inr (5, [.ref x46, .ref x47, .int 0, .int 0]))] H := hP
      have hD : va_D A [(x1, .inr (11, [.ref x2, .int 0, .ref x3, .int 0, .ref x4, .ref x5, .int 1, .ref x6, .ref x7, .int 0])), (x3, .inl (ty 4, 20, .inr (.inr (.inr (.inr (fun _ => none)))))), (x8, .inr (8, [.ref x1, .ref x9, .ref x10, .ref x12, .ref x14, .int 0, .ref x15, .ref x16, .ref x17, .int 0, .ref x18, .ref x19, .int 0, .int 0, .int 0, .int 0])), (x20, .inr (14, [.ref x1, .ref x8, .ref x21, .ref x28, .ref x35, .int 0, .ref x36, .ref x37, .ref x38, .int 0, .int 0, .int 0, .int 0, .int 0, .int 0, .int 0, .int 0])), (x45, .inr (5, [.ref x46, .ref x47, .int 0, .int 0]))] := hD
      refine vx_widen (k := 5) (n := 30) (Nat.le_of_ble_eq_true rfl) (Nat.le_of_ble_eq_true rfl) ?_
      exact vx_out (E := "java/lang/IllegalArgumentException") (fun x hx => (hEx x hx).elim) hlocks hce hcv hcl (fun t ht ha => wq_thr0 hS (by exact (Or.inl ⟨rfl, c_1⟩)) ht) hS.2.2 (Nat.le_refl _) (Nat.le_refl _)
    · cases hEq
      have hP : va_P D vwCl [(x1, .inr (11, [.ref x2, .int 0, .ref x3, .int 0, .ref x4, .ref x5, .int 1, .ref x6, .ref x7, .int 0])), (x3, .inl (ty 4, 20, .inr (.inr (.inr (.inr (fun _ => none)))))), (x8, .inr (8, [.ref x1, .ref x9, .ref x10, .ref x12, .ref x14, .int 0, .ref x15, .ref x16, .ref x17, .int 0, .ref x18, .ref x19, .int 0, .int 0, .int 0, .int 0])), (x20, .inr (14, [.ref x1, .ref x8, .ref x21, .ref x28, .ref x35, .int 0, .ref x36, .ref x37, .ref x38, .int 0, .int 0, .int 0, .int 0, .int 0, .int 0, .int 0, .int 0])), (x45, .inr (5, [.ref x46, .ref x47, .int 0, .int 0]))] H := hP
      have hD : va_D A [(x1, .inr (11, [.ref x2, .int 0, .ref x3, .int 0, .ref x4, .ref x5, .int 1, .ref x6, .ref x7, .int 0])), (x3, .inl (ty 4, 20, .inr (.inr (.inr (.inr (fun _ => none)))))), (x8, .inr (8, [.ref x1, .ref x9, .ref x10, .ref x12, .ref x14, .int 0, .ref x15, .ref x16, .ref x17, .int 0, .ref x18, .ref x19, .int 0, .int 0, .int 0, .int 0])), (x20, .inr (14, [.ref x1, .ref x8, .ref x21, .ref x28, .ref x35, .int 0, .ref x36, .ref x37, .ref x38, .int 0, .int 0, .int 0, .int 0, .int 0, .int 0, .int 0, .int 0])), (x45, .inr (5, [.ref x46, .ref x47, .int 0, .int 0]))] := hD
      refine vx_widen (k := 5) (n := 30) (Nat.le_of_ble_eq_true rfl) (Nat.le_of_ble_eq_true rfl) ?_
      exact vx_out (E := "java/lang/IllegalArgumentException") (fun x hx => (hEx x hx).elim) hlocks hce hcv hcl (fun t ht ha => wq_thr0 hS (by exact (Or.inr (Or.inl ⟨rfl, c_2, c_3⟩))) ht) hS.2.2 (Nat.le_refl _) (Nat.le_refl _)
  · obtain ⟨c_4, c_5, rfl⟩ := hw
    have hP : va_P D vwCl [(x1, .inr (11, [.ref x2, .int 0, .ref x3, .int 0, .ref x4, .ref x5, .int 1, .ref x6, .ref x7, .int 0])), (x3, .inl (ty 4, 20, .inr (.inr (.inr (.inr (fun _ => none)))))), (x8, .inr (8, [.ref x1, .ref x9, .ref x10, .ref x12, .ref x14, .int 0, .ref x15, .ref x16, .ref x17, .int 0, .ref x18, .ref x19, .int 0, .int 0, .int 0, .int 0])), (x20, .inr (14, [.ref x1, .ref x8, .ref x21, .ref x28, .ref x35, .int 0, .ref x36, .ref x37, .ref x38, .int 0, .int 0, .int 0, .int 0, .int 0, .int 0, .int 0, .int 0])), (x45, .inr (5, [.ref x46, .ref x47, .int 0, .int 0])), (x0, .inr (15, [.ref x1, .ref x8, .ref x20, .ref x39, .ref x41, .ref x43, .ref x45]))] H := hP
    have hD : va_D A [(x1, .inr (11, [.ref x2, .int 0, .ref x3, .int 0, .ref x4, .ref x5, .int 1, .ref x6, .ref x7, .int 0])), (x3, .inl (ty 4, 20, .inr (.inr (.inr (.inr (fun _ => none)))))), (x8, .inr (8, [.ref x1, .ref x9, .ref x10, .ref x12, .ref x14, .int 0, .ref x15, .ref x16, .ref x17, .int 0, .ref x18, .ref x19, .int 0, .int 0, .int 0, .int 0])), (x20, .inr (14, [.ref x1, .ref x8, .ref x21, .ref x28, .ref x35, .int 0, .ref x36, .ref x37, .ref x38, .int 0, .int 0, .int 0, .int 0, .int 0, .int 0, .int 0, .int 0])), (x45, .inr (5, [.ref x46, .ref x47, .int 0, .int 0])), (x0, .inr (15, [.ref x1, .ref x8, .ref x20, .ref x39, .ref x41, .ref x43, .ref x45]))] := hD
    refine W.widen (k := 1) (n := 6) (Nat.le_of_ble_eq_true rfl) (Nat.le_of_ble_eq_true rfl) ?_
    refine lv_iload_n hx hb dX10_addWeak_5 rfl (lv_at hl 2 rfl) ?_
    refine lv_bipush (v := (-99)) hx hb dX10_addWeak_6 (by decide) ?_
    refine lv_icmp_lt (tgt := 17) hx hb dX10_addWeak_8 (by decide) (fun c_6 => ?_) (fun c_6 => ?_)
    · obtain ⟨sa, hsa⟩ := hE.st 115 "weights are -99 to 99" (by decide +kernel)
      exact vx_throwS (own := RX10) (cls := "java/lang/IllegalArgumentException") (text := "weights are -99 to 99") (names := ["java/lang/RuntimeException", "java/lang/Exception"]) (ik := 60) (is := 115) (ic := 64) (sa := sa) (A := A) hx hb hl9 hown (by decide +kernel) (by decide +kernel) (hts (.classLink RX10 60 "java/lang/IllegalArgumentException") (by decide +kernel)) (hts (.initialized "java/lang/IllegalArgumentException") (by decide +kernel)) hsa (wq_hat hE hts ix_k_X10_addWeak_64 (by decide +kernel) (by decide +kernel)) (by decide +kernel) hE.zu hE.zs hS (hl.1.trans hml.symm) dX10_addWeak_17 dX10_addWeak_20 dX10_addWeak_21 dX10_addWeak_23 dX10_addWeak_26 (fun x hx => (hEx x hx).elim) (Nat.le_of_ble_eq_true rfl) (Nat.le_of_ble_eq_true rfl) (Nat.le_of_ble_eq_true rfl) (Nat.le_of_ble_eq_true rfl) hlocks (fun t ha hz hk => wq_thr hS (by exact (Or.inr (Or.inr (Or.inl ⟨rfl, c_4, c_5, c_6⟩)))) hz hk) hS.2.2 (Nat.le_of_ble_eq_true rfl) (Nat.le_of_ble_eq_true rfl)
    · refine lv_iload_n hx hb dX10_addWeak_11 rfl (lv_at hl 2 rfl) ?_
      refine lv_bipush (v := 99) hx hb dX10_addWeak_12 (by decide) ?_
      refine lv_icmp_le (tgt := 27) hx hb dX10_addWeak_14 (by decide) (fun c_7 => ?_) (fun c_7 => ?_)
      · refine lv_aload_n hx hb dX10_addWeak_27 rfl (lv_at hl 0 rfl) ?_
        refine lv_iload_n hx hb dX10_addWeak_28 rfl (lv_at hl 3 rfl) ?_
        refine wq_xv (wc := [(x0, .inr (15, [.ref x1, .ref x8, .ref x20, .ref x39, .ref x41, .ref x43, .ref x45]))]) (wr := [(x1, .inr (11, [.ref x2, .int 0, .ref x3, .int 0, .ref x4, .ref x5, .int 1, .ref x6, .ref x7, .int 0])), (x3, .inl (ty 4, 20, .inr (.inr (.inr (.inr (fun _ => none)))))), (x8, .inr (8, [.ref x1, .ref x9, .ref x10, .ref x12, .ref x14, .int 0, .ref x15, .ref x16, .ref x17, .int 0, .ref x18, .ref x19, .int 0, .int 0, .int 0, .int 0])), (x20, .inr (14, [.ref x1, .ref x8, .ref x21, .ref x28, .ref x35, .int 0, .ref x36, .ref x37, .ref x38, .int 0, .int 0, .int 0, .int 0, .int 0, .int 0, .int 0, .int 0])), (x45, .inr (5, [.ref x46, .ref x47, .int 0, .int 0]))]) (vx_runV (As := [.int k3]) (rest := []) ⟨hx, hb, hml, hown, hts⟩ (k_X10_checkLevel l hl9 D ty td mi H.size x0 x1 x8 x20 x39 x41 x43 x45 k3) (cwV 1 hts gv_k_X10_addWeak_1 rfl rfl rfl (by decide +kernel) ⟨(Nat.le_of_ble_eq_true rfl), (Nat.le_of_ble_eq_true rfl)⟩) (wq_preV hP hD hK hE hS hA [5] rfl (by decide) 5 15 rfl rfl) rfl rfl hl.1 rfl (lv_room (Nat.le_of_ble_eq_true rfl)) dX10_addWeak_29 ⟨(Nat.le_of_ble_eq_true rfl), (Nat.le_of_ble_eq_true rfl)⟩) hS hA hP hD [5] [0, 1, 2, 3, 4] rfl rfl (by decide) (by decide) (fun E9 u H locs q9 ce hw hP hD hS hce hcv hcl => ?_) (fun u H locs hw hP hD hS => ?_)
        · rcases hw with ⟨hEq, c_8⟩ | ⟨hEq, c_9, c_10⟩
          · cases hEq
            have hP : va_P D vwCl [(x1, .inr (11, [.ref x2, .int 0, .ref x3, .int 0, .ref x4, .ref x5, .int 1, .ref x6, .ref x7, .int 0])), (x3, .inl (ty 4, 20, .inr (.inr (.inr (.inr (fun _ => none)))))), (x8, .inr (8, [.ref x1, .ref x9, .ref x10, .ref x12, .ref x14, .int 0, .ref x15, .ref x16, .ref x17, .int 0, .ref x18, .ref x19, .int 0, .int 0, .int 0, .int 0])), (x20, .inr (14, [.ref x1, .ref x8, .ref x21, .ref x28, .ref x35, .int 0, .ref x36, .ref x37, .ref x38, .int 0, .int 0, .int 0, .int 0, .int 0, .int 0, .int 0, .int 0])), (x45, .inr (5, [.ref x46, .ref x47, .int 0, .int 0]))] H := hP
            have hD : va_D A [(x1, .inr (11, [.ref x2, .int 0, .ref x3, .int 0, .ref x4, .ref x5, .int 1, .ref x6, .ref x7, .int 0])), (x3, .inl (ty 4, 20, .inr (.inr (.inr (.inr (fun _ => none)))))), (x8, .inr (8, [.ref x1, .ref x9, .ref x10, .ref x12, .ref x14, .int 0, .ref x15, .ref x16, .ref x17, .int 0, .ref x18, .ref x19, .int 0, .int 0, .int 0, .int 0])), (x20, .inr (14, [.ref x1, .ref x8, .ref x21, .ref x28, .ref x35, .int 0, .ref x36, .ref x37, .ref x38, .int 0, .int 0, .int 0, .int 0, .int 0, .int 0, .int 0, .int 0])), (x45, .inr (5, [.ref x46, .ref x47, .int 0, .int 0]))] := hD
            refine vx_widen (k := 5) (n := 30) (Nat.le_of_ble_eq_true rfl) (Nat.le_of_ble_eq_true rfl) ?_
            exact vx_out (E := "java/lang/IllegalArgumentException") (fun x hx => (hEx x hx).elim) hlocks hce hcv hcl (fun t ht ha => wq_thr0 hS (by exact (Or.inr (Or.inr (Or.inr (Or.inl ⟨rfl, c_4, c_5, c_6, c_7, c_8⟩))))) ht) hS.2.2 (Nat.le_refl _) (Nat.le_refl _)
          · cases hEq
            have hP : va_P D vwCl [(x1, .inr (11, [.ref x2, .int 0, .ref x3, .int 0, .ref x4, .ref x5, .int 1, .ref x6, .ref x7, .int 0])), (x3, .inl (ty 4, 20, .inr (.inr (.inr (.inr (fun _ => none)))))), (x8, .inr (8, [.ref x1, .ref x9, .ref x10, .ref x12, .ref x14, .int 0, .ref x15, .ref x16, .ref x17, .int 0, .ref x18, .ref x19, .int 0, .int 0, .int 0, .int 0])), (x20, .inr (14, [.ref x1, .ref x8, .ref x21, .ref x28, .ref x35, .int 0, .ref x36, .ref x37, .ref x38, .int 0, .int 0, .int 0, .int 0, .int 0, .int 0, .int 0, .int 0])), (x45, .inr (5, [.ref x46, .ref x47, .int 0, .int 0]))] H := hP
            have hD : va_D A [(x1, .inr (11, [.ref x2, .int 0, .ref x3, .int 0, .ref x4, .ref x5, .int 1, .ref x6, .ref x7, .int 0])), (x3, .inl (ty 4, 20, .inr (.inr (.inr (.inr (fun _ => none)))))), (x8, .inr (8, [.ref x1, .ref x9, .ref x10, .ref x12, .ref x14, .int 0, .ref x15, .ref x16, .ref x17, .int 0, .ref x18, .ref x19, .int 0, .int 0, .int 0, .int 0])), (x20, .inr (14, [.ref x1, .ref x8, .ref x21, .ref x28, .ref x35, .int 0, .ref x36, .ref x37, .ref x38, .int 0, .int 0, .int 0, .int 0, .int 0, .int 0, .int 0, .int 0])), (x45, .inr (5, [.ref x46, .ref x47, .int 0, .int 0]))] := hD
            refine vx_widen (k := 5) (n := 30) (Nat.le_of_ble_eq_true rfl) (Nat.le_of_ble_eq_true rfl) ?_
            exact vx_out (E := "java/lang/IllegalArgumentException") (fun x hx => (hEx x hx).elim) hlocks hce hcv hcl (fun t ht ha => wq_thr0 hS (by exact (Or.inr (Or.inr (Or.inr (Or.inr (Or.inl ⟨rfl, c_4, c_5, c_6, c_7, c_9, c_10⟩)))))) ht) hS.2.2 (Nat.le_refl _) (Nat.le_refl _)
        · obtain ⟨c_11, c_12, rfl⟩ := hw
          have hP : va_P D vwCl [(x1, .inr (11, [.ref x2, .int 0, .ref x3, .int 0, .ref x4, .ref x5, .int 1, .ref x6, .ref x7, .int 0])), (x3, .inl (ty 4, 20, .inr (.inr (.inr (.inr (fun _ => none)))))), (x8, .inr (8, [.ref x1, .ref x9, .ref x10, .ref x12, .ref x14, .int 0, .ref x15, .ref x16, .ref x17, .int 0, .ref x18, .ref x19, .int 0, .int 0, .int 0, .int 0])), (x20, .inr (14, [.ref x1, .ref x8, .ref x21, .ref x28, .ref x35, .int 0, .ref x36, .ref x37, .ref x38, .int 0, .int 0, .int 0, .int 0, .int 0, .int 0, .int 0, .int 0])), (x45, .inr (5, [.ref x46, .ref x47, .int 0, .int 0])), (x0, .inr (15, [.ref x1, .ref x8, .ref x20, .ref x39, .ref x41, .ref x43, .ref x45]))] H := hP
          have hD : va_D A [(x1, .inr (11, [.ref x2, .int 0, .ref x3, .int 0, .ref x4, .ref x5, .int 1, .ref x6, .ref x7, .int 0])), (x3, .inl (ty 4, 20, .inr (.inr (.inr (.inr (fun _ => none)))))), (x8, .inr (8, [.ref x1, .ref x9, .ref x10, .ref x12, .ref x14, .int 0, .ref x15, .ref x16, .ref x17, .int 0, .ref x18, .ref x19, .int 0, .int 0, .int 0, .int 0])), (x20, .inr (14, [.ref x1, .ref x8, .ref x21, .ref x28, .ref x35, .int 0, .ref x36, .ref x37, .ref x38, .int 0, .int 0, .int 0, .int 0, .int 0, .int 0, .int 0, .int 0])), (x45, .inr (5, [.ref x46, .ref x47, .int 0, .int 0])), (x0, .inr (15, [.ref x1, .ref x8, .ref x20, .ref x39, .ref x41, .ref x43, .ref x45]))] := hD
          refine W.widen (k := 2) (n := 12) (Nat.le_of_ble_eq_true rfl) (Nat.le_of_ble_eq_true rfl) ?_
          refine lv_aload_n hx hb dX10_addWeak_32 rfl (lv_at hl 0 rfl) ?_
          refine wq_v (wc := [(x0, .inr (15, [.ref x1, .ref x8, .ref x20, .ref x39, .ref x41, .ref x43, .ref x45])), (x1, .inr (11, [.ref x2, .int 0, .ref x3, .int 0, .ref x4, .ref x5, .int 1, .ref x6, .ref x7, .int 0]))]) (wr := [(x3, .inl (ty 4, 20, .inr (.inr (.inr (.inr (fun _ => none)))))), (x8, .inr (8, [.ref x1, .ref x9, .ref x10, .ref x12, .ref x14, .int 0, .ref x15, .ref x16, .ref x17, .int 0, .ref x18, .ref x19, .int 0, .int 0, .int 0, .int 0])), (x20, .inr (14, [.ref x1, .ref x8, .ref x21, .ref x28, .ref x35, .int 0, .ref x36, .ref x37, .ref x38, .int 0, .int 0, .int 0, .int 0, .int 0, .int 0, .int 0, .int 0])), (x45, .inr (5, [.ref x46, .ref x47, .int 0, .int 0]))]) (va_runV (As := []) (rest := []) ⟨hx, hb, hml, hown, hts⟩ (k_X10_checkRoomForRule l D ty td mi H.size x0 x1 x8 x20 x39 x41 x43 x45 x2 x3 x4 x5 x6 x7) (cwV 0 hts gv_k_X10_addWeak_2 rfl rfl rfl (by decide +kernel) ⟨(Nat.le_of_ble_eq_true rfl), (Nat.le_of_ble_eq_true rfl)⟩) (wq_preV hP hD hK hE hS hA [5, 0] rfl (by decide) 5 15 rfl rfl) rfl rfl hl.1 rfl (lv_room (Nat.le_of_ble_eq_true rfl)) dX10_addWeak_33 ⟨(Nat.le_of_ble_eq_true rfl), (Nat.le_of_ble_eq_true rfl)⟩) hS hA hP hD [5, 0] [1, 2, 3, 4] rfl rfl (by decide) (by decide) (fun u H locs hw hP hD hS => ?_)
          obtain rfl := hw
          have hP : va_P D vwCl [(x3, .inl (ty 4, 20, .inr (.inr (.inr (.inr (fun _ => none)))))), (x8, .inr (8, [.ref x1, .ref x9, .ref x10, .ref x12, .ref x14, .int 0, .ref x15, .ref x16, .ref x17, .int 0, .ref x18, .ref x19, .int 0, .int 0, .int 0, .int 0])), (x20, .inr (14, [.ref x1, .ref x8, .ref x21, .ref x28, .ref x35, .int 0, .ref x36, .ref x37, .ref x38, .int 0, .int 0, .int 0, .int 0, .int 0, .int 0, .int 0, .int 0])), (x45, .inr (5, [.ref x46, .ref x47, .int 0, .int 0])), (x0, .inr (15, [.ref x1, .ref x8, .ref x20, .ref x39, .ref x41, .ref x43, .ref x45])), (x1, .inr (11, [.ref x2, .int 0, .ref x3, .int 0, .ref x4, .ref x5, .int 1, .ref x6, .ref x7, .int 0]))] H := hP
          have hD : va_D A [(x3, .inl (ty 4, 20, .inr (.inr (.inr (.inr (fun _ => none)))))), (x8, .inr (8, [.ref x1, .ref x9, .ref x10, .ref x12, .ref x14, .int 0, .ref x15, .ref x16, .ref x17, .int 0, .ref x18, .ref x19, .int 0, .int 0, .int 0, .int 0])), (x20, .inr (14, [.ref x1, .ref x8, .ref x21, .ref x28, .ref x35, .int 0, .ref x36, .ref x37, .ref x38, .int 0, .int 0, .int 0, .int 0, .int 0, .int 0, .int 0, .int 0])), (x45, .inr (5, [.ref x46, .ref x47, .int 0, .int 0])), (x0, .inr (15, [.ref x1, .ref x8, .ref x20, .ref x39, .ref x41, .ref x43, .ref x45])), (x1, .inr (11, [.ref x2, .int 0, .ref x3, .int 0, .ref x4, .ref x5, .int 1, .ref x6, .ref x7, .int 0]))] := hD
          refine W.widen (k := 2) (n := 12) (Nat.le_of_ble_eq_true rfl) (Nat.le_of_ble_eq_true rfl) ?_
          refine lv_aload_n hx hb dX10_addWeak_36 rfl (lv_at hl 0 rfl) ?_
          refine wq_v (wc := [(x0, .inr (15, [.ref x1, .ref x8, .ref x20, .ref x39, .ref x41, .ref x43, .ref x45])), (x8, .inr (8, [.ref x1, .ref x9, .ref x10, .ref x12, .ref x14, .int 0, .ref x15, .ref x16, .ref x17, .int 0, .ref x18, .ref x19, .int 0, .int 0, .int 0, .int 0])), (x20, .inr (14, [.ref x1, .ref x8, .ref x21, .ref x28, .ref x35, .int 0, .ref x36, .ref x37, .ref x38, .int 0, .int 0, .int 0, .int 0, .int 0, .int 0, .int 0, .int 0])), (x45, .inr (5, [.ref x46, .ref x47, .int 0, .int 0]))]) (wr := [(x3, .inl (ty 4, 20, .inr (.inr (.inr (.inr (fun _ => none)))))), (x1, .inr (11, [.ref x2, .int 0, .ref x3, .int 0, .ref x4, .ref x5, .int 1, .ref x6, .ref x7, .int 0]))]) (va_runV (As := []) (rest := []) ⟨hx, hb, hml, hown, hts⟩ (k_X10_forgetGrounding l D ty td mi H.size x0 x1 x8 x20 x39 x41 x43 x45 x9 x10 x12 x14 x15 x16 x17 x18 x19 x21 x28 x35 x36 x37 x38 x46 x47) (cwV 0 hts gv_k_X10_addWeak_3 rfl rfl rfl (by decide +kernel) ⟨(Nat.le_of_ble_eq_true rfl), (Nat.le_of_ble_eq_true rfl)⟩) (wq_preV hP hD hK hE hS hA [4, 1, 2, 3] rfl (by decide) 4 15 rfl rfl) rfl rfl hl.1 rfl (lv_room (Nat.le_of_ble_eq_true rfl)) dX10_addWeak_37 ⟨(Nat.le_of_ble_eq_true rfl), (Nat.le_of_ble_eq_true rfl)⟩) hS hA hP hD [4, 1, 2, 3] [0, 5] rfl rfl (by decide) (by decide) (fun u H locs hw hP hD hS => ?_)
          obtain rfl := hw
          have hP : va_P D vwCl [(x3, .inl (ty 4, 20, .inr (.inr (.inr (.inr (fun _ => none)))))), (x1, .inr (11, [.ref x2, .int 0, .ref x3, .int 0, .ref x4, .ref x5, .int 1, .ref x6, .ref x7, .int 0])), (x0, .inr (15, [.ref x1, .ref x8, .ref x20, .ref x39, .ref x41, .ref x43, .ref x45])), (x8, .inr (8, [.ref x1, .ref x9, .ref x10, .ref x12, .ref x14, .int 0, .ref x15, .ref x16, .ref x17, .int 0, .ref x18, .ref x19, .int 0, .int 0, .int 0, .int 0])), (x20, .inr (14, [.ref x1, .ref x8, .ref x21, .ref x28, .ref x35, .int 0, .ref x36, .ref x37, .ref x38, .int 0, .int 0, .int 0, .int 0, .int 0, .int 0, .int 0, .int 0])), (x45, .inr (5, [.ref x46, .ref x47, .int 0, .int 0]))] H := hP
          have hD : va_D A [(x3, .inl (ty 4, 20, .inr (.inr (.inr (.inr (fun _ => none)))))), (x1, .inr (11, [.ref x2, .int 0, .ref x3, .int 0, .ref x4, .ref x5, .int 1, .ref x6, .ref x7, .int 0])), (x0, .inr (15, [.ref x1, .ref x8, .ref x20, .ref x39, .ref x41, .ref x43, .ref x45])), (x8, .inr (8, [.ref x1, .ref x9, .ref x10, .ref x12, .ref x14, .int 0, .ref x15, .ref x16, .ref x17, .int 0, .ref x18, .ref x19, .int 0, .int 0, .int 0, .int 0])), (x20, .inr (14, [.ref x1, .ref x8, .ref x21, .ref x28, .ref x35, .int 0, .ref x36, .ref x37, .ref x38, .int 0, .int 0, .int 0, .int 0, .int 0, .int 0, .int 0, .int 0])), (x45, .inr (5, [.ref x46, .ref x47, .int 0, .int 0]))] := hD
          refine W.widen (k := 2) (n := 12) (Nat.le_of_ble_eq_true rfl) (Nat.le_of_ble_eq_true rfl) ?_
          refine va_new (ci := 13) (fs := [.int 0, .int 0, .int 0, .int 0, .int 0, .int 0, .int 0, .null, .int 0, .null, .int 0]) (C := RX8) (T := TX8) (N := 11) hx hb hts iv_k_X10_addWeak_X8 tyX8 tyX8_ok hown (hts (.classLink RX10 90 RX8) (by decide +kernel)) (hts (.instantiable RX8 11) (by decide +kernel)) (hts (.initialized RX8) (by decide +kernel)) hK hP hD hS hA rfl (fun j hj => by rcases (show j = 0 ∨ j = 1 ∨ j = 2 ∨ j = 3 ∨ j = 4 ∨ j = 5 ∨ j = 6 ∨ j = 7 ∨ j = 8 ∨ j = 9 ∨ j = 10 by omega) with rfl | rfl | rfl | rfl | rfl | rfl | rfl | rfl | rfl | rfl | rfl <;> rfl) (Nat.le_of_ble_eq_true rfl) (Nat.le_of_ble_eq_true rfl) dX10_addWeak_40 (fun q105 H hP hD hS => ?_)
          have hP : va_P D vwCl [(x3, .inl (ty 4, 20, .inr (.inr (.inr (.inr (fun _ => none)))))), (x1, .inr (11, [.ref x2, .int 0, .ref x3, .int 0, .ref x4, .ref x5, .int 1, .ref x6, .ref x7, .int 0])), (x0, .inr (15, [.ref x1, .ref x8, .ref x20, .ref x39, .ref x41, .ref x43, .ref x45])), (x8, .inr (8, [.ref x1, .ref x9, .ref x10, .ref x12, .ref x14, .int 0, .ref x15, .ref x16, .ref x17, .int 0, .ref x18, .ref x19, .int 0, .int 0, .int 0, .int 0])), (x20, .inr (14, [.ref x1, .ref x8, .ref x21, .ref x28, .ref x35, .int 0, .ref x36, .ref x37, .ref x38, .int 0, .int 0, .int 0, .int 0, .int 0, .int 0, .int 0, .int 0])), (x45, .inr (5, [.ref x46, .ref x47, .int 0, .int 0])), (q105, .inr (13, [.int 0, .int 0, .int 0, .int 0, .int 0, .int 0, .int 0, .null, .int 0, .null, .int 0]))] H := hP
          have hD : va_D A [(x3, .inl (ty 4, 20, .inr (.inr (.inr (.inr (fun _ => none)))))), (x1, .inr (11, [.ref x2, .int 0, .ref x3, .int 0, .ref x4, .ref x5, .int 1, .ref x6, .ref x7, .int 0])), (x0, .inr (15, [.ref x1, .ref x8, .ref x20, .ref x39, .ref x41, .ref x43, .ref x45])), (x8, .inr (8, [.ref x1, .ref x9, .ref x10, .ref x12, .ref x14, .int 0, .ref x15, .ref x16, .ref x17, .int 0, .ref x18, .ref x19, .int 0, .int 0, .int 0, .int 0])), (x20, .inr (14, [.ref x1, .ref x8, .ref x21, .ref x28, .ref x35, .int 0, .ref x36, .ref x37, .ref x38, .int 0, .int 0, .int 0, .int 0, .int 0, .int 0, .int 0, .int 0])), (x45, .inr (5, [.ref x46, .ref x47, .int 0, .int 0])), (q105, .inr (13, [.int 0, .int 0, .int 0, .int 0, .int 0, .int 0, .int 0, .null, .int 0, .null, .int 0]))] := hD
          refine W.widen (k := 3) (n := 23) (Nat.le_of_ble_eq_true rfl) (Nat.le_of_ble_eq_true rfl) ?_
          refine lv_dup hx hb dX10_addWeak_43 rfl ?_
          refine lv_bipush (v := 119) hx hb dX10_addWeak_44 (by decide) ?_
          refine lv_iload_n hx hb dX10_addWeak_46 rfl (lv_at hl 1 rfl) ?_
          refine wq_v (wc := [(q105, .inr (13, [.int 0, .int 0, .int 0, .int 0, .int 0, .int 0, .int 0, .null, .int 0, .null, .int 0]))]) (wr := [(x3, .inl (ty 4, 20, .inr (.inr (.inr (.inr (fun _ => none)))))), (x1, .inr (11, [.ref x2, .int 0, .ref x3, .int 0, .ref x4, .ref x5, .int 1, .ref x6, .ref x7, .int 0])), (x0, .inr (15, [.ref x1, .ref x8, .ref x20, .ref x39, .ref x41, .ref x43, .ref x45])), (x8, .inr (8, [.ref x1, .ref x9, .ref x10, .ref x12, .ref x14, .int 0, .ref x15, .ref x16, .ref x17, .int 0, .ref x18, .ref x19, .int 0, .int 0, .int 0, .int 0])), (x20, .inr (14, [.ref x1, .ref x8, .ref x21, .ref x28, .ref x35, .int 0, .ref x36, .ref x37, .ref x38, .int 0, .int 0, .int 0, .int 0, .int 0, .int 0, .int 0, .int 0])), (x45, .inr (5, [.ref x46, .ref x47, .int 0, .int 0]))]) (va_runI (As := [.int 119, .int k1]) (rest := [.ref q105]) ⟨hx, hb, hml, hown, hts⟩ (k_X8_init_w l D ty td mi H.size q105 k1) (cwI 2 hts gv_k_X10_addWeak_4 rfl rfl rfl (hts (.initialized RX8) (by decide +kernel)) (hts (.methodLink RX10 92 yX8_init) (by decide +kernel)) (hts (.instanceMethod yX8_init) (by decide +kernel)) rfl (by decide +kernel) ⟨(Nat.le_of_ble_eq_true rfl), (Nat.le_of_ble_eq_true rfl)⟩) (wq_preS hP hD hK hE hS hA [6] rfl (by decide)) rfl rfl hl.1 rfl (lv_room (Nat.le_of_ble_eq_true rfl)) dX10_addWeak_47 ⟨(Nat.le_of_ble_eq_true rfl), (Nat.le_of_ble_eq_true rfl)⟩) hS hA hP hD [6] [0, 1, 2, 3, 4, 5] rfl rfl (by decide) (by decide) (fun u H locs hw hP hD hS => ?_)
          obtain ⟨q106, q107, rfl⟩ := hw
          have hP : va_P D vwCl [(x3, .inl (ty 4, 20, .inr (.inr (.inr (.inr (fun _ => none)))))), (x1, .inr (11, [.ref x2, .int 0, .ref x3, .int 0, .ref x4, .ref x5, .int 1, .ref x6, .ref x7, .int 0])), (x0, .inr (15, [.ref x1, .ref x8, .ref x20, .ref x39, .ref x41, .ref x43, .ref x45])), (x8, .inr (8, [.ref x1, .ref x9, .ref x10, .ref x12, .ref x14, .int 0, .ref x15, .ref x16, .ref x17, .int 0, .ref x18, .ref x19, .int 0, .int 0, .int 0, .int 0])), (x20, .inr (14, [.ref x1, .ref x8, .ref x21, .ref x28, .ref x35, .int 0, .ref x36, .ref x37, .ref x38, .int 0, .int 0, .int 0, .int 0, .int 0, .int 0, .int 0, .int 0])), (x45, .inr (5, [.ref x46, .ref x47, .int 0, .int 0])), (q105, .inr (13, [.int 119, .int k1, .int 0, .int 0, .int (-1), .int 0, .int 0, .ref q106, .int 0, .ref q107, .int 0])), (q106, .inl (ty 5, 2, .inr (.inr (.inr (.inr (fun _ => none)))))), (q107, .inl (ty 5, 5, .inr (.inr (.inr (.inr (fun _ => none))))))] H := hP
          have hD : va_D A [(x3, .inl (ty 4, 20, .inr (.inr (.inr (.inr (fun _ => none)))))), (x1, .inr (11, [.ref x2, .int 0, .ref x3, .int 0, .ref x4, .ref x5, .int 1, .ref x6, .ref x7, .int 0])), (x0, .inr (15, [.ref x1, .ref x8, .ref x20, .ref x39, .ref x41, .ref x43, .ref x45])), (x8, .inr (8, [.ref x1, .ref x9, .ref x10, .ref x12, .ref x14, .int 0, .ref x15, .ref x16, .ref x17, .int 0, .ref x18, .ref x19, .int 0, .int 0, .int 0, .int 0])), (x20, .inr (14, [.ref x1, .ref x8, .ref x21, .ref x28, .ref x35, .int 0, .ref x36, .ref x37, .ref x38, .int 0, .int 0, .int 0, .int 0, .int 0, .int 0, .int 0, .int 0])), (x45, .inr (5, [.ref x46, .ref x47, .int 0, .int 0])), (q105, .inr (13, [.int 119, .int k1, .int 0, .int 0, .int (-1), .int 0, .int 0, .ref q106, .int 0, .ref q107, .int 0])), (q106, .inl (ty 5, 2, .inr (.inr (.inr (.inr (fun _ => none)))))), (q107, .inl (ty 5, 5, .inr (.inr (.inr (.inr (fun _ => none))))))] := hD
          refine W.widen (k := 5) (n := 30) (Nat.le_of_ble_eq_true rfl) (Nat.le_of_ble_eq_true rfl) ?_
          refine lv_astore (lv' := [(4, .ref q105), (0, .ref x0), (1, .int k1), (2, .int k2), (3, .int k3)]) hx hb dX10_addWeak_50 hl (by decide) rfl (fun ls hl => ?_)
          refine lv_aload hx hb dX10_addWeak_52 (lv_at hl 0 rfl) ?_
          refine lv_iload_n hx hb dX10_addWeak_54 rfl (lv_at hl 3 rfl) ?_
          refine va_putN (D := D) (ci := 13) (v := .int k2) (ty := tyX8 5) (C := RX8) (T := TX8) (N := 11) hx hb hts iv_k_X10_addWeak_X8 tyX8 tyX8_ok nmX8 hown hK hP hD hS 6 rfl rfl 5 (by decide) (hE.at (.fieldLinkNest "AnswerFold" 120 "AnswerFold$Rule" "weight" "I" "AnswerFold") (by decide +kernel)) (fun _ h9 => h9) rfl (by decide +kernel) rfl rfl (Nat.le_of_ble_eq_true rfl) dX10_addWeak_55 (fun H locs hP hD hS => ?_)
          have hP : va_P D vwCl [(x3, .inl (ty 4, 20, .inr (.inr (.inr (.inr (fun _ => none)))))), (x1, .inr (11, [.ref x2, .int 0, .ref x3, .int 0, .ref x4, .ref x5, .int 1, .ref x6, .ref x7, .int 0])), (x0, .inr (15, [.ref x1, .ref x8, .ref x20, .ref x39, .ref x41, .ref x43, .ref x45])), (x8, .inr (8, [.ref x1, .ref x9, .ref x10, .ref x12, .ref x14, .int 0, .ref x15, .ref x16, .ref x17, .int 0, .ref x18, .ref x19, .int 0, .int 0, .int 0, .int 0])), (x20, .inr (14, [.ref x1, .ref x8, .ref x21, .ref x28, .ref x35, .int 0, .ref x36, .ref x37, .ref x38, .int 0, .int 0, .int 0, .int 0, .int 0, .int 0, .int 0, .int 0])), (x45, .inr (5, [.ref x46, .ref x47, .int 0, .int 0])), (q105, .inr (13, [.int 119, .int k1, .int 0, .int 0, .int (-1), .int k2, .int 0, .ref q106, .int 0, .ref q107, .int 0])), (q106, .inl (ty 5, 2, .inr (.inr (.inr (.inr (fun _ => none)))))), (q107, .inl (ty 5, 5, .inr (.inr (.inr (.inr (fun _ => none))))))] H := hP
          have hD : va_D A [(x3, .inl (ty 4, 20, .inr (.inr (.inr (.inr (fun _ => none)))))), (x1, .inr (11, [.ref x2, .int 0, .ref x3, .int 0, .ref x4, .ref x5, .int 1, .ref x6, .ref x7, .int 0])), (x0, .inr (15, [.ref x1, .ref x8, .ref x20, .ref x39, .ref x41, .ref x43, .ref x45])), (x8, .inr (8, [.ref x1, .ref x9, .ref x10, .ref x12, .ref x14, .int 0, .ref x15, .ref x16, .ref x17, .int 0, .ref x18, .ref x19, .int 0, .int 0, .int 0, .int 0])), (x20, .inr (14, [.ref x1, .ref x8, .ref x21, .ref x28, .ref x35, .int 0, .ref x36, .ref x37, .ref x38, .int 0, .int 0, .int 0, .int 0, .int 0, .int 0, .int 0, .int 0])), (x45, .inr (5, [.ref x46, .ref x47, .int 0, .int 0])), (q105, .inr (13, [.int 119, .int k1, .int 0, .int 0, .int (-1), .int k2, .int 0, .ref q106, .int 0, .ref q107, .int 0])), (q106, .inl (ty 5, 2, .inr (.inr (.inr (.inr (fun _ => none)))))), (q107, .inl (ty 5, 5, .inr (.inr (.inr (.inr (fun _ => none))))))] := hD
          refine lv_aload hx hb dX10_addWeak_58 (lv_at hl 0 rfl) ?_
          refine lv_iload_n hx hb dX10_addWeak_60 rfl (lv_at hl 4 rfl) ?_
          refine va_putN (D := D) (ci := 13) (v := .int k3) (ty := tyX8 6) (C := RX8) (T := TX8) (N := 11) hx hb hts iv_k_X10_addWeak_X8 tyX8 tyX8_ok nmX8 hown hK hP hD hS 6 rfl rfl 6 (by decide) (hE.at (.fieldLinkNest "AnswerFold" 123 "AnswerFold$Rule" "level" "I" "AnswerFold") (by decide +kernel)) (fun _ h9 => h9) rfl (by decide +kernel) rfl rfl (Nat.le_of_ble_eq_true rfl) dX10_addWeak_61 (fun H locs hP hD hS => ?_)
          have hP : va_P D vwCl [(x3, .inl (ty 4, 20, .inr (.inr (.inr (.inr (fun _ => none)))))), (x1, .inr (11, [.ref x2, .int 0, .ref x3, .int 0, .ref x4, .ref x5, .int 1, .ref x6, .ref x7, .int 0])), (x0, .inr (15, [.ref x1, .ref x8, .ref x20, .ref x39, .ref x41, .ref x43, .ref x45])), (x8, .inr (8, [.ref x1, .ref x9, .ref x10, .ref x12, .ref x14, .int 0, .ref x15, .ref x16, .ref x17, .int 0, .ref x18, .ref x19, .int 0, .int 0, .int 0, .int 0])), (x20, .inr (14, [.ref x1, .ref x8, .ref x21, .ref x28, .ref x35, .int 0, .ref x36, .ref x37, .ref x38, .int 0, .int 0, .int 0, .int 0, .int 0, .int 0, .int 0, .int 0])), (x45, .inr (5, [.ref x46, .ref x47, .int 0, .int 0])), (q105, .inr (13, [.int 119, .int k1, .int 0, .int 0, .int (-1), .int k2, .int k3, .ref q106, .int 0, .ref q107, .int 0])), (q106, .inl (ty 5, 2, .inr (.inr (.inr (.inr (fun _ => none)))))), (q107, .inl (ty 5, 5, .inr (.inr (.inr (.inr (fun _ => none))))))] H := hP
          have hD : va_D A [(x3, .inl (ty 4, 20, .inr (.inr (.inr (.inr (fun _ => none)))))), (x1, .inr (11, [.ref x2, .int 0, .ref x3, .int 0, .ref x4, .ref x5, .int 1, .ref x6, .ref x7, .int 0])), (x0, .inr (15, [.ref x1, .ref x8, .ref x20, .ref x39, .ref x41, .ref x43, .ref x45])), (x8, .inr (8, [.ref x1, .ref x9, .ref x10, .ref x12, .ref x14, .int 0, .ref x15, .ref x16, .ref x17, .int 0, .ref x18, .ref x19, .int 0, .int 0, .int 0, .int 0])), (x20, .inr (14, [.ref x1, .ref x8, .ref x21, .ref x28, .ref x35, .int 0, .ref x36, .ref x37, .ref x38, .int 0, .int 0, .int 0, .int 0, .int 0, .int 0, .int 0, .int 0])), (x45, .inr (5, [.ref x46, .ref x47, .int 0, .int 0])), (q105, .inr (13, [.int 119, .int k1, .int 0, .int 0, .int (-1), .int k2, .int k3, .ref q106, .int 0, .ref q107, .int 0])), (q106, .inl (ty 5, 2, .inr (.inr (.inr (.inr (fun _ => none)))))), (q107, .inl (ty 5, 5, .inr (.inr (.inr (.inr (fun _ => none))))))] := hD
          refine lv_aload_n hx hb dX10_addWeak_64 rfl (lv_at hl 1 rfl) ?_
          refine va_get (D := D) (ci := 15) (v := .ref x1) (C := RX10) (T := TX10) (N := 7) hx hb hts iv_k_X10_addWeak_X10 hown hK hP 2 rfl rfl 0 (by decide) (hts (.fieldLink RX10 12 "AnswerFold" "program" "LAnswerFold$Program;") (by decide +kernel)) (fun _ h9 => h9) rfl dX10_addWeak_65 ?_
          refine lv_aload hx hb dX10_addWeak_68 (lv_at hl 0 rfl) ?_
          refine wq_i (wc := [(x1, .inr (11, [.ref x2, .int 0, .ref x3, .int 0, .ref x4, .ref x5, .int 1, .ref x6, .ref x7, .int 0])), (x3, .inl (ty 4, 20, .inr (.inr (.inr (.inr (fun _ => none)))))), (q105, .inr (13, [.int 119, .int k1, .int 0, .int 0, .int (-1), .int k2, .int k3, .ref q106, .int 0, .ref q107, .int 0]))]) (wr := [(x0, .inr (15, [.ref x1, .ref x8, .ref x20, .ref x39, .ref x41, .ref x43, .ref x45])), (x8, .inr (8, [.ref x1, .ref x9, .ref x10, .ref x12, .ref x14, .int 0, .ref x15, .ref x16, .ref x17, .int 0, .ref x18, .ref x19, .int 0, .int 0, .int 0, .int 0])), (x20, .inr (14, [.ref x1, .ref x8, .ref x21, .ref x28, .ref x35, .int 0, .ref x36, .ref x37, .ref x38, .int 0, .int 0, .int 0, .int 0, .int 0, .int 0, .int 0, .int 0])), (x45, .inr (5, [.ref x46, .ref x47, .int 0, .int 0])), (q106, .inl (ty 5, 2, .inr (.inr (.inr (.inr (fun _ => none)))))), (q107, .inl (ty 5, 5, .inr (.inr (.inr (.inr (fun _ => none))))))]) (va_runV (As := [.ref q105]) (rest := []) ⟨hx, hb, hml, hown, hts⟩ (k_X6_tellRule l D ty td mi H.size x1 x2 x3 x4 x5 x6 x7 q105 q106 q107 119 k1 0 0 (-1) k2 k3 q106 0 q107 0) (cwV 1 hts gv_k_X10_addWeak_5 rfl rfl rfl (by decide +kernel) ⟨(Nat.le_of_ble_eq_true rfl), (Nat.le_of_ble_eq_true rfl)⟩) (wq_preV hP hD hK hE hS hA [1, 0, 6] rfl (by decide) 1 11 rfl rfl) rfl rfl hl.1 rfl (lv_room (Nat.le_of_ble_eq_true rfl)) dX10_addWeak_70 ⟨(Nat.le_of_ble_eq_true rfl), (Nat.le_of_ble_eq_true rfl)⟩) hS hA hP hD [1, 0, 6] [2, 3, 4, 5, 7, 8] rfl rfl (by decide) (by decide) (fun r u H locs hw hP hD hS => ?_)
          obtain ⟨rfl, rfl⟩ := hw
          have hP : va_P D vwCl [(x0, .inr (15, [.ref x1, .ref x8, .ref x20, .ref x39, .ref x41, .ref x43, .ref x45])), (x8, .inr (8, [.ref x1, .ref x9, .ref x10, .ref x12, .ref x14, .int 0, .ref x15, .ref x16, .ref x17, .int 0, .ref x18, .ref x19, .int 0, .int 0, .int 0, .int 0])), (x20, .inr (14, [.ref x1, .ref x8, .ref x21, .ref x28, .ref x35, .int 0, .ref x36, .ref x37, .ref x38, .int 0, .int 0, .int 0, .int 0, .int 0, .int 0, .int 0, .int 0])), (x45, .inr (5, [.ref x46, .ref x47, .int 0, .int 0])), (q106, .inl (ty 5, 2, .inr (.inr (.inr (.inr (fun _ => none)))))), (q107, .inl (ty 5, 5, .inr (.inr (.inr (.inr (fun _ => none))))))] H := hP
          have hD : va_D A [(x0, .inr (15, [.ref x1, .ref x8, .ref x20, .ref x39, .ref x41, .ref x43, .ref x45])), (x8, .inr (8, [.ref x1, .ref x9, .ref x10, .ref x12, .ref x14, .int 0, .ref x15, .ref x16, .ref x17, .int 0, .ref x18, .ref x19, .int 0, .int 0, .int 0, .int 0])), (x20, .inr (14, [.ref x1, .ref x8, .ref x21, .ref x28, .ref x35, .int 0, .ref x36, .ref x37, .ref x38, .int 0, .int 0, .int 0, .int 0, .int 0, .int 0, .int 0, .int 0])), (x45, .inr (5, [.ref x46, .ref x47, .int 0, .int 0])), (q106, .inl (ty 5, 2, .inr (.inr (.inr (.inr (fun _ => none)))))), (q107, .inl (ty 5, 5, .inr (.inr (.inr (.inr (fun _ => none))))))] := hD
          refine W.widen (k := 5) (n := 30) (Nat.le_of_ble_eq_true rfl) (Nat.le_of_ble_eq_true rfl) ?_
          have hP9 := hP.sub (ws' := []) [] rfl
          have hD9 := hD.sub (ws' := []) [] (by decide) rfl
          refine W.widen (k := 5) (n := 30) (Nat.le_of_ble_eq_true rfl) (Nat.le_of_ble_eq_true rfl) ?_
          refine vx_ret ?_
          exact W.iret (v := 0) hx hb hr (fun t ht hW => ⟨⟨0, [], rfl, ⟨rfl, c_4, c_5, c_6, c_7, c_11, c_12, rfl⟩, wq_B.of ht hP9 hD9⟩, hS.F ht⟩) hS.2.2 dX10_addWeak_73
      · obtain ⟨sa, hsa⟩ := hE.st 115 "weights are -99 to 99" (by decide +kernel)
        exact vx_throwS (own := RX10) (cls := "java/lang/IllegalArgumentException") (text := "weights are -99 to 99") (names := ["java/lang/RuntimeException", "java/lang/Exception"]) (ik := 60) (is := 115) (ic := 64) (sa := sa) (A := A) hx hb hl9 hown (by decide +kernel) (by decide +kernel) (hts (.classLink RX10 60 "java/lang/IllegalArgumentException") (by decide +kernel)) (hts (.initialized "java/lang/IllegalArgumentException") (by decide +kernel)) hsa (wq_hat hE hts ix_k_X10_addWeak_64 (by decide +kernel) (by decide +kernel)) (by decide +kernel) hE.zu hE.zs hS (hl.1.trans hml.symm) dX10_addWeak_17 dX10_addWeak_20 dX10_addWeak_21 dX10_addWeak_23 dX10_addWeak_26 (fun x hx => (hEx x hx).elim) (Nat.le_of_ble_eq_true rfl) (Nat.le_of_ble_eq_true rfl) (Nat.le_of_ble_eq_true rfl) (Nat.le_of_ble_eq_true rfl) hlocks (fun t ha hz hk => wq_thr hS (by exact (Or.inr (Or.inr (Or.inr (Or.inr (Or.inr ⟨rfl, c_4, c_5, c_6, c_7⟩)))))) hz hk) hS.2.2 (Nat.le_of_ble_eq_true rfl) (Nat.le_of_ble_eq_true rfl)
def vs_k_X10_addHead : List Cond := .code yX10_addHead cX10_addHead 7 (some .int) :: ([.fieldLink RX10 12 "AnswerFold" "program" "LAnswerFold$Program;", .methodLink RX10 126 yX6_ruleAt, .instanceMethod yX6_ruleAt, .selects RX6 yX6_ruleAt yX6_ruleAt, .initialized RX6, .classLink RX10 134 "java/lang/IndexOutOfBoundsException", .initialized "java/lang/IndexOutOfBoundsException"] ++ (u_ws RX10 TX10 7 ++ (vs_k_X6_ruleAt ++ ((vx_atS RX10 138 "java/lang/IndexOutOfBoundsException" ["java/lang/RuntimeException", "java/lang/Exception"]).filter goodWord))))
theorem iv_k_X10_addHead_X10 : ∀ w ∈ u_ws RX10 TX10 7, w ∈ vs_k_X10_addHead := (fun _ h => List.mem_cons_of_mem _ (List.mem_append_right _ (List.mem_append_left _ h)))
theorem ix_k_X10_addHead_138 : ∀ w ∈ (vx_atS RX10 138 "java/lang/IndexOutOfBoundsException" ["java/lang/RuntimeException", "java/lang/Exception"]).filter goodWord, w ∈ vs_k_X10_addHead := (fun _ h => List.mem_cons_of_mem _ (List.mem_append_right _ (List.mem_append_right _ (List.mem_append_right _ (h)))))
set_option maxRecDepth 20000 in
theorem gv_k_X10_addHead_0 : GoodIn vs_k_X10_addHead (wsV RX10 126 RX6 yX6_ruleAt vs_k_X6_ruleAt) := goodIn_app (goodIn_sub (by decide +kernel) (by decide +kernel)) (goodIn_sub (fun _ h => List.mem_cons_of_mem _ (List.mem_append_right _ (List.mem_append_right _ (List.mem_append_left _ h)))) (by decide +kernel))
set_option maxHeartbeats 4000000 in
set_option maxRecDepth 100000 in
theorem k_X10_addHead (l : Launch) (hl9 : l.stackTraces = false) (D : va_G) (ty : Nat → ClassId) (td mi sz : Nat) (x0 : Nat) (x1 : Nat) (x8 : Nat) (x20 : Nat) (x39 : Nat) (x41 : Nat) (x43 : Nat) (x45 : Nat) (x2 : Nat) (x3 : Nat) (x4 : Nat) (x5 : Nat) (x6 : Nat) (x7 : Nat) (k1 : Int32) (k2 : Int32) (k3 : Int32) (k4 : Int32) : vx_Met l yX10_addHead vs_k_X10_addHead { frames := 6, cells := 1, slots := 6, locals := 82 } (va_Pc [.ref x0, .int k1, .int k2, .int k3, .int k4] (wq_P D ty td mi [(x0, .inr (15, [.ref x1, .ref x8, .ref x20, .ref x39, .ref x41, .ref x43, .ref x45])), (x1, .inr (11, [.ref x2, .int 0, .ref x3, .int 0, .ref x4, .ref x5, .int 1, .ref x6, .ref x7, .int 0]))] sz)) (va_Qi (fun (r : Int32) (u : va_W) => False) (wq_B D (va_A [(x0, .inr (15, [.ref x1, .ref x8, .ref x20, .ref x39, .ref x41, .ref x43, .ref x45])), (x1, .inr (11, [.ref x2, .int 0, .ref x3, .int 0, .ref x4, .ref x5, .int 1, .ref x6, .ref x7, .int 0]))] sz)) (va_A [(x0, .inr (15, [.ref x1, .ref x8, .ref x20, .ref x39, .ref x41, .ref x43, .ref x45])), (x1, .inr (11, [.ref x2, .int 0, .ref x3, .int 0, .ref x4, .ref x5, .int 1, .ref x6, .ref x7, .int 0]))] sz)) (vx_X (fun u : String × va_W => (u = ("java/lang/IndexOutOfBoundsException", []))) (wq_BX D (va_A [(x0, .inr (15, [.ref x1, .ref x8, .ref x20, .ref x39, .ref x41, .ref x43, .ref x45])), (x1, .inr (11, [.ref x2, .int 0, .ref x3, .int 0, .ref x4, .ref x5, .int 1, .ref x6, .ref x7, .int 0]))] sz)) (va_A [(x0, .inr (15, [.ref x1, .ref x8, .ref x20, .ref x39, .ref x41, .ref x43, .ref x45])), (x1, .inr (11, [.ref x2, .int 0, .ref x3, .int 0, .ref x4, .ref x5, .int 1, .ref x6, .ref x7, .int 0]))] sz)) 1 6 (va_A [(x0, .inr (15, [.ref x1, .ref x8, .ref x20, .ref x39, .ref x41, .ref x43, .ref x45])), (x1, .inr (11, [.ref x2, .int 0, .ref x3, .int 0, .ref x4, .ref x5, .int 1, .ref x6, .ref x7, .int 0]))] sz) := by
  refine vx_ofW (cc := cX10_addHead) (maxL := 7) (ret := (some .int)) (by decide) rfl ?_
  intro p e s m args below meth c s₁ B hml hEx hv
  obtain ⟨rfl, hsz, hP, hK, hD0, hE⟩ := hv
  have hx := B.exec
  have hb := B.bytes
  have hr := B.returns
  have hts := atoms_spec (ws := vs_k_X10_addHead) B.pre
  have hown : s.vm.findClass RX10 = some m.cls := findClass_of_methodNamed B.named
  have hlocks := B.notSynchronized
  subst hsz
  have hD := hD0.self (sz := s.heap.size)
  generalize hAe : va_A [(x0, .inr (15, [.ref x1, .ref x8, .ref x20, .ref x39, .ref x41, .ref x43, .ref x45])), (x1, .inr (11, [.ref x2, .int 0, .ref x3, .int 0, .ref x4, .ref x5, .int 1, .ref x6, .ref x7, .int 0]))] s.heap.size = A at hD hE ⊢
  have hA : ∀ q : Nat, s.heap.size ≤ q → A q := fun q h => by rw [← hAe]; exact Or.inr h
  have hS : va_S A s.heap s.heap [] := va_S.rf
  have hP : va_P D vwCl [(x0, .inr (15, [.ref x1, .ref x8, .ref x20, .ref x39, .ref x41, .ref x43, .ref x45])), (x1, .inr (11, [.ref x2, .int 0, .ref x3, .int 0, .ref x4, .ref x5, .int 1, .ref x6, .ref x7, .int 0]))] s.heap := hP
  have hl := lv_entry ([.ref x0, .int k1, .int k2, .int k3, .int k4]) (n := 7) (Nat.le_of_ble_eq_true rfl)
  rw [lg_entry_eq]
  generalize (lg_sl ([.ref x0, .int k1, .int k2, .int k3, .int k4]) ++ List.replicate (7 - (lg_sl ([.ref x0, .int k1, .int k2, .int k3, .int k4])).length) Slot.unset).toArray = ls at hl ⊢
  have hl : lv_has ls 7 [(0, .ref x0), (1, .int k1), (2, .int k2), (3, .int k3), (4, .int k4)] := hl
  refine lv_aload_n hx hb dX10_addHead_0 rfl (lv_at hl 0 rfl) ?_
  refine va_get (D := D) (ci := 15) (v := .ref x1) (C := RX10) (T := TX10) (N := 7) hx hb hts iv_k_X10_addHead_X10 hown hK hP 0 rfl rfl 0 (by decide) (hts (.fieldLink RX10 12 "AnswerFold" "program" "LAnswerFold$Program;") (by decide +kernel)) (fun _ h9 => h9) rfl dX10_addHead_1 ?_
  refine lv_iload_n hx hb dX10_addHead_4 rfl (lv_at hl 1 rfl) ?_
  refine wq_r (wc := [(x1, .inr (11, [.ref x2, .int 0, .ref x3, .int 0, .ref x4, .ref x5, .int 1, .ref x6, .ref x7, .int 0]))]) (wr := [(x0, .inr (15, [.ref x1, .ref x8, .ref x20, .ref x39, .ref x41, .ref x43, .ref x45]))]) (va_runV (As := [.int k1]) (rest := []) ⟨hx, hb, hml, hown, hts⟩ (k_X6_ruleAt l D ty td mi s.heap.size x1 x2 x3 x4 x5 x6 x7 k1) (cwV 1 hts gv_k_X10_addHead_0 rfl rfl rfl (by decide +kernel) ⟨(Nat.le_of_ble_eq_true rfl), (Nat.le_of_ble_eq_true rfl)⟩) (wq_preV hP hD hK hE hS hA [1] rfl (by decide) 1 11 rfl rfl) rfl rfl hl.1 rfl (lv_room (Nat.le_of_ble_eq_true rfl)) dX10_addHead_5 ⟨(Nat.le_of_ble_eq_true rfl), (Nat.le_of_ble_eq_true rfl)⟩) hS hA hP hD [1] [0] rfl rfl (by decide) (by decide) (fun r u H locs hw hP hD hS => ?_)
  obtain ⟨rfl, rfl⟩ := hw
  have hP : va_P D vwCl [(x0, .inr (15, [.ref x1, .ref x8, .ref x20, .ref x39, .ref x41, .ref x43, .ref x45])), (x1, .inr (11, [.ref x2, .int 0, .ref x3, .int 0, .ref x4, .ref x5, .int 1, .ref x6, .ref x7, .int 0]))] H := hP
  have hD : va_D A [(x0, .inr (15, [.ref x1, .ref x8, .ref x20, .ref x39, .ref x41, .ref x43, .ref x45])), (x1, .inr (11, [.ref x2, .int 0, .ref x3, .int 0, .ref x4, .ref x5, .int 1, .ref x6, .ref x7, .int 0]))] := hD
  refine W.widen (k := 0) (n := 0) (Nat.le_of_ble_eq_true rfl) (Nat.le_of_ble_eq_true rfl) ?_
  refine lv_astoreN (lv' := [(5, .null), (0, .ref x0), (1, .int k1), (2, .int k2), (3, .int k3), (4, .int k4)]) hx hb dX10_addHead_8 hl (by decide) rfl (fun ls hl => ?_)
  refine lv_aloadN hx hb dX10_addHead_10 (lv_at hl 0 rfl) ?_
  refine lv_ifnullN (tgt := 26) hx hb dX10_addHead_12 (by decide) ?_
  obtain ⟨sa, hsa⟩ := hE.st 136 "no such rule or predicate" (by decide +kernel)
  exact vx_throwS (own := RX10) (cls := "java/lang/IndexOutOfBoundsException") (text := "no such rule or predicate") (names := ["java/lang/RuntimeException", "java/lang/Exception"]) (ik := 134) (is := 136) (ic := 138) (sa := sa) (A := A) hx hb hl9 hown (by decide +kernel) (by decide +kernel) (hts (.classLink RX10 134 "java/lang/IndexOutOfBoundsException") (by decide +kernel)) (hts (.initialized "java/lang/IndexOutOfBoundsException") (by decide +kernel)) hsa (wq_hat hE hts ix_k_X10_addHead_138 (by decide +kernel) (by decide +kernel)) (by decide +kernel) hE.zu hE.zs hS (hl.1.trans hml.symm) dX10_addHead_26 dX10_addHead_29 dX10_addHead_30 dX10_addHead_32 dX10_addHead_35 (fun x hx => (hEx x hx).elim) (Nat.le_of_ble_eq_true rfl) (Nat.le_of_ble_eq_true rfl) (Nat.le_of_ble_eq_true rfl) (Nat.le_of_ble_eq_true rfl) hlocks (fun t ha hz hk => wq_thr hS (by exact rfl) hz hk) hS.2.2 (Nat.le_of_ble_eq_true rfl) (Nat.le_of_ble_eq_true rfl)
def vs_k_X10_addAtom : List Cond := .code yX10_addAtom cX10_addAtom 8 (some .int) :: ([.fieldLink RX10 12 "AnswerFold" "program" "LAnswerFold$Program;", .methodLink RX10 126 yX6_ruleAt, .instanceMethod yX6_ruleAt, .selects RX6 yX6_ruleAt yX6_ruleAt, .initialized RX6, .classLink RX10 134 "java/lang/IndexOutOfBoundsException", .initialized "java/lang/IndexOutOfBoundsException"] ++ (u_ws RX10 TX10 7 ++ (vs_k_X6_ruleAt ++ ((vx_atS RX10 138 "java/lang/IndexOutOfBoundsException" ["java/lang/RuntimeException", "java/lang/Exception"]).filter goodWord))))
theorem iv_k_X10_addAtom_X10 : ∀ w ∈ u_ws RX10 TX10 7, w ∈ vs_k_X10_addAtom := (fun _ h => List.mem_cons_of_mem _ (List.mem_append_right _ (List.mem_append_left _ h)))
theorem ix_k_X10_addAtom_138 : ∀ w ∈ (vx_atS RX10 138 "java/lang/IndexOutOfBoundsException" ["java/lang/RuntimeException", "java/lang/Exception"]).filter goodWord, w ∈ vs_k_X10_addAtom := (fun _ h => List.mem_cons_of_mem _ (List.mem_append_right _ (List.mem_append_right _ (List.mem_append_right _ (h)))))
set_option maxRecDepth 20000 in
theorem gv_k_X10_addAtom_0 : GoodIn vs_k_X10_addAtom (wsV RX10 126 RX6 yX6_ruleAt vs_k_X6_ruleAt) := goodIn_app (goodIn_sub (by decide +kernel) (by decide +kernel)) (goodIn_sub (fun _ h => List.mem_cons_of_mem _ (List.mem_append_right _ (List.mem_append_right _ (List.mem_append_left _ h)))) (by decide +kernel))
set_option maxHeartbeats 4000000 in
set_option maxRecDepth 100000 in
theorem k_X10_addAtom (l : Launch) (hl9 : l.stackTraces = false) (D : va_G) (ty : Nat → ClassId) (td mi sz : Nat) (x0 : Nat) (x1 : Nat) (x8 : Nat) (x20 : Nat) (x39 : Nat) (x41 : Nat) (x43 : Nat) (x45 : Nat) (x2 : Nat) (x3 : Nat) (x4 : Nat) (x5 : Nat) (x6 : Nat) (x7 : Nat) (k1 : Int32) (k2 : Int32) (k3 : Int32) (k4 : Int32) (k5 : Int32) : vx_Met l yX10_addAtom vs_k_X10_addAtom { frames := 6, cells := 1, slots := 6, locals := 82 } (va_Pc [.ref x0, .int k1, .int k2, .int k3, .int k4, .int k5] (wq_P D ty td mi [(x0, .inr (15, [.ref x1, .ref x8, .ref x20, .ref x39, .ref x41, .ref x43, .ref x45])), (x1, .inr (11, [.ref x2, .int 0, .ref x3, .int 0, .ref x4, .ref x5, .int 1, .ref x6, .ref x7, .int 0]))] sz)) (va_Qi (fun (r : Int32) (u : va_W) => False) (wq_B D (va_A [(x0, .inr (15, [.ref x1, .ref x8, .ref x20, .ref x39, .ref x41, .ref x43, .ref x45])), (x1, .inr (11, [.ref x2, .int 0, .ref x3, .int 0, .ref x4, .ref x5, .int 1, .ref x6, .ref x7, .int 0]))] sz)) (va_A [(x0, .inr (15, [.ref x1, .ref x8, .ref x20, .ref x39, .ref x41, .ref x43, .ref x45])), (x1, .inr (11, [.ref x2, .int 0, .ref x3, .int 0, .ref x4, .ref x5, .int 1, .ref x6, .ref x7, .int 0]))] sz)) (vx_X (fun u : String × va_W => (u = ("java/lang/IndexOutOfBoundsException", []))) (wq_BX D (va_A [(x0, .inr (15, [.ref x1, .ref x8, .ref x20, .ref x39, .ref x41, .ref x43, .ref x45])), (x1, .inr (11, [.ref x2, .int 0, .ref x3, .int 0, .ref x4, .ref x5, .int 1, .ref x6, .ref x7, .int 0]))] sz)) (va_A [(x0, .inr (15, [.ref x1, .ref x8, .ref x20, .ref x39, .ref x41, .ref x43, .ref x45])), (x1, .inr (11, [.ref x2, .int 0, .ref x3, .int 0, .ref x4, .ref x5, .int 1, .ref x6, .ref x7, .int 0]))] sz)) 1 6 (va_A [(x0, .inr (15, [.ref x1, .ref x8, .ref x20, .ref x39, .ref x41, .ref x43, .ref x45])), (x1, .inr (11, [.ref x2, .int 0, .ref x3, .int 0, .ref x4, .ref x5, .int 1, .ref x6, .ref x7, .int 0]))] sz) := by
  refine vx_ofW (cc := cX10_addAtom) (maxL := 8) (ret := (some .int)) (by decide) rfl ?_
  intro p e s m args below meth c s₁ B hml hEx hv
  obtain ⟨rfl, hsz, hP, hK, hD0, hE⟩ := hv
  have hx := B.exec
  have hb := B.bytes
  have hr := B.returns
  have hts := atoms_spec (ws := vs_k_X10_addAtom) B.pre
  have hown : s.vm.findClass RX10 = some m.cls := findClass_of_methodNamed B.named
  have hlocks := B.notSynchronized
  subst hsz
  have hD := hD0.self (sz := s.heap.size)
  generalize hAe : va_A [(x0, .inr (15, [.ref x1, .ref x8, .ref x20, .ref x39, .ref x41, .ref x43, .ref x45])), (x1, .inr (11, [.ref x2, .int 0, .ref x3, .int 0, .ref x4, .ref x5, .int 1, .ref x6, .ref x7, .int 0]))] s.heap.size = A at hD hE ⊢
  have hA : ∀ q : Nat, s.heap.size ≤ q → A q := fun q h => by rw [← hAe]; exact Or.inr h
  have hS : va_S A s.heap s.heap [] := va_S.rf
  have hP : va_P D vwCl [(x0, .inr (15, [.ref x1, .ref x8, .ref x20, .ref x39, .ref x41, .ref x43, .ref x45])), (x1, .inr (11, [.ref x2, .int 0, .ref x3, .int 0, .ref x4, .ref x5, .int 1, .ref x6, .ref x7, .int 0]))] s.heap := hP
  have hl := lv_entry ([.ref x0, .int k1, .int k2, .int k3, .int k4, .int k5]) (n := 8) (Nat.le_of_ble_eq_true rfl)
  rw [lg_entry_eq]
  generalize (lg_sl ([.ref x0, .int k1, .int k2, .int k3, .int k4, .int k5]) ++ List.replicate (8 - (lg_sl ([.ref x0, .int k1, .int k2, .int k3, .int k4, .int k5])).length) Slot.unset).toArray = ls at hl ⊢
  have hl : lv_has ls 8 [(0, .ref x0), (1, .int k1), (2, .int k2), (3, .int k3), (4, .int k4), (5, .int k5)] := hl
  refine lv_aload_n hx hb dX10_addAtom_0 rfl (lv_at hl 0 rfl) ?_
  refine va_get (D := D) (ci := 15) (v := .ref x1) (C := RX10) (T := TX10) (N := 7) hx hb hts iv_k_X10_addAtom_X10 hown hK hP 0 rfl rfl 0 (by decide) (hts (.fieldLink RX10 12 "AnswerFold" "program" "LAnswerFold$Program;") (by decide +kernel)) (fun _ h9 => h9) rfl dX10_addAtom_1 ?_
  refine lv_iload_n hx hb dX10_addAtom_4 rfl (lv_at hl 1 rfl) ?_
  refine wq_r (wc := [(x1, .inr (11, [.ref x2, .int 0, .ref x3, .int 0, .ref x4, .ref x5, .int 1, .ref x6, .ref x7, .int 0]))]) (wr := [(x0, .inr (15, [.ref x1, .ref x8, .ref x20, .ref x39, .ref x41, .ref x43, .ref x45]))]) (va_runV (As := [.int k1]) (rest := []) ⟨hx, hb, hml, hown, hts⟩ (k_X6_ruleAt l D ty td mi s.heap.size x1 x2 x3 x4 x5 x6 x7 k1) (cwV 1 hts gv_k_X10_addAtom_0 rfl rfl rfl (by decide +kernel) ⟨(Nat.le_of_ble_eq_true rfl), (Nat.le_of_ble_eq_true rfl)⟩) (wq_preV hP hD hK hE hS hA [1] rfl (by decide) 1 11 rfl rfl) rfl rfl hl.1 rfl (lv_room (Nat.le_of_ble_eq_true rfl)) dX10_addAtom_5 ⟨(Nat.le_of_ble_eq_true rfl), (Nat.le_of_ble_eq_true rfl)⟩) hS hA hP hD [1] [0] rfl rfl (by decide) (by decide) (fun r u H locs hw hP hD hS => ?_)
  obtain ⟨rfl, rfl⟩ := hw
  have hP : va_P D vwCl [(x0, .inr (15, [.ref x1, .ref x8, .ref x20, .ref x39, .ref x41, .ref x43, .ref x45])), (x1, .inr (11, [.ref x2, .int 0, .ref x3, .int 0, .ref x4, .ref x5, .int 1, .ref x6, .ref x7, .int 0]))] H := hP
  have hD : va_D A [(x0, .inr (15, [.ref x1, .ref x8, .ref x20, .ref x39, .ref x41, .ref x43, .ref x45])), (x1, .inr (11, [.ref x2, .int 0, .ref x3, .int 0, .ref x4, .ref x5, .int 1, .ref x6, .ref x7, .int 0]))] := hD
  refine W.widen (k := 0) (n := 0) (Nat.le_of_ble_eq_true rfl) (Nat.le_of_ble_eq_true rfl) ?_
  refine lv_astoreN (lv' := [(6, .null), (0, .ref x0), (1, .int k1), (2, .int k2), (3, .int k3), (4, .int k4), (5, .int k5)]) hx hb dX10_addAtom_8 hl (by decide) rfl (fun ls hl => ?_)
  refine lv_aloadN hx hb dX10_addAtom_10 (lv_at hl 0 rfl) ?_
  refine lv_ifnullN (tgt := 26) hx hb dX10_addAtom_12 (by decide) ?_
  obtain ⟨sa, hsa⟩ := hE.st 136 "no such rule or predicate" (by decide +kernel)
  exact vx_throwS (own := RX10) (cls := "java/lang/IndexOutOfBoundsException") (text := "no such rule or predicate") (names := ["java/lang/RuntimeException", "java/lang/Exception"]) (ik := 134) (is := 136) (ic := 138) (sa := sa) (A := A) hx hb hl9 hown (by decide +kernel) (by decide +kernel) (hts (.classLink RX10 134 "java/lang/IndexOutOfBoundsException") (by decide +kernel)) (hts (.initialized "java/lang/IndexOutOfBoundsException") (by decide +kernel)) hsa (wq_hat hE hts ix_k_X10_addAtom_138 (by decide +kernel) (by decide +kernel)) (by decide +kernel) hE.zu hE.zs hS (hl.1.trans hml.symm) dX10_addAtom_26 dX10_addAtom_29 dX10_addAtom_30 dX10_addAtom_32 dX10_addAtom_35 (fun x hx => (hEx x hx).elim) (Nat.le_of_ble_eq_true rfl) (Nat.le_of_ble_eq_true rfl) (Nat.le_of_ble_eq_true rfl) (Nat.le_of_ble_eq_true rfl) hlocks (fun t ha hz hk => wq_thr hS (by exact rfl) hz hk) hS.2.2 (Nat.le_of_ble_eq_true rfl) (Nat.le_of_ble_eq_true rfl)
def vs_k_X10_addTest : List Cond := .code yX10_addTest cX10_addTest 6 (some .int) :: ([.fieldLink RX10 12 "AnswerFold" "program" "LAnswerFold$Program;", .methodLink RX10 126 yX6_ruleAt, .instanceMethod yX6_ruleAt, .selects RX6 yX6_ruleAt yX6_ruleAt, .initialized RX6, .classLink RX10 134 "java/lang/IndexOutOfBoundsException", .initialized "java/lang/IndexOutOfBoundsException"] ++ (u_ws RX10 TX10 7 ++ (vs_k_X6_ruleAt ++ ((vx_atS RX10 138 "java/lang/IndexOutOfBoundsException" ["java/lang/RuntimeException", "java/lang/Exception"]).filter goodWord))))
theorem iv_k_X10_addTest_X10 : ∀ w ∈ u_ws RX10 TX10 7, w ∈ vs_k_X10_addTest := (fun _ h => List.mem_cons_of_mem _ (List.mem_append_right _ (List.mem_append_left _ h)))
theorem ix_k_X10_addTest_138 : ∀ w ∈ (vx_atS RX10 138 "java/lang/IndexOutOfBoundsException" ["java/lang/RuntimeException", "java/lang/Exception"]).filter goodWord, w ∈ vs_k_X10_addTest := (fun _ h => List.mem_cons_of_mem _ (List.mem_append_right _ (List.mem_append_right _ (List.mem_append_right _ (h)))))
set_option maxRecDepth 20000 in
theorem gv_k_X10_addTest_0 : GoodIn vs_k_X10_addTest (wsV RX10 126 RX6 yX6_ruleAt vs_k_X6_ruleAt) := goodIn_app (goodIn_sub (by decide +kernel) (by decide +kernel)) (goodIn_sub (fun _ h => List.mem_cons_of_mem _ (List.mem_append_right _ (List.mem_append_right _ (List.mem_append_left _ h)))) (by decide +kernel))
set_option maxHeartbeats 4000000 in
set_option maxRecDepth 100000 in
theorem k_X10_addTest (l : Launch) (hl9 : l.stackTraces = false) (D : va_G) (ty : Nat → ClassId) (td mi sz : Nat) (x0 : Nat) (x1 : Nat) (x8 : Nat) (x20 : Nat) (x39 : Nat) (x41 : Nat) (x43 : Nat) (x45 : Nat) (x2 : Nat) (x3 : Nat) (x4 : Nat) (x5 : Nat) (x6 : Nat) (x7 : Nat) (k1 : Int32) (k2 : Int32) (k3 : Int32) (k4 : Int32) : vx_Met l yX10_addTest vs_k_X10_addTest { frames := 6, cells := 1, slots := 6, locals := 82 } (va_Pc [.ref x0, .int k1, .int k2, .int k3, .int k4] (wq_P D ty td mi [(x0, .inr (15, [.ref x1, .ref x8, .ref x20, .ref x39, .ref x41, .ref x43, .ref x45])), (x1, .inr (11, [.ref x2, .int 0, .ref x3, .int 0, .ref x4, .ref x5, .int 1, .ref x6, .ref x7, .int 0]))] sz)) (va_Qi (fun (r : Int32) (u : va_W) => False) (wq_B D (va_A [(x0, .inr (15, [.ref x1, .ref x8, .ref x20, .ref x39, .ref x41, .ref x43, .ref x45])), (x1, .inr (11, [.ref x2, .int 0, .ref x3, .int 0, .ref x4, .ref x5, .int 1, .ref x6, .ref x7, .int 0]))] sz)) (va_A [(x0, .inr (15, [.ref x1, .ref x8, .ref x20, .ref x39, .ref x41, .ref x43, .ref x45])), (x1, .inr (11, [.ref x2, .int 0, .ref x3, .int 0, .ref x4, .ref x5, .int 1, .ref x6, .ref x7, .int 0]))] sz)) (vx_X (fun u : String × va_W => (u = ("java/lang/IndexOutOfBoundsException", []))) (wq_BX D (va_A [(x0, .inr (15, [.ref x1, .ref x8, .ref x20, .ref x39, .ref x41, .ref x43, .ref x45])), (x1, .inr (11, [.ref x2, .int 0, .ref x3, .int 0, .ref x4, .ref x5, .int 1, .ref x6, .ref x7, .int 0]))] sz)) (va_A [(x0, .inr (15, [.ref x1, .ref x8, .ref x20, .ref x39, .ref x41, .ref x43, .ref x45])), (x1, .inr (11, [.ref x2, .int 0, .ref x3, .int 0, .ref x4, .ref x5, .int 1, .ref x6, .ref x7, .int 0]))] sz)) 1 6 (va_A [(x0, .inr (15, [.ref x1, .ref x8, .ref x20, .ref x39, .ref x41, .ref x43, .ref x45])), (x1, .inr (11, [.ref x2, .int 0, .ref x3, .int 0, .ref x4, .ref x5, .int 1, .ref x6, .ref x7, .int 0]))] sz) := by
  refine vx_ofW (cc := cX10_addTest) (maxL := 6) (ret := (some .int)) (by decide) rfl ?_
  intro p e s m args below meth c s₁ B hml hEx hv
  obtain ⟨rfl, hsz, hP, hK, hD0, hE⟩ := hv
  have hx := B.exec
  have hb := B.bytes
  have hr := B.returns
  have hts := atoms_spec (ws := vs_k_X10_addTest) B.pre
  have hown : s.vm.findClass RX10 = some m.cls := findClass_of_methodNamed B.named
  have hlocks := B.notSynchronized
  subst hsz
  have hD := hD0.self (sz := s.heap.size)
  generalize hAe : va_A [(x0, .inr (15, [.ref x1, .ref x8, .ref x20, .ref x39, .ref x41, .ref x43, .ref x45])), (x1, .inr (11, [.ref x2, .int 0, .ref x3, .int 0, .ref x4, .ref x5, .int 1, .ref x6, .ref x7, .int 0]))] s.heap.size = A at hD hE ⊢
  have hA : ∀ q : Nat, s.heap.size ≤ q → A q := fun q h => by rw [← hAe]; exact Or.inr h
  have hS : va_S A s.heap s.heap [] := va_S.rf
  have hP : va_P D vwCl [(x0, .inr (15, [.ref x1, .ref x8, .ref x20, .ref x39, .ref x41, .ref x43, .ref x45])), (x1, .inr (11, [.ref x2, .int 0, .ref x3, .int 0, .ref x4, .ref x5, .int 1, .ref x6, .ref x7, .int 0]))] s.heap := hP
  have hl := lv_entry ([.ref x0, .int k1, .int k2, .int k3, .int k4]) (n := 6) (Nat.le_of_ble_eq_true rfl)
  rw [lg_entry_eq]
  generalize (lg_sl ([.ref x0, .int k1, .int k2, .int k3, .int k4]) ++ List.replicate (6 - (lg_sl ([.ref x0, .int k1, .int k2, .int k3, .int k4])).length) Slot.unset).toArray = ls at hl ⊢
  have hl : lv_has ls 6 [(0, .ref x0), (1, .int k1), (2, .int k2), (3, .int k3), (4, .int k4)] := hl
  refine lv_aload_n hx hb dX10_addTest_0 rfl (lv_at hl 0 rfl) ?_
  refine va_get (D := D) (ci := 15) (v := .ref x1) (C := RX10) (T := TX10) (N := 7) hx hb hts iv_k_X10_addTest_X10 hown hK hP 0 rfl rfl 0 (by decide) (hts (.fieldLink RX10 12 "AnswerFold" "program" "LAnswerFold$Program;") (by decide +kernel)) (fun _ h9 => h9) rfl dX10_addTest_1 ?_
  refine lv_iload_n hx hb dX10_addTest_4 rfl (lv_at hl 1 rfl) ?_
  refine wq_r (wc := [(x1, .inr (11, [.ref x2, .int 0, .ref x3, .int 0, .ref x4, .ref x5, .int 1, .ref x6, .ref x7, .int 0]))]) (wr := [(x0, .inr (15, [.ref x1, .ref x8, .ref x20, .ref x39, .ref x41, .ref x43, .ref x45]))]) (va_runV (As := [.int k1]) (rest := []) ⟨hx, hb, hml, hown, hts⟩ (k_X6_ruleAt l D ty td mi s.heap.size x1 x2 x3 x4 x5 x6 x7 k1) (cwV 1 hts gv_k_X10_addTest_0 rfl rfl rfl (by decide +kernel) ⟨(Nat.le_of_ble_eq_true rfl), (Nat.le_of_ble_eq_true rfl)⟩) (wq_preV hP hD hK hE hS hA [1] rfl (by decide) 1 11 rfl rfl) rfl rfl hl.1 rfl (lv_room (Nat.le_of_ble_eq_true rfl)) dX10_addTest_5 ⟨(Nat.le_of_ble_eq_true rfl), (Nat.le_of_ble_eq_true rfl)⟩) hS hA hP hD [1] [0] rfl rfl (by decide) (by decide) (fun r u H locs hw hP hD hS => ?_)
  obtain ⟨rfl, rfl⟩ := hw
  have hP : va_P D vwCl [(x0, .inr (15, [.ref x1, .ref x8, .ref x20, .ref x39, .ref x41, .ref x43, .ref x45])), (x1, .inr (11, [.ref x2, .int 0, .ref x3, .int 0, .ref x4, .ref x5, .int 1, .ref x6, .ref x7, .int 0]))] H := hP
  have hD : va_D A [(x0, .inr (15, [.ref x1, .ref x8, .ref x20, .ref x39, .ref x41, .ref x43, .ref x45])), (x1, .inr (11, [.ref x2, .int 0, .ref x3, .int 0, .ref x4, .ref x5, .int 1, .ref x6, .ref x7, .int 0]))] := hD
  refine W.widen (k := 0) (n := 0) (Nat.le_of_ble_eq_true rfl) (Nat.le_of_ble_eq_true rfl) ?_
  refine lv_astoreN (lv' := [(5, .null), (0, .ref x0), (1, .int k1), (2, .int k2), (3, .int k3), (4, .int k4)]) hx hb dX10_addTest_8 hl (by decide) rfl (fun ls hl => ?_)
  refine lv_aloadN hx hb dX10_addTest_10 (lv_at hl 0 rfl) ?_
  refine lv_ifnonnullN hx hb dX10_addTest_12 ?_
  obtain ⟨sa, hsa⟩ := hE.st 174 "no such rule" (by decide +kernel)
  exact vx_throwS (own := RX10) (cls := "java/lang/IndexOutOfBoundsException") (text := "no such rule") (names := ["java/lang/RuntimeException", "java/lang/Exception"]) (ik := 134) (is := 174) (ic := 138) (sa := sa) (A := A) hx hb hl9 hown (by decide +kernel) (by decide +kernel) (hts (.classLink RX10 134 "java/lang/IndexOutOfBoundsException") (by decide +kernel)) (hts (.initialized "java/lang/IndexOutOfBoundsException") (by decide +kernel)) hsa (wq_hat hE hts ix_k_X10_addTest_138 (by decide +kernel) (by decide +kernel)) (by decide +kernel) hE.zu hE.zs hS (hl.1.trans hml.symm) dX10_addTest_15 dX10_addTest_18 dX10_addTest_19 dX10_addTest_21 dX10_addTest_24 (fun x hx => (hEx x hx).elim) (Nat.le_of_ble_eq_true rfl) (Nat.le_of_ble_eq_true rfl) (Nat.le_of_ble_eq_true rfl) (Nat.le_of_ble_eq_true rfl) hlocks (fun t ha hz hk => wq_thr hS (by exact rfl) hz hk) hS.2.2 (Nat.le_of_ble_eq_true rfl) (Nat.le_of_ble_eq_true rfl)
def vs_k_X10_addCount : List Cond := .code yX10_addCount cX10_addCount 6 (some .int) :: ([.fieldLink RX10 12 "AnswerFold" "program" "LAnswerFold$Program;", .methodLink RX10 126 yX6_ruleAt, .instanceMethod yX6_ruleAt, .selects RX6 yX6_ruleAt yX6_ruleAt, .initialized RX6, .classLink RX10 134 "java/lang/IndexOutOfBoundsException", .initialized "java/lang/IndexOutOfBoundsException"] ++ (u_ws RX10 TX10 7 ++ (vs_k_X6_ruleAt ++ ((vx_atS RX10 138 "java/lang/IndexOutOfBoundsException" ["java/lang/RuntimeException", "java/lang/Exception"]).filter goodWord))))
theorem iv_k_X10_addCount_X10 : ∀ w ∈ u_ws RX10 TX10 7, w ∈ vs_k_X10_addCount := (fun _ h => List.mem_cons_of_mem _ (List.mem_append_right _ (List.mem_append_left _ h)))
theorem ix_k_X10_addCount_138 : ∀ w ∈ (vx_atS RX10 138 "java/lang/IndexOutOfBoundsException" ["java/lang/RuntimeException", "java/lang/Exception"]).filter goodWord, w ∈ vs_k_X10_addCount := (fun _ h => List.mem_cons_of_mem _ (List.mem_append_right _ (List.mem_append_right _ (List.mem_append_right _ (h)))))
set_option maxRecDepth 20000 in
theorem gv_k_X10_addCount_0 : GoodIn vs_k_X10_addCount (wsV RX10 126 RX6 yX6_ruleAt vs_k_X6_ruleAt) := goodIn_app (goodIn_sub (by decide +kernel) (by decide +kernel)) (goodIn_sub (fun _ h => List.mem_cons_of_mem _ (List.mem_append_right _ (List.mem_append_right _ (List.mem_append_left _ h)))) (by decide +kernel))
set_option maxHeartbeats 4000000 in
set_option maxRecDepth 100000 in
theorem k_X10_addCount (l : Launch) (hl9 : l.stackTraces = false) (D : va_G) (ty : Nat → ClassId) (td mi sz : Nat) (x0 : Nat) (x1 : Nat) (x8 : Nat) (x20 : Nat) (x39 : Nat) (x41 : Nat) (x43 : Nat) (x45 : Nat) (x2 : Nat) (x3 : Nat) (x4 : Nat) (x5 : Nat) (x6 : Nat) (x7 : Nat) (k1 : Int32) (k2 : Int32) (k3 : Int32) (k4 : Int32) : vx_Met l yX10_addCount vs_k_X10_addCount { frames := 6, cells := 1, slots := 6, locals := 82 } (va_Pc [.ref x0, .int k1, .int k2, .int k3, .int k4] (wq_P D ty td mi [(x0, .inr (15, [.ref x1, .ref x8, .ref x20, .ref x39, .ref x41, .ref x43, .ref x45])), (x1, .inr (11, [.ref x2, .int 0, .ref x3, .int 0, .ref x4, .ref x5, .int 1, .ref x6, .ref x7, .int 0]))] sz)) (va_Qi (fun (r : Int32) (u : va_W) => False) (wq_B D (va_A [(x0, .inr (15, [.ref x1, .ref x8, .ref x20, .ref x39, .ref x41, .ref x43, .ref x45])), (x1, .inr (11, [.ref x2, .int 0, .ref x3, .int 0, .ref x4, .ref x5, .int 1, .ref x6, .ref x7, .int 0]))] sz)) (va_A [(x0, .inr (15, [.ref x1, .ref x8, .ref x20, .ref x39, .ref x41, .ref x43, .ref x45])), (x1, .inr (11, [.ref x2, .int 0, .ref x3, .int 0, .ref x4, .ref x5, .int 1, .ref x6, .ref x7, .int 0]))] sz)) (vx_X (fun u : String × va_W => (u = ("java/lang/IndexOutOfBoundsException", []))) (wq_BX D (va_A [(x0, .inr (15, [.ref x1, .ref x8, .ref x20, .ref x39, .ref x41, .ref x43, .ref x45])), (x1, .inr (11, [.ref x2, .int 0, .ref x3, .int 0, .ref x4, .ref x5, .int 1, .ref x6, .ref x7, .int 0]))] sz)) (va_A [(x0, .inr (15, [.ref x1, .ref x8, .ref x20, .ref x39, .ref x41, .ref x43, .ref x45])), (x1, .inr (11, [.ref x2, .int 0, .ref x3, .int 0, .ref x4, .ref x5, .int 1, .ref x6, .ref x7, .int 0]))] sz)) 1 6 (va_A [(x0, .inr (15, [.ref x1, .ref x8, .ref x20, .ref x39, .ref x41, .ref x43, .ref x45])), (x1, .inr (11, [.ref x2, .int 0, .ref x3, .int 0, .ref x4, .ref x5, .int 1, .ref x6, .ref x7, .int 0]))] sz) := by
  refine vx_ofW (cc := cX10_addCount) (maxL := 6) (ret := (some .int)) (by decide) rfl ?_
  intro p e s m args below meth c s₁ B hml hEx hv
  obtain ⟨rfl, hsz, hP, hK, hD0, hE⟩ := hv
  have hx := B.exec
  have hb := B.bytes
  have hr := B.returns
  have hts := atoms_spec (ws := vs_k_X10_addCount) B.pre
  have hown : s.vm.findClass RX10 = some m.cls := findClass_of_methodNamed B.named
  have hlocks := B.notSynchronized
  subst hsz
  have hD := hD0.self (sz := s.heap.size)
  generalize hAe : va_A [(x0, .inr (15, [.ref x1, .ref x8, .ref x20, .ref x39, .ref x41, .ref x43, .ref x45])), (x1, .inr (11, [.ref x2, .int 0, .ref x3, .int 0, .ref x4, .ref x5, .int 1, .ref x6, .ref x7, .int 0]))] s.heap.size = A at hD hE ⊢
  have hA : ∀ q : Nat, s.heap.size ≤ q → A q := fun q h => by rw [← hAe]; exact Or.inr h
  have hS : va_S A s.heap s.heap [] := va_S.rf
  have hP : va_P D vwCl [(x0, .inr (15, [.ref x1, .ref x8, .ref x20, .ref x39, .ref x41, .ref x43, .ref x45])), (x1, .inr (11, [.ref x2, .int 0, .ref x3, .int 0, .ref x4, .ref x5, .int 1, .ref x6, .ref x7, .int 0]))] s.heap := hP
  have hl := lv_entry ([.ref x0, .int k1, .int k2, .int k3, .int k4]) (n := 6) (Nat.le_of_ble_eq_true rfl)
  rw [lg_entry_eq]
  generalize (lg_sl ([.ref x0, .int k1, .int k2, .int k3, .int k4]) ++ List.replicate (6 - (lg_sl ([.ref x0, .int k1, .int k2, .int k3, .int k4])).length) Slot.unset).toArray = ls at hl ⊢
  have hl : lv_has ls 6 [(0, .ref x0), (1, .int k1), (2, .int k2), (3, .int k3), (4, .int k4)] := hl
  refine lv_aload_n hx hb dX10_addCount_0 rfl (lv_at hl 0 rfl) ?_
  refine va_get (D := D) (ci := 15) (v := .ref x1) (C := RX10) (T := TX10) (N := 7) hx hb hts iv_k_X10_addCount_X10 hown hK hP 0 rfl rfl 0 (by decide) (hts (.fieldLink RX10 12 "AnswerFold" "program" "LAnswerFold$Program;") (by decide +kernel)) (fun _ h9 => h9) rfl dX10_addCount_1 ?_
  refine lv_iload_n hx hb dX10_addCount_4 rfl (lv_at hl 1 rfl) ?_
  refine wq_r (wc := [(x1, .inr (11, [.ref x2, .int 0, .ref x3, .int 0, .ref x4, .ref x5, .int 1, .ref x6, .ref x7, .int 0]))]) (wr := [(x0, .inr (15, [.ref x1, .ref x8, .ref x20, .ref x39, .ref x41, .ref x43, .ref x45]))]) (va_runV (As := [.int k1]) (rest := []) ⟨hx, hb, hml, hown, hts⟩ (k_X6_ruleAt l D ty td mi s.heap.size x1 x2 x3 x4 x5 x6 x7 k1) (cwV 1 hts gv_k_X10_addCount_0 rfl rfl rfl (by decide +kernel) ⟨(Nat.le_of_ble_eq_true rfl), (Nat.le_of_ble_eq_true rfl)⟩) (wq_preV hP hD hK hE hS hA [1] rfl (by decide) 1 11 rfl rfl) rfl rfl hl.1 rfl (lv_room (Nat.le_of_ble_eq_true rfl)) dX10_addCount_5 ⟨(Nat.le_of_ble_eq_true rfl), (Nat.le_of_ble_eq_true rfl)⟩) hS hA hP hD [1] [0] rfl rfl (by decide) (by decide) (fun r u H locs hw hP hD hS => ?_)
  obtain ⟨rfl, rfl⟩ := hw
  have hP : va_P D vwCl [(x0, .inr (15, [.ref x1, .ref x8, .ref x20, .ref x39, .ref x41, .ref x43, .ref x45])), (x1, .inr (11, [.ref x2, .int 0, .ref x3, .int 0, .ref x4, .ref x5, .int 1, .ref x6, .ref x7, .int 0]))] H := hP
  have hD : va_D A [(x0, .inr (15, [.ref x1, .ref x8, .ref x20, .ref x39, .ref x41, .ref x43, .ref x45])), (x1, .inr (11, [.ref x2, .int 0, .ref x3, .int 0, .ref x4, .ref x5, .int 1, .ref x6, .ref x7, .int 0]))] := hD
  refine W.widen (k := 0) (n := 0) (Nat.le_of_ble_eq_true rfl) (Nat.le_of_ble_eq_true rfl) ?_
  refine lv_astoreN (lv' := [(5, .null), (0, .ref x0), (1, .int k1), (2, .int k2), (3, .int k3), (4, .int k4)]) hx hb dX10_addCount_8 hl (by decide) rfl (fun ls hl => ?_)
  refine lv_aloadN hx hb dX10_addCount_10 (lv_at hl 0 rfl) ?_
  refine lv_ifnullN (tgt := 26) hx hb dX10_addCount_12 (by decide) ?_
  obtain ⟨sa, hsa⟩ := hE.st 136 "no such rule or predicate" (by decide +kernel)
  exact vx_throwS (own := RX10) (cls := "java/lang/IndexOutOfBoundsException") (text := "no such rule or predicate") (names := ["java/lang/RuntimeException", "java/lang/Exception"]) (ik := 134) (is := 136) (ic := 138) (sa := sa) (A := A) hx hb hl9 hown (by decide +kernel) (by decide +kernel) (hts (.classLink RX10 134 "java/lang/IndexOutOfBoundsException") (by decide +kernel)) (hts (.initialized "java/lang/IndexOutOfBoundsException") (by decide +kernel)) hsa (wq_hat hE hts ix_k_X10_addCount_138 (by decide +kernel) (by decide +kernel)) (by decide +kernel) hE.zu hE.zs hS (hl.1.trans hml.symm) dX10_addCount_26 dX10_addCount_29 dX10_addCount_30 dX10_addCount_32 dX10_addCount_35 (fun x hx => (hEx x hx).elim) (Nat.le_of_ble_eq_true rfl) (Nat.le_of_ble_eq_true rfl) (Nat.le_of_ble_eq_true rfl) (Nat.le_of_ble_eq_true rfl) hlocks (fun t ha hz hk => wq_thr hS (by exact rfl) hz hk) hS.2.2 (Nat.le_of_ble_eq_true rfl) (Nat.le_of_ble_eq_true rfl)
def vs_k_X10_addExternal : List Cond := .code yX10_addExternal cX10_addExternal 5 (some .int) :: ([.methodLink RX10 206 yX10_checkedAtom, .instanceMethod yX10_checkedAtom, .selects RX10 yX10_checkedAtom yX10_checkedAtom, .initialized RX10] ++ (vs_k_X10_checkedAtom))
set_option maxRecDepth 20000 in
theorem gv_k_X10_addExternal_0 : GoodIn vs_k_X10_addExternal (wsV RX10 206 RX10 yX10_checkedAtom vs_k_X10_checkedAtom) := goodIn_app (goodIn_sub (by decide +kernel) (by decide +kernel)) (goodIn_sub (fun _ h => List.mem_cons_of_mem _ (List.mem_append_right _ (h))) (by decide +kernel))
set_option maxHeartbeats 4000000 in
set_option maxRecDepth 100000 in
theorem k_X10_addExternal (l : Launch) (hl9 : l.stackTraces = false) (D : va_G) (ty : Nat → ClassId) (td mi sz : Nat) (x0 : Nat) (x1 : Nat) (x8 : Nat) (x20 : Nat) (x39 : Nat) (x41 : Nat) (x43 : Nat) (x45 : Nat) (x2 : Nat) (x3 : Nat) (x4 : Nat) (x5 : Nat) (x6 : Nat) (x7 : Nat) (k1 : Int32) (k2 : Int32) (k3 : Int32) : vx_Met l yX10_addExternal vs_k_X10_addExternal { frames := 7, cells := 1, slots := 6, locals := 106 } (va_Pc [.ref x0, .int k1, .int k2, .int k3] (wq_P D ty td mi [(x0, .inr (15, [.ref x1, .ref x8, .ref x20, .ref x39, .ref x41, .ref x43, .ref x45])), (x1, .inr (11, [.ref x2, .int 0, .ref x3, .int 0, .ref x4, .ref x5, .int 1, .ref x6, .ref x7, .int 0]))] sz)) (va_Qi (fun (r : Int32) (u : va_W) => False) (wq_B D (va_A [(x0, .inr (15, [.ref x1, .ref x8, .ref x20, .ref x39, .ref x41, .ref x43, .ref x45])), (x1, .inr (11, [.ref x2, .int 0, .ref x3, .int 0, .ref x4, .ref x5, .int 1, .ref x6, .ref x7, .int 0]))] sz)) (va_A [(x0, .inr (15, [.ref x1, .ref x8, .ref x20, .ref x39, .ref x41, .ref x43, .ref x45])), (x1, .inr (11, [.ref x2, .int 0, .ref x3, .int 0, .ref x4, .ref x5, .int 1, .ref x6, .ref x7, .int 0]))] sz)) (vx_X (fun u : String × va_W => (u = ("java/lang/IndexOutOfBoundsException", []))) (wq_BX D (va_A [(x0, .inr (15, [.ref x1, .ref x8, .ref x20, .ref x39, .ref x41, .ref x43, .ref x45])), (x1, .inr (11, [.ref x2, .int 0, .ref x3, .int 0, .ref x4, .ref x5, .int 1, .ref x6, .ref x7, .int 0]))] sz)) (va_A [(x0, .inr (15, [.ref x1, .ref x8, .ref x20, .ref x39, .ref x41, .ref x43, .ref x45])), (x1, .inr (11, [.ref x2, .int 0, .ref x3, .int 0, .ref x4, .ref x5, .int 1, .ref x6, .ref x7, .int 0]))] sz)) 1 6 (va_A [(x0, .inr (15, [.ref x1, .ref x8, .ref x20, .ref x39, .ref x41, .ref x43, .ref x45])), (x1, .inr (11, [.ref x2, .int 0, .ref x3, .int 0, .ref x4, .ref x5, .int 1, .ref x6, .ref x7, .int 0]))] sz) := by
  refine vx_ofW (cc := cX10_addExternal) (maxL := 5) (ret := (some .int)) (by decide) rfl ?_
  intro p e s m args below meth c s₁ B hml hEx hv
  obtain ⟨rfl, hsz, hP, hK, hD0, hE⟩ := hv
  have hx := B.exec
  have hb := B.bytes
  have hr := B.returns
  have hts := atoms_spec (ws := vs_k_X10_addExternal) B.pre
  have hown : s.vm.findClass RX10 = some m.cls := findClass_of_methodNamed B.named
  have hlocks := B.notSynchronized
  subst hsz
  have hD := hD0.self (sz := s.heap.size)
  generalize hAe : va_A [(x0, .inr (15, [.ref x1, .ref x8, .ref x20, .ref x39, .ref x41, .ref x43, .ref x45])), (x1, .inr (11, [.ref x2, .int 0, .ref x3, .int 0, .ref x4, .ref x5, .int 1, .ref x6, .ref x7, .int 0]))] s.heap.size = A at hD hE ⊢
  have hA : ∀ q : Nat, s.heap.size ≤ q → A q := fun q h => by rw [← hAe]; exact Or.inr h
  have hS : va_S A s.heap s.heap [] := va_S.rf
  have hP : va_P D vwCl [(x0, .inr (15, [.ref x1, .ref x8, .ref x20, .ref x39, .ref x41, .ref x43, .ref x45])), (x1, .inr (11, [.ref x2, .int 0, .ref x3, .int 0, .ref x4, .ref x5, .int 1, .ref x6, .ref x7, .int 0]))] s.heap := hP
  have hl := lv_entry ([.ref x0, .int k1, .int k2, .int k3]) (n := 5) (Nat.le_of_ble_eq_true rfl)
  rw [lg_entry_eq]
  generalize (lg_sl ([.ref x0, .int k1, .int k2, .int k3]) ++ List.replicate (5 - (lg_sl ([.ref x0, .int k1, .int k2, .int k3])).length) Slot.unset).toArray = ls at hl ⊢
  have hl : lv_has ls 5 [(0, .ref x0), (1, .int k1), (2, .int k2), (3, .int k3)] := hl
  refine lv_aload_n hx hb dX10_addExternal_0 rfl (lv_at hl 0 rfl) ?_
  refine lv_iload_n hx hb dX10_addExternal_1 rfl (lv_at hl 1 rfl) ?_
  refine lv_iload_n hx hb dX10_addExternal_2 rfl (lv_at hl 2 rfl) ?_
  refine lv_iload_n hx hb dX10_addExternal_3 rfl (lv_at hl 3 rfl) ?_
  refine wq_xi (wc := [(x0, .inr (15, [.ref x1, .ref x8, .ref x20, .ref x39, .ref x41, .ref x43, .ref x45])), (x1, .inr (11, [.ref x2, .int 0, .ref x3, .int 0, .ref x4, .ref x5, .int 1, .ref x6, .ref x7, .int 0]))]) (wr := []) (vx_runV (As := [.int k1, .int k2, .int k3]) (rest := []) ⟨hx, hb, hml, hown, hts⟩ (k_X10_checkedAtom l hl9 D ty td mi s.heap.size x0 x1 x8 x20 x39 x41 x43 x45 x2 x3 x4 x5 x6 x7 k1 k2 k3) (cwV 3 hts gv_k_X10_addExternal_0 rfl rfl rfl (by decide +kernel) ⟨(Nat.le_of_ble_eq_true rfl), (Nat.le_of_ble_eq_true rfl)⟩) (wq_preV hP hD hK hE hS hA [0, 1] rfl (by decide) 0 15 rfl rfl) rfl rfl hl.1 rfl (lv_room (Nat.le_of_ble_eq_true rfl)) dX10_addExternal_4 ⟨(Nat.le_of_ble_eq_true rfl), (Nat.le_of_ble_eq_true rfl)⟩) hS hA hP hD [0, 1] [] rfl rfl (by decide) (by decide) (fun E9 u H locs q9 ce hw hP hD hS hce hcv hcl => ?_) (fun r u H locs hw hP hD hS => ?_)
  · have hEq := hw
    cases hEq
    have hP : va_P D vwCl [] H := hP
    have hD : va_D A [] := hD
    refine vx_widen (k := 1) (n := 6) (Nat.le_of_ble_eq_true rfl) (Nat.le_of_ble_eq_true rfl) ?_
    exact vx_out (E := "java/lang/IndexOutOfBoundsException") (fun x hx => (hEx x hx).elim) hlocks hce hcv hcl (fun t ht ha => wq_thr0 hS (by exact rfl) ht) hS.2.2 (Nat.le_refl _) (Nat.le_refl _)
  · exact hw.elim
def vs_k_X10_setExternal : List Cond := .code yX10_setExternal cX10_setExternal 4 (some .char) :: ([.classLink RX10 134 "java/lang/IndexOutOfBoundsException", .initialized "java/lang/IndexOutOfBoundsException", .fieldLink RX10 12 "AnswerFold" "program" "LAnswerFold$Program;"] ++ ((vx_atS RX10 138 "java/lang/IndexOutOfBoundsException" ["java/lang/RuntimeException", "java/lang/Exception"]).filter goodWord ++ (u_ws RX10 TX10 7 ++ (u_ws RX6 TX6 10))))
theorem iv_k_X10_setExternal_X10 : ∀ w ∈ u_ws RX10 TX10 7, w ∈ vs_k_X10_setExternal := (fun _ h => List.mem_cons_of_mem _ (List.mem_append_right _ (List.mem_append_right _ (List.mem_append_left _ h))))
theorem iv_k_X10_setExternal_X6 : ∀ w ∈ u_ws RX6 TX6 10, w ∈ vs_k_X10_setExternal := (fun _ h => List.mem_cons_of_mem _ (List.mem_append_right _ (List.mem_append_right _ (List.mem_append_right _ (h)))))
theorem ix_k_X10_setExternal_138 : ∀ w ∈ (vx_atS RX10 138 "java/lang/IndexOutOfBoundsException" ["java/lang/RuntimeException", "java/lang/Exception"]).filter goodWord, w ∈ vs_k_X10_setExternal := (fun _ h => List.mem_cons_of_mem _ (List.mem_append_right _ (List.mem_append_left _ h)))
set_option maxHeartbeats 4000000 in
set_option maxRecDepth 100000 in
theorem k_X10_setExternal (l : Launch) (hl9 : l.stackTraces = false) (D : va_G) (ty : Nat → ClassId) (td mi sz : Nat) (x0 : Nat) (x1 : Nat) (x8 : Nat) (x20 : Nat) (x39 : Nat) (x41 : Nat) (x43 : Nat) (x45 : Nat) (x2 : Nat) (x3 : Nat) (x4 : Nat) (x5 : Nat) (x6 : Nat) (x7 : Nat) (k1 : Int32) (k2 : Int32) : vx_Met l yX10_setExternal vs_k_X10_setExternal { frames := 6, cells := 1, slots := 6, locals := 82 } (va_Pc [.ref x0, .int k1, .int k2] (wq_P D ty td mi [(x0, .inr (15, [.ref x1, .ref x8, .ref x20, .ref x39, .ref x41, .ref x43, .ref x45])), (x1, .inr (11, [.ref x2, .int 0, .ref x3, .int 0, .ref x4, .ref x5, .int 1, .ref x6, .ref x7, .int 0]))] sz)) (va_Qi (fun (r : Int32) (u : va_W) => False) (wq_B D (va_A [(x0, .inr (15, [.ref x1, .ref x8, .ref x20, .ref x39, .ref x41, .ref x43, .ref x45])), (x1, .inr (11, [.ref x2, .int 0, .ref x3, .int 0, .ref x4, .ref x5, .int 1, .ref x6, .ref x7, .int 0]))] sz)) (va_A [(x0, .inr (15, [.ref x1, .ref x8, .ref x20, .ref x39, .ref x41, .ref x43, .ref x45])), (x1, .inr (11, [.ref x2, .int 0, .ref x3, .int 0, .ref x4, .ref x5, .int 1, .ref x6, .ref x7, .int 0]))] sz)) (vx_X (fun u : String × va_W => (u = ("java/lang/IndexOutOfBoundsException", []))) (wq_BX D (va_A [(x0, .inr (15, [.ref x1, .ref x8, .ref x20, .ref x39, .ref x41, .ref x43, .ref x45])), (x1, .inr (11, [.ref x2, .int 0, .ref x3, .int 0, .ref x4, .ref x5, .int 1, .ref x6, .ref x7, .int 0]))] sz)) (va_A [(x0, .inr (15, [.ref x1, .ref x8, .ref x20, .ref x39, .ref x41, .ref x43, .ref x45])), (x1, .inr (11, [.ref x2, .int 0, .ref x3, .int 0, .ref x4, .ref x5, .int 1, .ref x6, .ref x7, .int 0]))] sz)) 1 6 (va_A [(x0, .inr (15, [.ref x1, .ref x8, .ref x20, .ref x39, .ref x41, .ref x43, .ref x45])), (x1, .inr (11, [.ref x2, .int 0, .ref x3, .int 0, .ref x4, .ref x5, .int 1, .ref x6, .ref x7, .int 0]))] sz) := by
  refine vx_ofW (cc := cX10_setExternal) (maxL := 4) (ret := (some .char)) (by decide) rfl ?_
  intro p e s m args below meth c s₁ B hml hEx hv
  obtain ⟨rfl, hsz, hP, hK, hD0, hE⟩ := hv
  have hx := B.exec
  have hb := B.bytes
  have hr := B.returns
  have hts := atoms_spec (ws := vs_k_X10_setExternal) B.pre
  have hown : s.vm.findClass RX10 = some m.cls := findClass_of_methodNamed B.named
  have hlocks := B.notSynchronized
  subst hsz
  have hD := hD0.self (sz := s.heap.size)
  generalize hAe : va_A [(x0, .inr (15, [.ref x1, .ref x8, .ref x20, .ref x39, .ref x41, .ref x43, .ref x45])), (x1, .inr (11, [.ref x2, .int 0, .ref x3, .int 0, .ref x4, .ref x5, .int 1, .ref x6, .ref x7, .int 0]))] s.heap.size = A at hD hE ⊢
  have hA : ∀ q : Nat, s.heap.size ≤ q → A q := fun q h => by rw [← hAe]; exact Or.inr h
  have hS : va_S A s.heap s.heap [] := va_S.rf
  have hP : va_P D vwCl [(x0, .inr (15, [.ref x1, .ref x8, .ref x20, .ref x39, .ref x41, .ref x43, .ref x45])), (x1, .inr (11, [.ref x2, .int 0, .ref x3, .int 0, .ref x4, .ref x5, .int 1, .ref x6, .ref x7, .int 0]))] s.heap := hP
  have hl := lv_entry ([.ref x0, .int k1, .int k2]) (n := 4) (Nat.le_of_ble_eq_true rfl)
  rw [lg_entry_eq]
  generalize (lg_sl ([.ref x0, .int k1, .int k2]) ++ List.replicate (4 - (lg_sl ([.ref x0, .int k1, .int k2])).length) Slot.unset).toArray = ls at hl ⊢
  have hl : lv_has ls 4 [(0, .ref x0), (1, .int k1), (2, .int k2)] := hl
  refine lv_iload_n hx hb dX10_setExternal_0 rfl (lv_at hl 1 rfl) ?_
  refine lv_if_lt (tgt := 15) hx hb dX10_setExternal_1 (by decide) (fun c_1 => ?_) (fun c_1 => ?_)
  · obtain ⟨sa, hsa⟩ := hE.st 221 "no such external" (by decide +kernel)
    exact vx_throwS (own := RX10) (cls := "java/lang/IndexOutOfBoundsException") (text := "no such external") (names := ["java/lang/RuntimeException", "java/lang/Exception"]) (ik := 134) (is := 221) (ic := 138) (sa := sa) (A := A) hx hb hl9 hown (by decide +kernel) (by decide +kernel) (hts (.classLink RX10 134 "java/lang/IndexOutOfBoundsException") (by decide +kernel)) (hts (.initialized "java/lang/IndexOutOfBoundsException") (by decide +kernel)) hsa (wq_hat hE hts ix_k_X10_setExternal_138 (by decide +kernel) (by decide +kernel)) (by decide +kernel) hE.zu hE.zs hS (hl.1.trans hml.symm) dX10_setExternal_15 dX10_setExternal_18 dX10_setExternal_19 dX10_setExternal_21 dX10_setExternal_24 (fun x hx => (hEx x hx).elim) (Nat.le_of_ble_eq_true rfl) (Nat.le_of_ble_eq_true rfl) (Nat.le_of_ble_eq_true rfl) (Nat.le_of_ble_eq_true rfl) hlocks (fun t ha hz hk => wq_thr hS (by exact rfl) hz hk) hS.2.2 (Nat.le_of_ble_eq_true rfl) (Nat.le_of_ble_eq_true rfl)
  · refine lv_iload_n hx hb dX10_setExternal_4 rfl (lv_at hl 1 rfl) ?_
    refine lv_aload_n hx hb dX10_setExternal_5 rfl (lv_at hl 0 rfl) ?_
    refine va_get (D := D) (ci := 15) (v := .ref x1) (C := RX10) (T := TX10) (N := 7) hx hb hts iv_k_X10_setExternal_X10 hown hK hP 0 rfl rfl 0 (by decide) (hts (.fieldLink RX10 12 "AnswerFold" "program" "LAnswerFold$Program;") (by decide +kernel)) (fun _ h9 => h9) rfl dX10_setExternal_6 ?_
    refine va_getN (D := D) (ci := 11) (v := .int 0) (C := RX6) (T := TX6) (N := 10) hx hb hts iv_k_X10_setExternal_X6 hown hK hP 1 rfl rfl 9 (by decide) (hE.at (.fieldLinkNest "AnswerFold" 210 "AnswerFold$Program" "externalCount" "I" "AnswerFold") (by decide +kernel)) (fun _ h9 => h9) rfl dX10_setExternal_9 ?_
    refine lv_icmp_lt (tgt := 25) hx hb dX10_setExternal_12 (by decide) (fun c0 => absurd c0 c_1) (fun _ => ?_)
    obtain ⟨sa, hsa⟩ := hE.st 221 "no such external" (by decide +kernel)
    exact vx_throwS (own := RX10) (cls := "java/lang/IndexOutOfBoundsException") (text := "no such external") (names := ["java/lang/RuntimeException", "java/lang/Exception"]) (ik := 134) (is := 221) (ic := 138) (sa := sa) (A := A) hx hb hl9 hown (by decide +kernel) (by decide +kernel) (hts (.classLink RX10 134 "java/lang/IndexOutOfBoundsException") (by decide +kernel)) (hts (.initialized "java/lang/IndexOutOfBoundsException") (by decide +kernel)) hsa (wq_hat hE hts ix_k_X10_setExternal_138 (by decide +kernel) (by decide +kernel)) (by decide +kernel) hE.zu hE.zs hS (hl.1.trans hml.symm) dX10_setExternal_15 dX10_setExternal_18 dX10_setExternal_19 dX10_setExternal_21 dX10_setExternal_24 (fun x hx => (hEx x hx).elim) (Nat.le_of_ble_eq_true rfl) (Nat.le_of_ble_eq_true rfl) (Nat.le_of_ble_eq_true rfl) (Nat.le_of_ble_eq_true rfl) hlocks (fun t ha hz hk => wq_thr hS (by exact rfl) hz hk) hS.2.2 (Nat.le_of_ble_eq_true rfl) (Nat.le_of_ble_eq_true rfl)
def vs_k_X10_assume : List Cond := .code yX10_assume cX10_assume 6 (some .int) :: ([.methodLink RX10 206 yX10_checkedAtom, .instanceMethod yX10_checkedAtom, .selects RX10 yX10_checkedAtom yX10_checkedAtom, .initialized RX10] ++ (vs_k_X10_checkedAtom))
set_option maxRecDepth 20000 in
theorem gv_k_X10_assume_0 : GoodIn vs_k_X10_assume (wsV RX10 206 RX10 yX10_checkedAtom vs_k_X10_checkedAtom) := goodIn_app (goodIn_sub (by decide +kernel) (by decide +kernel)) (goodIn_sub (fun _ h => List.mem_cons_of_mem _ (List.mem_append_right _ (h))) (by decide +kernel))
set_option maxHeartbeats 4000000 in
set_option maxRecDepth 100000 in
theorem k_X10_assume (l : Launch) (hl9 : l.stackTraces = false) (D : va_G) (ty : Nat → ClassId) (td mi sz : Nat) (x0 : Nat) (x1 : Nat) (x8 : Nat) (x20 : Nat) (x39 : Nat) (x41 : Nat) (x43 : Nat) (x45 : Nat) (x2 : Nat) (x3 : Nat) (x4 : Nat) (x5 : Nat) (x6 : Nat) (x7 : Nat) (k1 : Int32) (k2 : Int32) (k3 : Int32) (k4 : Int32) : vx_Met l yX10_assume vs_k_X10_assume { frames := 7, cells := 1, slots := 6, locals := 106 } (va_Pc [.ref x0, .int k1, .int k2, .int k3, .int k4] (wq_P D ty td mi [(x0, .inr (15, [.ref x1, .ref x8, .ref x20, .ref x39, .ref x41, .ref x43, .ref x45])), (x1, .inr (11, [.ref x2, .int 0, .ref x3, .int 0, .ref x4, .ref x5, .int 1, .ref x6, .ref x7, .int 0]))] sz)) (va_Qi (fun (r : Int32) (u : va_W) => False) (wq_B D (va_A [(x0, .inr (15, [.ref x1, .ref x8, .ref x20, .ref x39, .ref x41, .ref x43, .ref x45])), (x1, .inr (11, [.ref x2, .int 0, .ref x3, .int 0, .ref x4, .ref x5, .int 1, .ref x6, .ref x7, .int 0]))] sz)) (va_A [(x0, .inr (15, [.ref x1, .ref x8, .ref x20, .ref x39, .ref x41, .ref x43, .ref x45])), (x1, .inr (11, [.ref x2, .int 0, .ref x3, .int 0, .ref x4, .ref x5, .int 1, .ref x6, .ref x7, .int 0]))] sz)) (vx_X (fun u : String × va_W => (u = ("java/lang/IndexOutOfBoundsException", []))) (wq_BX D (va_A [(x0, .inr (15, [.ref x1, .ref x8, .ref x20, .ref x39, .ref x41, .ref x43, .ref x45])), (x1, .inr (11, [.ref x2, .int 0, .ref x3, .int 0, .ref x4, .ref x5, .int 1, .ref x6, .ref x7, .int 0]))] sz)) (va_A [(x0, .inr (15, [.ref x1, .ref x8, .ref x20, .ref x39, .ref x41, .ref x43, .ref x45])), (x1, .inr (11, [.ref x2, .int 0, .ref x3, .int 0, .ref x4, .ref x5, .int 1, .ref x6, .ref x7, .int 0]))] sz)) 1 6 (va_A [(x0, .inr (15, [.ref x1, .ref x8, .ref x20, .ref x39, .ref x41, .ref x43, .ref x45])), (x1, .inr (11, [.ref x2, .int 0, .ref x3, .int 0, .ref x4, .ref x5, .int 1, .ref x6, .ref x7, .int 0]))] sz) := by
  refine vx_ofW (cc := cX10_assume) (maxL := 6) (ret := (some .int)) (by decide) rfl ?_
  intro p e s m args below meth c s₁ B hml hEx hv
  obtain ⟨rfl, hsz, hP, hK, hD0, hE⟩ := hv
  have hx := B.exec
  have hb := B.bytes
  have hr := B.returns
  have hts := atoms_spec (ws := vs_k_X10_assume) B.pre
  have hown : s.vm.findClass RX10 = some m.cls := findClass_of_methodNamed B.named
  have hlocks := B.notSynchronized
  subst hsz
  have hD := hD0.self (sz := s.heap.size)
  generalize hAe : va_A [(x0, .inr (15, [.ref x1, .ref x8, .ref x20, .ref x39, .ref x41, .ref x43, .ref x45])), (x1, .inr (11, [.ref x2, .int 0, .ref x3, .int 0, .ref x4, .ref x5, .int 1, .ref x6, .ref x7, .int 0]))] s.heap.size = A at hD hE ⊢
  have hA : ∀ q : Nat, s.heap.size ≤ q → A q := fun q h => by rw [← hAe]; exact Or.inr h
  have hS : va_S A s.heap s.heap [] := va_S.rf
  have hP : va_P D vwCl [(x0, .inr (15, [.ref x1, .ref x8, .ref x20, .ref x39, .ref x41, .ref x43, .ref x45])), (x1, .inr (11, [.ref x2, .int 0, .ref x3, .int 0, .ref x4, .ref x5, .int 1, .ref x6, .ref x7, .int 0]))] s.heap := hP
  have hl := lv_entry ([.ref x0, .int k1, .int k2, .int k3, .int k4]) (n := 6) (Nat.le_of_ble_eq_true rfl)
  rw [lg_entry_eq]
  generalize (lg_sl ([.ref x0, .int k1, .int k2, .int k3, .int k4]) ++ List.replicate (6 - (lg_sl ([.ref x0, .int k1, .int k2, .int k3, .int k4])).length) Slot.unset).toArray = ls at hl ⊢
  have hl : lv_has ls 6 [(0, .ref x0), (1, .int k1), (2, .int k2), (3, .int k3), (4, .int k4)] := hl
  refine lv_aload_n hx hb dX10_assume_0 rfl (lv_at hl 0 rfl) ?_
  refine lv_iload_n hx hb dX10_assume_1 rfl (lv_at hl 1 rfl) ?_
  refine lv_iload_n hx hb dX10_assume_2 rfl (lv_at hl 2 rfl) ?_
  refine lv_iload_n hx hb dX10_assume_3 rfl (lv_at hl 3 rfl) ?_
  refine wq_xi (wc := [(x0, .inr (15, [.ref x1, .ref x8, .ref x20, .ref x39, .ref x41, .ref x43, .ref x45])), (x1, .inr (11, [.ref x2, .int 0, .ref x3, .int 0, .ref x4, .ref x5, .int 1, .ref x6, .ref x7, .int 0]))]) (wr := []) (vx_runV (As := [.int k1, .int k2, .int k3]) (rest := []) ⟨hx, hb, hml, hown, hts⟩ (k_X10_checkedAtom l hl9 D ty td mi s.heap.size x0 x1 x8 x20 x39 x41 x43 x45 x2 x3 x4 x5 x6 x7 k1 k2 k3) (cwV 3 hts gv_k_X10_assume_0 rfl rfl rfl (by decide +kernel) ⟨(Nat.le_of_ble_eq_true rfl), (Nat.le_of_ble_eq_true rfl)⟩) (wq_preV hP hD hK hE hS hA [0, 1] rfl (by decide) 0 15 rfl rfl) rfl rfl hl.1 rfl (lv_room (Nat.le_of_ble_eq_true rfl)) dX10_assume_4 ⟨(Nat.le_of_ble_eq_true rfl), (Nat.le_of_ble_eq_true rfl)⟩) hS hA hP hD [0, 1] [] rfl rfl (by decide) (by decide) (fun E9 u H locs q9 ce hw hP hD hS hce hcv hcl => ?_) (fun r u H locs hw hP hD hS => ?_)
  · have hEq := hw
    cases hEq
    have hP : va_P D vwCl [] H := hP
    have hD : va_D A [] := hD
    refine vx_widen (k := 1) (n := 6) (Nat.le_of_ble_eq_true rfl) (Nat.le_of_ble_eq_true rfl) ?_
    exact vx_out (E := "java/lang/IndexOutOfBoundsException") (fun x hx => (hEx x hx).elim) hlocks hce hcv hcl (fun t ht ha => wq_thr0 hS (by exact rfl) ht) hS.2.2 (Nat.le_refl _) (Nat.le_refl _)
  · exact hw.elim
def vs_k_X10_state : List Cond := .code yX10_state cX10_state 5 (some .char) :: ([.methodLink RX10 206 yX10_checkedAtom, .instanceMethod yX10_checkedAtom, .selects RX10 yX10_checkedAtom yX10_checkedAtom, .initialized RX10] ++ (vs_k_X10_checkedAtom))
set_option maxRecDepth 20000 in
theorem gv_k_X10_state_0 : GoodIn vs_k_X10_state (wsV RX10 206 RX10 yX10_checkedAtom vs_k_X10_checkedAtom) := goodIn_app (goodIn_sub (by decide +kernel) (by decide +kernel)) (goodIn_sub (fun _ h => List.mem_cons_of_mem _ (List.mem_append_right _ (h))) (by decide +kernel))
set_option maxHeartbeats 4000000 in
set_option maxRecDepth 100000 in
theorem k_X10_state (l : Launch) (hl9 : l.stackTraces = false) (D : va_G) (ty : Nat → ClassId) (td mi sz : Nat) (x0 : Nat) (x1 : Nat) (x8 : Nat) (x20 : Nat) (x39 : Nat) (x41 : Nat) (x43 : Nat) (x45 : Nat) (x2 : Nat) (x3 : Nat) (x4 : Nat) (x5 : Nat) (x6 : Nat) (x7 : Nat) (k1 : Int32) (k2 : Int32) (k3 : Int32) : vx_Met l yX10_state vs_k_X10_state { frames := 7, cells := 1, slots := 6, locals := 106 } (va_Pc [.ref x0, .int k1, .int k2, .int k3] (wq_P D ty td mi [(x0, .inr (15, [.ref x1, .ref x8, .ref x20, .ref x39, .ref x41, .ref x43, .ref x45])), (x1, .inr (11, [.ref x2, .int 0, .ref x3, .int 0, .ref x4, .ref x5, .int 1, .ref x6, .ref x7, .int 0]))] sz)) (va_Qi (fun (r : Int32) (u : va_W) => False) (wq_B D (va_A [(x0, .inr (15, [.ref x1, .ref x8, .ref x20, .ref x39, .ref x41, .ref x43, .ref x45])), (x1, .inr (11, [.ref x2, .int 0, .ref x3, .int 0, .ref x4, .ref x5, .int 1, .ref x6, .ref x7, .int 0]))] sz)) (va_A [(x0, .inr (15, [.ref x1, .ref x8, .ref x20, .ref x39, .ref x41, .ref x43, .ref x45])), (x1, .inr (11, [.ref x2, .int 0, .ref x3, .int 0, .ref x4, .ref x5, .int 1, .ref x6, .ref x7, .int 0]))] sz)) (vx_X (fun u : String × va_W => (u = ("java/lang/IndexOutOfBoundsException", []))) (wq_BX D (va_A [(x0, .inr (15, [.ref x1, .ref x8, .ref x20, .ref x39, .ref x41, .ref x43, .ref x45])), (x1, .inr (11, [.ref x2, .int 0, .ref x3, .int 0, .ref x4, .ref x5, .int 1, .ref x6, .ref x7, .int 0]))] sz)) (va_A [(x0, .inr (15, [.ref x1, .ref x8, .ref x20, .ref x39, .ref x41, .ref x43, .ref x45])), (x1, .inr (11, [.ref x2, .int 0, .ref x3, .int 0, .ref x4, .ref x5, .int 1, .ref x6, .ref x7, .int 0]))] sz)) 1 6 (va_A [(x0, .inr (15, [.ref x1, .ref x8, .ref x20, .ref x39, .ref x41, .ref x43, .ref x45])), (x1, .inr (11, [.ref x2, .int 0, .ref x3, .int 0, .ref x4, .ref x5, .int 1, .ref x6, .ref x7, .int 0]))] sz) := by
  refine vx_ofW (cc := cX10_state) (maxL := 5) (ret := (some .char)) (by decide) rfl ?_
  intro p e s m args below meth c s₁ B hml hEx hv
  obtain ⟨rfl, hsz, hP, hK, hD0, hE⟩ := hv
  have hx := B.exec
  have hb := B.bytes
  have hr := B.returns
  have hts := atoms_spec (ws := vs_k_X10_state) B.pre
  have hown : s.vm.findClass RX10 = some m.cls := findClass_of_methodNamed B.named
  have hlocks := B.notSynchronized
  subst hsz
  have hD := hD0.self (sz := s.heap.size)
  generalize hAe : va_A [(x0, .inr (15, [.ref x1, .ref x8, .ref x20, .ref x39, .ref x41, .ref x43, .ref x45])), (x1, .inr (11, [.ref x2, .int 0, .ref x3, .int 0, .ref x4, .ref x5, .int 1, .ref x6, .ref x7, .int 0]))] s.heap.size = A at hD hE ⊢
  have hA : ∀ q : Nat, s.heap.size ≤ q → A q := fun q h => by rw [← hAe]; exact Or.inr h
  have hS : va_S A s.heap s.heap [] := va_S.rf
  have hP : va_P D vwCl [(x0, .inr (15, [.ref x1, .ref x8, .ref x20, .ref x39, .ref x41, .ref x43, .ref x45])), (x1, .inr (11, [.ref x2, .int 0, .ref x3, .int 0, .ref x4, .ref x5, .int 1, .ref x6, .ref x7, .int 0]))] s.heap := hP
  have hl := lv_entry ([.ref x0, .int k1, .int k2, .int k3]) (n := 5) (Nat.le_of_ble_eq_true rfl)
  rw [lg_entry_eq]
  generalize (lg_sl ([.ref x0, .int k1, .int k2, .int k3]) ++ List.replicate (5 - (lg_sl ([.ref x0, .int k1, .int k2, .int k3])).length) Slot.unset).toArray = ls at hl ⊢
  have hl : lv_has ls 5 [(0, .ref x0), (1, .int k1), (2, .int k2), (3, .int k3)] := hl
  refine lv_aload_n hx hb dX10_state_0 rfl (lv_at hl 0 rfl) ?_
  refine lv_iload_n hx hb dX10_state_1 rfl (lv_at hl 1 rfl) ?_
  refine lv_iload_n hx hb dX10_state_2 rfl (lv_at hl 2 rfl) ?_
  refine lv_iload_n hx hb dX10_state_3 rfl (lv_at hl 3 rfl) ?_
  refine wq_xi (wc := [(x0, .inr (15, [.ref x1, .ref x8, .ref x20, .ref x39, .ref x41, .ref x43, .ref x45])), (x1, .inr (11, [.ref x2, .int 0, .ref x3, .int 0, .ref x4, .ref x5, .int 1, .ref x6, .ref x7, .int 0]))]) (wr := []) (vx_runV (As := [.int k1, .int k2, .int k3]) (rest := []) ⟨hx, hb, hml, hown, hts⟩ (k_X10_checkedAtom l hl9 D ty td mi s.heap.size x0 x1 x8 x20 x39 x41 x43 x45 x2 x3 x4 x5 x6 x7 k1 k2 k3) (cwV 3 hts gv_k_X10_state_0 rfl rfl rfl (by decide +kernel) ⟨(Nat.le_of_ble_eq_true rfl), (Nat.le_of_ble_eq_true rfl)⟩) (wq_preV hP hD hK hE hS hA [0, 1] rfl (by decide) 0 15 rfl rfl) rfl rfl hl.1 rfl (lv_room (Nat.le_of_ble_eq_true rfl)) dX10_state_4 ⟨(Nat.le_of_ble_eq_true rfl), (Nat.le_of_ble_eq_true rfl)⟩) hS hA hP hD [0, 1] [] rfl rfl (by decide) (by decide) (fun E9 u H locs q9 ce hw hP hD hS hce hcv hcl => ?_) (fun r u H locs hw hP hD hS => ?_)
  · have hEq := hw
    cases hEq
    have hP : va_P D vwCl [] H := hP
    have hD : va_D A [] := hD
    refine vx_widen (k := 1) (n := 6) (Nat.le_of_ble_eq_true rfl) (Nat.le_of_ble_eq_true rfl) ?_
    exact vx_out (E := "java/lang/IndexOutOfBoundsException") (fun x hx => (hEx x hx).elim) hlocks hce hcv hcl (fun t ht ha => wq_thr0 hS (by exact rfl) ht) hS.2.2 (Nat.le_refl _) (Nat.le_refl _)
  · exact hw.elim
def vs_k_X10_instances : List Cond := .code yX10_instances cX10_instances 2 (some .int) :: ([.fieldLink RX10 12 "AnswerFold" "program" "LAnswerFold$Program;", .methodLink RX10 126 yX6_ruleAt, .instanceMethod yX6_ruleAt, .selects RX6 yX6_ruleAt yX6_ruleAt, .initialized RX6, .classLink RX10 134 "java/lang/IndexOutOfBoundsException", .initialized "java/lang/IndexOutOfBoundsException"] ++ (u_ws RX10 TX10 7 ++ (vs_k_X6_ruleAt ++ ((vx_atS RX10 138 "java/lang/IndexOutOfBoundsException" ["java/lang/RuntimeException", "java/lang/Exception"]).filter goodWord))))
theorem iv_k_X10_instances_X10 : ∀ w ∈ u_ws RX10 TX10 7, w ∈ vs_k_X10_instances := (fun _ h => List.mem_cons_of_mem _ (List.mem_append_right _ (List.mem_append_left _ h)))
theorem ix_k_X10_instances_138 : ∀ w ∈ (vx_atS RX10 138 "java/lang/IndexOutOfBoundsException" ["java/lang/RuntimeException", "java/lang/Exception"]).filter goodWord, w ∈ vs_k_X10_instances := (fun _ h => List.mem_cons_of_mem _ (List.mem_append_right _ (List.mem_append_right _ (List.mem_append_right _ (h)))))
set_option maxRecDepth 20000 in
theorem gv_k_X10_instances_0 : GoodIn vs_k_X10_instances (wsV RX10 126 RX6 yX6_ruleAt vs_k_X6_ruleAt) := goodIn_app (goodIn_sub (by decide +kernel) (by decide +kernel)) (goodIn_sub (fun _ h => List.mem_cons_of_mem _ (List.mem_append_right _ (List.mem_append_right _ (List.mem_append_left _ h)))) (by decide +kernel))
set_option maxHeartbeats 4000000 in
set_option maxRecDepth 100000 in
theorem k_X10_instances (l : Launch) (hl9 : l.stackTraces = false) (D : va_G) (ty : Nat → ClassId) (td mi sz : Nat) (x0 : Nat) (x1 : Nat) (x8 : Nat) (x20 : Nat) (x39 : Nat) (x41 : Nat) (x43 : Nat) (x45 : Nat) (x2 : Nat) (x3 : Nat) (x4 : Nat) (x5 : Nat) (x6 : Nat) (x7 : Nat) (k1 : Int32) : vx_Met l yX10_instances vs_k_X10_instances { frames := 6, cells := 1, slots := 6, locals := 82 } (va_Pc [.ref x0, .int k1] (wq_P D ty td mi [(x0, .inr (15, [.ref x1, .ref x8, .ref x20, .ref x39, .ref x41, .ref x43, .ref x45])), (x1, .inr (11, [.ref x2, .int 0, .ref x3, .int 0, .ref x4, .ref x5, .int 1, .ref x6, .ref x7, .int 0]))] sz)) (va_Qi (fun (r : Int32) (u : va_W) => False) (wq_B D (va_A [(x0, .inr (15, [.ref x1, .ref x8, .ref x20, .ref x39, .ref x41, .ref x43, .ref x45])), (x1, .inr (11, [.ref x2, .int 0, .ref x3, .int 0, .ref x4, .ref x5, .int 1, .ref x6, .ref x7, .int 0]))] sz)) (va_A [(x0, .inr (15, [.ref x1, .ref x8, .ref x20, .ref x39, .ref x41, .ref x43, .ref x45])), (x1, .inr (11, [.ref x2, .int 0, .ref x3, .int 0, .ref x4, .ref x5, .int 1, .ref x6, .ref x7, .int 0]))] sz)) (vx_X (fun u : String × va_W => (u = ("java/lang/IndexOutOfBoundsException", []))) (wq_BX D (va_A [(x0, .inr (15, [.ref x1, .ref x8, .ref x20, .ref x39, .ref x41, .ref x43, .ref x45])), (x1, .inr (11, [.ref x2, .int 0, .ref x3, .int 0, .ref x4, .ref x5, .int 1, .ref x6, .ref x7, .int 0]))] sz)) (va_A [(x0, .inr (15, [.ref x1, .ref x8, .ref x20, .ref x39, .ref x41, .ref x43, .ref x45])), (x1, .inr (11, [.ref x2, .int 0, .ref x3, .int 0, .ref x4, .ref x5, .int 1, .ref x6, .ref x7, .int 0]))] sz)) 1 6 (va_A [(x0, .inr (15, [.ref x1, .ref x8, .ref x20, .ref x39, .ref x41, .ref x43, .ref x45])), (x1, .inr (11, [.ref x2, .int 0, .ref x3, .int 0, .ref x4, .ref x5, .int 1, .ref x6, .ref x7, .int 0]))] sz) := by
  refine vx_ofW (cc := cX10_instances) (maxL := 2) (ret := (some .int)) (by decide) rfl ?_
  intro p e s m args below meth c s₁ B hml hEx hv
  obtain ⟨rfl, hsz, hP, hK, hD0, hE⟩ := hv
  have hx := B.exec
  have hb := B.bytes
  have hr := B.returns
  have hts := atoms_spec (ws := vs_k_X10_instances) B.pre
  have hown : s.vm.findClass RX10 = some m.cls := findClass_of_methodNamed B.named
  have hlocks := B.notSynchronized
  subst hsz
  have hD := hD0.self (sz := s.heap.size)
  generalize hAe : va_A [(x0, .inr (15, [.ref x1, .ref x8, .ref x20, .ref x39, .ref x41, .ref x43, .ref x45])), (x1, .inr (11, [.ref x2, .int 0, .ref x3, .int 0, .ref x4, .ref x5, .int 1, .ref x6, .ref x7, .int 0]))] s.heap.size = A at hD hE ⊢
  have hA : ∀ q : Nat, s.heap.size ≤ q → A q := fun q h => by rw [← hAe]; exact Or.inr h
  have hS : va_S A s.heap s.heap [] := va_S.rf
  have hP : va_P D vwCl [(x0, .inr (15, [.ref x1, .ref x8, .ref x20, .ref x39, .ref x41, .ref x43, .ref x45])), (x1, .inr (11, [.ref x2, .int 0, .ref x3, .int 0, .ref x4, .ref x5, .int 1, .ref x6, .ref x7, .int 0]))] s.heap := hP
  have hl := lv_entry ([.ref x0, .int k1]) (n := 2) (Nat.le_of_ble_eq_true rfl)
  rw [lg_entry_eq]
  generalize (lg_sl ([.ref x0, .int k1]) ++ List.replicate (2 - (lg_sl ([.ref x0, .int k1])).length) Slot.unset).toArray = ls at hl ⊢
  have hl : lv_has ls 2 [(0, .ref x0), (1, .int k1)] := hl
  refine lv_aload_n hx hb dX10_instances_0 rfl (lv_at hl 0 rfl) ?_
  refine va_get (D := D) (ci := 15) (v := .ref x1) (C := RX10) (T := TX10) (N := 7) hx hb hts iv_k_X10_instances_X10 hown hK hP 0 rfl rfl 0 (by decide) (hts (.fieldLink RX10 12 "AnswerFold" "program" "LAnswerFold$Program;") (by decide +kernel)) (fun _ h9 => h9) rfl dX10_instances_1 ?_
  refine lv_iload_n hx hb dX10_instances_4 rfl (lv_at hl 1 rfl) ?_
  refine wq_r (wc := [(x1, .inr (11, [.ref x2, .int 0, .ref x3, .int 0, .ref x4, .ref x5, .int 1, .ref x6, .ref x7, .int 0]))]) (wr := [(x0, .inr (15, [.ref x1, .ref x8, .ref x20, .ref x39, .ref x41, .ref x43, .ref x45]))]) (va_runV (As := [.int k1]) (rest := []) ⟨hx, hb, hml, hown, hts⟩ (k_X6_ruleAt l D ty td mi s.heap.size x1 x2 x3 x4 x5 x6 x7 k1) (cwV 1 hts gv_k_X10_instances_0 rfl rfl rfl (by decide +kernel) ⟨(Nat.le_of_ble_eq_true rfl), (Nat.le_of_ble_eq_true rfl)⟩) (wq_preV hP hD hK hE hS hA [1] rfl (by decide) 1 11 rfl rfl) rfl rfl hl.1 rfl (lv_room (Nat.le_of_ble_eq_true rfl)) dX10_instances_5 ⟨(Nat.le_of_ble_eq_true rfl), (Nat.le_of_ble_eq_true rfl)⟩) hS hA hP hD [1] [0] rfl rfl (by decide) (by decide) (fun r u H locs hw hP hD hS => ?_)
  obtain ⟨rfl, rfl⟩ := hw
  have hP : va_P D vwCl [(x0, .inr (15, [.ref x1, .ref x8, .ref x20, .ref x39, .ref x41, .ref x43, .ref x45])), (x1, .inr (11, [.ref x2, .int 0, .ref x3, .int 0, .ref x4, .ref x5, .int 1, .ref x6, .ref x7, .int 0]))] H := hP
  have hD : va_D A [(x0, .inr (15, [.ref x1, .ref x8, .ref x20, .ref x39, .ref x41, .ref x43, .ref x45])), (x1, .inr (11, [.ref x2, .int 0, .ref x3, .int 0, .ref x4, .ref x5, .int 1, .ref x6, .ref x7, .int 0]))] := hD
  refine W.widen (k := 0) (n := 0) (Nat.le_of_ble_eq_true rfl) (Nat.le_of_ble_eq_true rfl) ?_
  refine lv_ifnonnullN hx hb dX10_instances_8 ?_
  obtain ⟨sa, hsa⟩ := hE.st 174 "no such rule" (by decide +kernel)
  exact vx_throwS (own := RX10) (cls := "java/lang/IndexOutOfBoundsException") (text := "no such rule") (names := ["java/lang/RuntimeException", "java/lang/Exception"]) (ik := 134) (is := 174) (ic := 138) (sa := sa) (A := A) hx hb hl9 hown (by decide +kernel) (by decide +kernel) (hts (.classLink RX10 134 "java/lang/IndexOutOfBoundsException") (by decide +kernel)) (hts (.initialized "java/lang/IndexOutOfBoundsException") (by decide +kernel)) hsa (wq_hat hE hts ix_k_X10_instances_138 (by decide +kernel) (by decide +kernel)) (by decide +kernel) hE.zu hE.zs hS (hl.1.trans hml.symm) dX10_instances_11 dX10_instances_14 dX10_instances_15 dX10_instances_17 dX10_instances_20 (fun x hx => (hEx x hx).elim) (Nat.le_of_ble_eq_true rfl) (Nat.le_of_ble_eq_true rfl) (Nat.le_of_ble_eq_true rfl) (Nat.le_of_ble_eq_true rfl) hlocks (fun t ha hz hk => wq_thr hS (by exact rfl) hz hk) hS.2.2 (Nat.le_of_ble_eq_true rfl) (Nat.le_of_ble_eq_true rfl)
def vs_k_X10_has : List Cond := .code yX10_has cX10_has 6 (some .boolean) :: ([.methodLink RX10 299 yX10_checkedAnswer, .instanceMethod yX10_checkedAnswer, .selects RX10 yX10_checkedAnswer yX10_checkedAnswer, .initialized RX10] ++ (vs_k_X10_checkedAnswer))
set_option maxRecDepth 20000 in
theorem gv_k_X10_has_0 : GoodIn vs_k_X10_has (wsV RX10 299 RX10 yX10_checkedAnswer vs_k_X10_checkedAnswer) := goodIn_app (goodIn_sub (by decide +kernel) (by decide +kernel)) (goodIn_sub (fun _ h => List.mem_cons_of_mem _ (List.mem_append_right _ (h))) (by decide +kernel))
set_option maxHeartbeats 4000000 in
set_option maxRecDepth 100000 in
theorem k_X10_has (l : Launch) (hl9 : l.stackTraces = false) (D : va_G) (ty : Nat → ClassId) (td mi sz : Nat) (x0 : Nat) (x1 : Nat) (x8 : Nat) (x20 : Nat) (x39 : Nat) (x41 : Nat) (x43 : Nat) (x45 : Nat) (x46 : Nat) (x47 : Nat) (k1 : Int32) (k2 : Int32) (k3 : Int32) (k4 : Int32) : vx_Met l yX10_has vs_k_X10_has { frames := 8, cells := 1, slots := 6, locals := 123 } (va_Pc [.ref x0, .int k1, .int k2, .int k3, .int k4] (wq_P D ty td mi [(x0, .inr (15, [.ref x1, .ref x8, .ref x20, .ref x39, .ref x41, .ref x43, .ref x45])), (x45, .inr (5, [.ref x46, .ref x47, .int 0, .int 0]))] sz)) (va_Qi (fun (r : Int32) (u : va_W) => False) (wq_B D (va_A [(x0, .inr (15, [.ref x1, .ref x8, .ref x20, .ref x39, .ref x41, .ref x43, .ref x45])), (x45, .inr (5, [.ref x46, .ref x47, .int 0, .int 0]))] sz)) (va_A [(x0, .inr (15, [.ref x1, .ref x8, .ref x20, .ref x39, .ref x41, .ref x43, .ref x45])), (x45, .inr (5, [.ref x46, .ref x47, .int 0, .int 0]))] sz)) (vx_X (fun u : String × va_W => (u = ("java/lang/IllegalStateException", []))) (wq_BX D (va_A [(x0, .inr (15, [.ref x1, .ref x8, .ref x20, .ref x39, .ref x41, .ref x43, .ref x45])), (x45, .inr (5, [.ref x46, .ref x47, .int 0, .int 0]))] sz)) (va_A [(x0, .inr (15, [.ref x1, .ref x8, .ref x20, .ref x39, .ref x41, .ref x43, .ref x45])), (x45, .inr (5, [.ref x46, .ref x47, .int 0, .int 0]))] sz)) 1 6 (va_A [(x0, .inr (15, [.ref x1, .ref x8, .ref x20, .ref x39, .ref x41, .ref x43, .ref x45])), (x45, .inr (5, [.ref x46, .ref x47, .int 0, .int 0]))] sz) := by
  refine vx_ofW (cc := cX10_has) (maxL := 6) (ret := (some .boolean)) (by decide) rfl ?_
  intro p e s m args below meth c s₁ B hml hEx hv
  obtain ⟨rfl, hsz, hP, hK, hD0, hE⟩ := hv
  have hx := B.exec
  have hb := B.bytes
  have hr := B.returns
  have hts := atoms_spec (ws := vs_k_X10_has) B.pre
  have hown : s.vm.findClass RX10 = some m.cls := findClass_of_methodNamed B.named
  have hlocks := B.notSynchronized
  subst hsz
  have hD := hD0.self (sz := s.heap.size)
  generalize hAe : va_A [(x0, .inr (15, [.ref x1, .ref x8, .ref x20, .ref x39, .ref x41, .ref x43, .ref x45])), (x45, .inr (5, [.ref x46, .ref x47, .int 0, .int 0]))] s.heap.size = A at hD hE ⊢
  have hA : ∀ q : Nat, s.heap.size ≤ q → A q := fun q h => by rw [← hAe]; exact Or.inr h
  have hS : va_S A s.heap s.heap [] := va_S.rf
  have hP : va_P D vwCl [(x0, .inr (15, [.ref x1, .ref x8, .ref x20, .ref x39, .ref x41, .ref x43, .ref x45])), (x45, .inr (5, [.ref x46, .ref x47, .int 0, .int 0]))] s.heap := hP
  have hl := lv_entry ([.ref x0, .int k1, .int k2, .int k3, .int k4]) (n := 6) (Nat.le_of_ble_eq_true rfl)
  rw [lg_entry_eq]
  generalize (lg_sl ([.ref x0, .int k1, .int k2, .int k3, .int k4]) ++ List.replicate (6 - (lg_sl ([.ref x0, .int k1, .int k2, .int k3, .int k4])).length) Slot.unset).toArray = ls at hl ⊢
  have hl : lv_has ls 6 [(0, .ref x0), (1, .int k1), (2, .int k2), (3, .int k3), (4, .int k4)] := hl
  refine lv_aload_n hx hb dX10_has_0 rfl (lv_at hl 0 rfl) ?_
  refine lv_iload_n hx hb dX10_has_1 rfl (lv_at hl 1 rfl) ?_
  refine wq_xi (wc := [(x0, .inr (15, [.ref x1, .ref x8, .ref x20, .ref x39, .ref x41, .ref x43, .ref x45])), (x45, .inr (5, [.ref x46, .ref x47, .int 0, .int 0]))]) (wr := []) (vx_runV (As := [.int k1]) (rest := []) ⟨hx, hb, hml, hown, hts⟩ (k_X10_checkedAnswer l hl9 D ty td mi s.heap.size x0 x1 x8 x20 x39 x41 x43 x45 x46 x47 k1) (cwV 1 hts gv_k_X10_has_0 rfl rfl rfl (by decide +kernel) ⟨(Nat.le_of_ble_eq_true rfl), (Nat.le_of_ble_eq_true rfl)⟩) (wq_preV hP hD hK hE hS hA [0, 1] rfl (by decide) 0 15 rfl rfl) rfl rfl hl.1 rfl (lv_room (Nat.le_of_ble_eq_true rfl)) dX10_has_2 ⟨(Nat.le_of_ble_eq_true rfl), (Nat.le_of_ble_eq_true rfl)⟩) hS hA hP hD [0, 1] [] rfl rfl (by decide) (by decide) (fun E9 u H locs q9 ce hw hP hD hS hce hcv hcl => ?_) (fun r u H locs hw hP hD hS => ?_)
  · have hEq := hw
    cases hEq
    have hP : va_P D vwCl [] H := hP
    have hD : va_D A [] := hD
    refine vx_widen (k := 1) (n := 6) (Nat.le_of_ble_eq_true rfl) (Nat.le_of_ble_eq_true rfl) ?_
    exact vx_out (E := "java/lang/IllegalStateException") (fun x hx => (hEx x hx).elim) hlocks hce hcv hcl (fun t ht ha => wq_thr0 hS (by exact rfl) ht) hS.2.2 (Nat.le_refl _) (Nat.le_refl _)
  · exact hw.elim
def vs_k_X10_size : List Cond := .code yX10_size cX10_size 2 (some .int) :: ([.fieldLink RX10 30 "AnswerFold" "solver" "LAnswerFold$Solver;", .methodLink RX10 299 yX10_checkedAnswer, .instanceMethod yX10_checkedAnswer, .selects RX10 yX10_checkedAnswer yX10_checkedAnswer, .initialized RX10] ++ (u_ws RX10 TX10 7 ++ (vs_k_X10_checkedAnswer)))
theorem iv_k_X10_size_X10 : ∀ w ∈ u_ws RX10 TX10 7, w ∈ vs_k_X10_size := (fun _ h => List.mem_cons_of_mem _ (List.mem_append_right _ (List.mem_append_left _ h)))
set_option maxRecDepth 20000 in
theorem gv_k_X10_size_0 : GoodIn vs_k_X10_size (wsV RX10 299 RX10 yX10_checkedAnswer vs_k_X10_checkedAnswer) := goodIn_app (goodIn_sub (by decide +kernel) (by decide +kernel)) (goodIn_sub (fun _ h => List.mem_cons_of_mem _ (List.mem_append_right _ (List.mem_append_right _ (h)))) (by decide +kernel))
set_option maxHeartbeats 4000000 in
set_option maxRecDepth 100000 in
theorem k_X10_size (l : Launch) (hl9 : l.stackTraces = false) (D : va_G) (ty : Nat → ClassId) (td mi sz : Nat) (x0 : Nat) (x1 : Nat) (x8 : Nat) (x20 : Nat) (x39 : Nat) (x41 : Nat) (x43 : Nat) (x45 : Nat) (x46 : Nat) (x47 : Nat) (k1 : Int32) : vx_Met l yX10_size vs_k_X10_size { frames := 8, cells := 1, slots := 6, locals := 123 } (va_Pc [.ref x0, .int k1] (wq_P D ty td mi [(x0, .inr (15, [.ref x1, .ref x8, .ref x20, .ref x39, .ref x41, .ref x43, .ref x45])), (x45, .inr (5, [.ref x46, .ref x47, .int 0, .int 0]))] sz)) (va_Qi (fun (r : Int32) (u : va_W) => False) (wq_B D (va_A [(x0, .inr (15, [.ref x1, .ref x8, .ref x20, .ref x39, .ref x41, .ref x43, .ref x45])), (x45, .inr (5, [.ref x46, .ref x47, .int 0, .int 0]))] sz)) (va_A [(x0, .inr (15, [.ref x1, .ref x8, .ref x20, .ref x39, .ref x41, .ref x43, .ref x45])), (x45, .inr (5, [.ref x46, .ref x47, .int 0, .int 0]))] sz)) (vx_X (fun u : String × va_W => (u = ("java/lang/IllegalStateException", []))) (wq_BX D (va_A [(x0, .inr (15, [.ref x1, .ref x8, .ref x20, .ref x39, .ref x41, .ref x43, .ref x45])), (x45, .inr (5, [.ref x46, .ref x47, .int 0, .int 0]))] sz)) (va_A [(x0, .inr (15, [.ref x1, .ref x8, .ref x20, .ref x39, .ref x41, .ref x43, .ref x45])), (x45, .inr (5, [.ref x46, .ref x47, .int 0, .int 0]))] sz)) 1 6 (va_A [(x0, .inr (15, [.ref x1, .ref x8, .ref x20, .ref x39, .ref x41, .ref x43, .ref x45])), (x45, .inr (5, [.ref x46, .ref x47, .int 0, .int 0]))] sz) := by
  refine vx_ofW (cc := cX10_size) (maxL := 2) (ret := (some .int)) (by decide) rfl ?_
  intro p e s m args below meth c s₁ B hml hEx hv
  obtain ⟨rfl, hsz, hP, hK, hD0, hE⟩ := hv
  have hx := B.exec
  have hb := B.bytes
  have hr := B.returns
  have hts := atoms_spec (ws := vs_k_X10_size) B.pre
  have hown : s.vm.findClass RX10 = some m.cls := findClass_of_methodNamed B.named
  have hlocks := B.notSynchronized
  subst hsz
  have hD := hD0.self (sz := s.heap.size)
  generalize hAe : va_A [(x0, .inr (15, [.ref x1, .ref x8, .ref x20, .ref x39, .ref x41, .ref x43, .ref x45])), (x45, .inr (5, [.ref x46, .ref x47, .int 0, .int 0]))] s.heap.size = A at hD hE ⊢
  have hA : ∀ q : Nat, s.heap.size ≤ q → A q := fun q h => by rw [← hAe]; exact Or.inr h
  have hS : va_S A s.heap s.heap [] := va_S.rf
  have hP : va_P D vwCl [(x0, .inr (15, [.ref x1, .ref x8, .ref x20, .ref x39, .ref x41, .ref x43, .ref x45])), (x45, .inr (5, [.ref x46, .ref x47, .int 0, .int 0]))] s.heap := hP
  have hl := lv_entry ([.ref x0, .int k1]) (n := 2) (Nat.le_of_ble_eq_true rfl)
  rw [lg_entry_eq]
  generalize (lg_sl ([.ref x0, .int k1]) ++ List.replicate (2 - (lg_sl ([.ref x0, .int k1])).length) Slot.unset).toArray = ls at hl ⊢
  have hl : lv_has ls 2 [(0, .ref x0), (1, .int k1)] := hl
  refine lv_aload_n hx hb dX10_size_0 rfl (lv_at hl 0 rfl) ?_
  refine va_get (D := D) (ci := 15) (v := .ref x20) (C := RX10) (T := TX10) (N := 7) hx hb hts iv_k_X10_size_X10 hown hK hP 0 rfl rfl 2 (by decide) (hts (.fieldLink RX10 30 "AnswerFold" "solver" "LAnswerFold$Solver;") (by decide +kernel)) (fun _ h9 => h9) rfl dX10_size_1 ?_
  refine lv_aload_n hx hb dX10_size_4 rfl (lv_at hl 0 rfl) ?_
  refine lv_iload_n hx hb dX10_size_5 rfl (lv_at hl 1 rfl) ?_
  refine wq_xi (wc := [(x0, .inr (15, [.ref x1, .ref x8, .ref x20, .ref x39, .ref x41, .ref x43, .ref x45])), (x45, .inr (5, [.ref x46, .ref x47, .int 0, .int 0]))]) (wr := []) (vx_runV (As := [.int k1]) (rest := [.ref x20]) ⟨hx, hb, hml, hown, hts⟩ (k_X10_checkedAnswer l hl9 D ty td mi s.heap.size x0 x1 x8 x20 x39 x41 x43 x45 x46 x47 k1) (cwV 1 hts gv_k_X10_size_0 rfl rfl rfl (by decide +kernel) ⟨(Nat.le_of_ble_eq_true rfl), (Nat.le_of_ble_eq_true rfl)⟩) (wq_preV hP hD hK hE hS hA [0, 1] rfl (by decide) 0 15 rfl rfl) rfl rfl hl.1 rfl (lv_room (Nat.le_of_ble_eq_true rfl)) dX10_size_6 ⟨(Nat.le_of_ble_eq_true rfl), (Nat.le_of_ble_eq_true rfl)⟩) hS hA hP hD [0, 1] [] rfl rfl (by decide) (by decide) (fun E9 u H locs q9 ce hw hP hD hS hce hcv hcl => ?_) (fun r u H locs hw hP hD hS => ?_)
  · have hEq := hw
    cases hEq
    have hP : va_P D vwCl [] H := hP
    have hD : va_D A [] := hD
    refine vx_widen (k := 1) (n := 6) (Nat.le_of_ble_eq_true rfl) (Nat.le_of_ble_eq_true rfl) ?_
    exact vx_out (E := "java/lang/IllegalStateException") (fun x hx => (hEx x hx).elim) hlocks hce hcv hcl (fun t ht ha => wq_thr0 hS (by exact rfl) ht) hS.2.2 (Nat.le_refl _) (Nat.le_refl _)
  · exact hw.elim
def vs_k_X10_cost : List Cond := .code yX10_cost cX10_cost 3 (some .long) :: ([.methodLink RX10 299 yX10_checkedAnswer, .instanceMethod yX10_checkedAnswer, .selects RX10 yX10_checkedAnswer yX10_checkedAnswer, .initialized RX10] ++ (vs_k_X10_checkedAnswer))
set_option maxRecDepth 20000 in
theorem gv_k_X10_cost_0 : GoodIn vs_k_X10_cost (wsV RX10 299 RX10 yX10_checkedAnswer vs_k_X10_checkedAnswer) := goodIn_app (goodIn_sub (by decide +kernel) (by decide +kernel)) (goodIn_sub (fun _ h => List.mem_cons_of_mem _ (List.mem_append_right _ (h))) (by decide +kernel))
set_option maxHeartbeats 4000000 in
set_option maxRecDepth 100000 in
theorem k_X10_cost (l : Launch) (hl9 : l.stackTraces = false) (D : va_G) (ty : Nat → ClassId) (td mi sz : Nat) (x0 : Nat) (x1 : Nat) (x8 : Nat) (x20 : Nat) (x39 : Nat) (x41 : Nat) (x43 : Nat) (x45 : Nat) (x46 : Nat) (x47 : Nat) (k1 : Int32) (k2 : Int32) : vx_Met l yX10_cost vs_k_X10_cost { frames := 8, cells := 1, slots := 6, locals := 123 } (va_Pc [.ref x0, .int k1, .int k2] (wq_P D ty td mi [(x0, .inr (15, [.ref x1, .ref x8, .ref x20, .ref x39, .ref x41, .ref x43, .ref x45])), (x45, .inr (5, [.ref x46, .ref x47, .int 0, .int 0]))] sz)) (va_Ql (fun (r : Int64) (u : va_W) => False) (wq_B D (va_A [(x0, .inr (15, [.ref x1, .ref x8, .ref x20, .ref x39, .ref x41, .ref x43, .ref x45])), (x45, .inr (5, [.ref x46, .ref x47, .int 0, .int 0]))] sz)) (va_A [(x0, .inr (15, [.ref x1, .ref x8, .ref x20, .ref x39, .ref x41, .ref x43, .ref x45])), (x45, .inr (5, [.ref x46, .ref x47, .int 0, .int 0]))] sz)) (vx_X (fun u : String × va_W => (u = ("java/lang/IllegalStateException", []))) (wq_BX D (va_A [(x0, .inr (15, [.ref x1, .ref x8, .ref x20, .ref x39, .ref x41, .ref x43, .ref x45])), (x45, .inr (5, [.ref x46, .ref x47, .int 0, .int 0]))] sz)) (va_A [(x0, .inr (15, [.ref x1, .ref x8, .ref x20, .ref x39, .ref x41, .ref x43, .ref x45])), (x45, .inr (5, [.ref x46, .ref x47, .int 0, .int 0]))] sz)) 1 6 (va_A [(x0, .inr (15, [.ref x1, .ref x8, .ref x20, .ref x39, .ref x41, .ref x43, .ref x45])), (x45, .inr (5, [.ref x46, .ref x47, .int 0, .int 0]))] sz) := by
  refine vx_ofW (cc := cX10_cost) (maxL := 3) (ret := (some .long)) (by decide) rfl ?_
  intro p e s m args below meth c s₁ B hml hEx hv
  obtain ⟨rfl, hsz, hP, hK, hD0, hE⟩ := hv
  have hx := B.exec
  have hb := B.bytes
  have hr := B.returns
  have hts := atoms_spec (ws := vs_k_X10_cost) B.pre
  have hown : s.vm.findClass RX10 = some m.cls := findClass_of_methodNamed B.named
  have hlocks := B.notSynchronized
  subst hsz
  have hD := hD0.self (sz := s.heap.size)
  generalize hAe : va_A [(x0, .inr (15, [.ref x1, .ref x8, .ref x20, .ref x39, .ref x41, .ref x43, .ref x45])), (x45, .inr (5, [.ref x46, .ref x47, .int 0, .int 0]))] s.heap.size = A at hD hE ⊢
  have hA : ∀ q : Nat, s.heap.size ≤ q → A q := fun q h => by rw [← hAe]; exact Or.inr h
  have hS : va_S A s.heap s.heap [] := va_S.rf
  have hP : va_P D vwCl [(x0, .inr (15, [.ref x1, .ref x8, .ref x20, .ref x39, .ref x41, .ref x43, .ref x45])), (x45, .inr (5, [.ref x46, .ref x47, .int 0, .int 0]))] s.heap := hP
  have hl := lv_entry ([.ref x0, .int k1, .int k2]) (n := 3) (Nat.le_of_ble_eq_true rfl)
  rw [lg_entry_eq]
  generalize (lg_sl ([.ref x0, .int k1, .int k2]) ++ List.replicate (3 - (lg_sl ([.ref x0, .int k1, .int k2])).length) Slot.unset).toArray = ls at hl ⊢
  have hl : lv_has ls 3 [(0, .ref x0), (1, .int k1), (2, .int k2)] := hl
  refine lv_aload_n hx hb dX10_cost_0 rfl (lv_at hl 0 rfl) ?_
  refine lv_iload_n hx hb dX10_cost_1 rfl (lv_at hl 1 rfl) ?_
  refine wq_xi (wc := [(x0, .inr (15, [.ref x1, .ref x8, .ref x20, .ref x39, .ref x41, .ref x43, .ref x45])), (x45, .inr (5, [.ref x46, .ref x47, .int 0, .int 0]))]) (wr := []) (vx_runV (As := [.int k1]) (rest := []) ⟨hx, hb, hml, hown, hts⟩ (k_X10_checkedAnswer l hl9 D ty td mi s.heap.size x0 x1 x8 x20 x39 x41 x43 x45 x46 x47 k1) (cwV 1 hts gv_k_X10_cost_0 rfl rfl rfl (by decide +kernel) ⟨(Nat.le_of_ble_eq_true rfl), (Nat.le_of_ble_eq_true rfl)⟩) (wq_preV hP hD hK hE hS hA [0, 1] rfl (by decide) 0 15 rfl rfl) rfl rfl hl.1 rfl (lv_room (Nat.le_of_ble_eq_true rfl)) dX10_cost_2 ⟨(Nat.le_of_ble_eq_true rfl), (Nat.le_of_ble_eq_true rfl)⟩) hS hA hP hD [0, 1] [] rfl rfl (by decide) (by decide) (fun E9 u H locs q9 ce hw hP hD hS hce hcv hcl => ?_) (fun r u H locs hw hP hD hS => ?_)
  · have hEq := hw
    cases hEq
    have hP : va_P D vwCl [] H := hP
    have hD : va_D A [] := hD
    refine vx_widen (k := 1) (n := 6) (Nat.le_of_ble_eq_true rfl) (Nat.le_of_ble_eq_true rfl) ?_
    exact vx_out (E := "java/lang/IllegalStateException") (fun x hx => (hEx x hx).elim) hlocks hce hcv hcl (fun t ht ha => wq_thr0 hS (by exact rfl) ht) hS.2.2 (Nat.le_refl _) (Nat.le_refl _)
  · exact hw.elim
def vs_k_X10_best : List Cond := .code yX10_best cX10_best 1 (some .int) :: ([.methodLink RX10 312 yX10_checkWalk, .instanceMethod yX10_checkWalk, .selects RX10 yX10_checkWalk yX10_checkWalk, .initialized RX10] ++ (vs_k_X10_checkWalk))
set_option maxRecDepth 20000 in
theorem gv_k_X10_best_0 : GoodIn vs_k_X10_best (wsV RX10 312 RX10 yX10_checkWalk vs_k_X10_checkWalk) := goodIn_app (goodIn_sub (by decide +kernel) (by decide +kernel)) (goodIn_sub (fun _ h => List.mem_cons_of_mem _ (List.mem_append_right _ (h))) (by decide +kernel))
set_option maxHeartbeats 4000000 in
set_option maxRecDepth 100000 in
theorem k_X10_best (l : Launch) (hl9 : l.stackTraces = false) (D : va_G) (ty : Nat → ClassId) (td mi sz : Nat) (x0 : Nat) (x1 : Nat) (x8 : Nat) (x20 : Nat) (x39 : Nat) (x41 : Nat) (x43 : Nat) (x45 : Nat) (x46 : Nat) (x47 : Nat) : vx_Met l yX10_best vs_k_X10_best { frames := 7, cells := 1, slots := 6, locals := 102 } (va_Pc [.ref x0] (wq_P D ty td mi [(x0, .inr (15, [.ref x1, .ref x8, .ref x20, .ref x39, .ref x41, .ref x43, .ref x45])), (x45, .inr (5, [.ref x46, .ref x47, .int 0, .int 0]))] sz)) (va_Qi (fun (r : Int32) (u : va_W) => False) (wq_B D (va_A [(x0, .inr (15, [.ref x1, .ref x8, .ref x20, .ref x39, .ref x41, .ref x43, .ref x45])), (x45, .inr (5, [.ref x46, .ref x47, .int 0, .int 0]))] sz)) (va_A [(x0, .inr (15, [.ref x1, .ref x8, .ref x20, .ref x39, .ref x41, .ref x43, .ref x45])), (x45, .inr (5, [.ref x46, .ref x47, .int 0, .int 0]))] sz)) (vx_X (fun u : String × va_W => (u = ("java/lang/IllegalStateException", []))) (wq_BX D (va_A [(x0, .inr (15, [.ref x1, .ref x8, .ref x20, .ref x39, .ref x41, .ref x43, .ref x45])), (x45, .inr (5, [.ref x46, .ref x47, .int 0, .int 0]))] sz)) (va_A [(x0, .inr (15, [.ref x1, .ref x8, .ref x20, .ref x39, .ref x41, .ref x43, .ref x45])), (x45, .inr (5, [.ref x46, .ref x47, .int 0, .int 0]))] sz)) 1 6 (va_A [(x0, .inr (15, [.ref x1, .ref x8, .ref x20, .ref x39, .ref x41, .ref x43, .ref x45])), (x45, .inr (5, [.ref x46, .ref x47, .int 0, .int 0]))] sz) := by
  refine vx_ofW (cc := cX10_best) (maxL := 1) (ret := (some .int)) (by decide) rfl ?_
  intro p e s m args below meth c s₁ B hml hEx hv
  obtain ⟨rfl, hsz, hP, hK, hD0, hE⟩ := hv
  have hx := B.exec
  have hb := B.bytes
  have hr := B.returns
  have hts := atoms_spec (ws := vs_k_X10_best) B.pre
  have hown : s.vm.findClass RX10 = some m.cls := findClass_of_methodNamed B.named
  have hlocks := B.notSynchronized
  subst hsz
  have hD := hD0.self (sz := s.heap.size)
  generalize hAe : va_A [(x0, .inr (15, [.ref x1, .ref x8, .ref x20, .ref x39, .ref x41, .ref x43, .ref x45])), (x45, .inr (5, [.ref x46, .ref x47, .int 0, .int 0]))] s.heap.size = A at hD hE ⊢
  have hA : ∀ q : Nat, s.heap.size ≤ q → A q := fun q h => by rw [← hAe]; exact Or.inr h
  have hS : va_S A s.heap s.heap [] := va_S.rf
  have hP : va_P D vwCl [(x0, .inr (15, [.ref x1, .ref x8, .ref x20, .ref x39, .ref x41, .ref x43, .ref x45])), (x45, .inr (5, [.ref x46, .ref x47, .int 0, .int 0]))] s.heap := hP
  have hl := lv_entry ([.ref x0]) (n := 1) (Nat.le_of_ble_eq_true rfl)
  rw [lg_entry_eq]
  generalize (lg_sl ([.ref x0]) ++ List.replicate (1 - (lg_sl ([.ref x0])).length) Slot.unset).toArray = ls at hl ⊢
  have hl : lv_has ls 1 [(0, .ref x0)] := hl
  refine lv_aload_n hx hb dX10_best_0 rfl (lv_at hl 0 rfl) ?_
  refine wq_xv (wc := [(x0, .inr (15, [.ref x1, .ref x8, .ref x20, .ref x39, .ref x41, .ref x43, .ref x45])), (x45, .inr (5, [.ref x46, .ref x47, .int 0, .int 0]))]) (wr := []) (vx_runV (As := []) (rest := []) ⟨hx, hb, hml, hown, hts⟩ (k_X10_checkWalk l hl9 D ty td mi s.heap.size x0 x1 x8 x20 x39 x41 x43 x45 x46 x47) (cwV 0 hts gv_k_X10_best_0 rfl rfl rfl (by decide +kernel) ⟨(Nat.le_of_ble_eq_true rfl), (Nat.le_of_ble_eq_true rfl)⟩) (wq_preV hP hD hK hE hS hA [0, 1] rfl (by decide) 0 15 rfl rfl) rfl rfl hl.1 rfl (lv_room (Nat.le_of_ble_eq_true rfl)) dX10_best_1 ⟨(Nat.le_of_ble_eq_true rfl), (Nat.le_of_ble_eq_true rfl)⟩) hS hA hP hD [0, 1] [] rfl rfl (by decide) (by decide) (fun E9 u H locs q9 ce hw hP hD hS hce hcv hcl => ?_) (fun u H locs hw hP hD hS => ?_)
  · have hEq := hw
    cases hEq
    have hP : va_P D vwCl [] H := hP
    have hD : va_D A [] := hD
    refine vx_widen (k := 1) (n := 6) (Nat.le_of_ble_eq_true rfl) (Nat.le_of_ble_eq_true rfl) ?_
    exact vx_out (E := "java/lang/IllegalStateException") (fun x hx => (hEx x hx).elim) hlocks hce hcv hcl (fun t ht ha => wq_thr0 hS (by exact rfl) ht) hS.2.2 (Nat.le_refl _) (Nat.le_refl _)
  · exact hw.elim
def vs_k_X10_projected : List Cond := .code yX10_projected cX10_projected 2 (some .int) :: ([.methodLink RX10 312 yX10_checkWalk, .instanceMethod yX10_checkWalk, .selects RX10 yX10_checkWalk yX10_checkWalk, .initialized RX10] ++ (vs_k_X10_checkWalk))
set_option maxRecDepth 20000 in
theorem gv_k_X10_projected_0 : GoodIn vs_k_X10_projected (wsV RX10 312 RX10 yX10_checkWalk vs_k_X10_checkWalk) := goodIn_app (goodIn_sub (by decide +kernel) (by decide +kernel)) (goodIn_sub (fun _ h => List.mem_cons_of_mem _ (List.mem_append_right _ (h))) (by decide +kernel))
set_option maxHeartbeats 4000000 in
set_option maxRecDepth 100000 in
theorem k_X10_projected (l : Launch) (hl9 : l.stackTraces = false) (D : va_G) (ty : Nat → ClassId) (td mi sz : Nat) (x0 : Nat) (x1 : Nat) (x8 : Nat) (x20 : Nat) (x39 : Nat) (x41 : Nat) (x43 : Nat) (x45 : Nat) (x46 : Nat) (x47 : Nat) (k1 : Int32) : vx_Met l yX10_projected vs_k_X10_projected { frames := 7, cells := 1, slots := 6, locals := 102 } (va_Pc [.ref x0, .int k1] (wq_P D ty td mi [(x0, .inr (15, [.ref x1, .ref x8, .ref x20, .ref x39, .ref x41, .ref x43, .ref x45])), (x45, .inr (5, [.ref x46, .ref x47, .int 0, .int 0]))] sz)) (va_Qi (fun (r : Int32) (u : va_W) => False) (wq_B D (va_A [(x0, .inr (15, [.ref x1, .ref x8, .ref x20, .ref x39, .ref x41, .ref x43, .ref x45])), (x45, .inr (5, [.ref x46, .ref x47, .int 0, .int 0]))] sz)) (va_A [(x0, .inr (15, [.ref x1, .ref x8, .ref x20, .ref x39, .ref x41, .ref x43, .ref x45])), (x45, .inr (5, [.ref x46, .ref x47, .int 0, .int 0]))] sz)) (vx_X (fun u : String × va_W => (u = ("java/lang/IllegalStateException", []))) (wq_BX D (va_A [(x0, .inr (15, [.ref x1, .ref x8, .ref x20, .ref x39, .ref x41, .ref x43, .ref x45])), (x45, .inr (5, [.ref x46, .ref x47, .int 0, .int 0]))] sz)) (va_A [(x0, .inr (15, [.ref x1, .ref x8, .ref x20, .ref x39, .ref x41, .ref x43, .ref x45])), (x45, .inr (5, [.ref x46, .ref x47, .int 0, .int 0]))] sz)) 1 6 (va_A [(x0, .inr (15, [.ref x1, .ref x8, .ref x20, .ref x39, .ref x41, .ref x43, .ref x45])), (x45, .inr (5, [.ref x46, .ref x47, .int 0, .int 0]))] sz) := by
  refine vx_ofW (cc := cX10_projected) (maxL := 2) (ret := (some .int)) (by decide) rfl ?_
  intro p e s m args below meth c s₁ B hml hEx hv
  obtain ⟨rfl, hsz, hP, hK, hD0, hE⟩ := hv
  have hx := B.exec
  have hb := B.bytes
  have hr := B.returns
  have hts := atoms_spec (ws := vs_k_X10_projected) B.pre
  have hown : s.vm.findClass RX10 = some m.cls := findClass_of_methodNamed B.named
  have hlocks := B.notSynchronized
  subst hsz
  have hD := hD0.self (sz := s.heap.size)
  generalize hAe : va_A [(x0, .inr (15, [.ref x1, .ref x8, .ref x20, .ref x39, .ref x41, .ref x43, .ref x45])), (x45, .inr (5, [.ref x46, .ref x47, .int 0, .int 0]))] s.heap.size = A at hD hE ⊢
  have hA : ∀ q : Nat, s.heap.size ≤ q → A q := fun q h => by rw [← hAe]; exact Or.inr h
  have hS : va_S A s.heap s.heap [] := va_S.rf
  have hP : va_P D vwCl [(x0, .inr (15, [.ref x1, .ref x8, .ref x20, .ref x39, .ref x41, .ref x43, .ref x45])), (x45, .inr (5, [.ref x46, .ref x47, .int 0, .int 0]))] s.heap := hP
  have hl := lv_entry ([.ref x0, .int k1]) (n := 2) (Nat.le_of_ble_eq_true rfl)
  rw [lg_entry_eq]
  generalize (lg_sl ([.ref x0, .int k1]) ++ List.replicate (2 - (lg_sl ([.ref x0, .int k1])).length) Slot.unset).toArray = ls at hl ⊢
  have hl : lv_has ls 2 [(0, .ref x0), (1, .int k1)] := hl
  refine lv_aload_n hx hb dX10_projected_0 rfl (lv_at hl 0 rfl) ?_
  refine wq_xv (wc := [(x0, .inr (15, [.ref x1, .ref x8, .ref x20, .ref x39, .ref x41, .ref x43, .ref x45])), (x45, .inr (5, [.ref x46, .ref x47, .int 0, .int 0]))]) (wr := []) (vx_runV (As := []) (rest := []) ⟨hx, hb, hml, hown, hts⟩ (k_X10_checkWalk l hl9 D ty td mi s.heap.size x0 x1 x8 x20 x39 x41 x43 x45 x46 x47) (cwV 0 hts gv_k_X10_projected_0 rfl rfl rfl (by decide +kernel) ⟨(Nat.le_of_ble_eq_true rfl), (Nat.le_of_ble_eq_true rfl)⟩) (wq_preV hP hD hK hE hS hA [0, 1] rfl (by decide) 0 15 rfl rfl) rfl rfl hl.1 rfl (lv_room (Nat.le_of_ble_eq_true rfl)) dX10_projected_1 ⟨(Nat.le_of_ble_eq_true rfl), (Nat.le_of_ble_eq_true rfl)⟩) hS hA hP hD [0, 1] [] rfl rfl (by decide) (by decide) (fun E9 u H locs q9 ce hw hP hD hS hce hcv hcl => ?_) (fun u H locs hw hP hD hS => ?_)
  · have hEq := hw
    cases hEq
    have hP : va_P D vwCl [] H := hP
    have hD : va_D A [] := hD
    refine vx_widen (k := 1) (n := 6) (Nat.le_of_ble_eq_true rfl) (Nat.le_of_ble_eq_true rfl) ?_
    exact vx_out (E := "java/lang/IllegalStateException") (fun x hx => (hEx x hx).elim) hlocks hce hcv hcl (fun t ht ha => wq_thr0 hS (by exact rfl) ht) hS.2.2 (Nat.le_refl _) (Nat.le_refl _)
  · exact hw.elim
def vs_k_X10_holds : List Cond := .code yX10_holds cX10_holds 5 (some .char) :: ([.methodLink RX10 312 yX10_checkWalk, .instanceMethod yX10_checkWalk, .selects RX10 yX10_checkWalk yX10_checkWalk, .initialized RX10] ++ (vs_k_X10_checkWalk))
set_option maxRecDepth 20000 in
theorem gv_k_X10_holds_0 : GoodIn vs_k_X10_holds (wsV RX10 312 RX10 yX10_checkWalk vs_k_X10_checkWalk) := goodIn_app (goodIn_sub (by decide +kernel) (by decide +kernel)) (goodIn_sub (fun _ h => List.mem_cons_of_mem _ (List.mem_append_right _ (h))) (by decide +kernel))
set_option maxHeartbeats 4000000 in
set_option maxRecDepth 100000 in
theorem k_X10_holds (l : Launch) (hl9 : l.stackTraces = false) (D : va_G) (ty : Nat → ClassId) (td mi sz : Nat) (x0 : Nat) (x1 : Nat) (x8 : Nat) (x20 : Nat) (x39 : Nat) (x41 : Nat) (x43 : Nat) (x45 : Nat) (x46 : Nat) (x47 : Nat) (k1 : Int32) (k2 : Int32) (k3 : Int32) : vx_Met l yX10_holds vs_k_X10_holds { frames := 7, cells := 1, slots := 6, locals := 102 } (va_Pc [.ref x0, .int k1, .int k2, .int k3] (wq_P D ty td mi [(x0, .inr (15, [.ref x1, .ref x8, .ref x20, .ref x39, .ref x41, .ref x43, .ref x45])), (x45, .inr (5, [.ref x46, .ref x47, .int 0, .int 0]))] sz)) (va_Qi (fun (r : Int32) (u : va_W) => False) (wq_B D (va_A [(x0, .inr (15, [.ref x1, .ref x8, .ref x20, .ref x39, .ref x41, .ref x43, .ref x45])), (x45, .inr (5, [.ref x46, .ref x47, .int 0, .int 0]))] sz)) (va_A [(x0, .inr (15, [.ref x1, .ref x8, .ref x20, .ref x39, .ref x41, .ref x43, .ref x45])), (x45, .inr (5, [.ref x46, .ref x47, .int 0, .int 0]))] sz)) (vx_X (fun u : String × va_W => (u = ("java/lang/IllegalStateException", []))) (wq_BX D (va_A [(x0, .inr (15, [.ref x1, .ref x8, .ref x20, .ref x39, .ref x41, .ref x43, .ref x45])), (x45, .inr (5, [.ref x46, .ref x47, .int 0, .int 0]))] sz)) (va_A [(x0, .inr (15, [.ref x1, .ref x8, .ref x20, .ref x39, .ref x41, .ref x43, .ref x45])), (x45, .inr (5, [.ref x46, .ref x47, .int 0, .int 0]))] sz)) 1 6 (va_A [(x0, .inr (15, [.ref x1, .ref x8, .ref x20, .ref x39, .ref x41, .ref x43, .ref x45])), (x45, .inr (5, [.ref x46, .ref x47, .int 0, .int 0]))] sz) := by
  refine vx_ofW (cc := cX10_holds) (maxL := 5) (ret := (some .char)) (by decide) rfl ?_
  intro p e s m args below meth c s₁ B hml hEx hv
  obtain ⟨rfl, hsz, hP, hK, hD0, hE⟩ := hv
  have hx := B.exec
  have hb := B.bytes
  have hr := B.returns
  have hts := atoms_spec (ws := vs_k_X10_holds) B.pre
  have hown : s.vm.findClass RX10 = some m.cls := findClass_of_methodNamed B.named
  have hlocks := B.notSynchronized
  subst hsz
  have hD := hD0.self (sz := s.heap.size)
  generalize hAe : va_A [(x0, .inr (15, [.ref x1, .ref x8, .ref x20, .ref x39, .ref x41, .ref x43, .ref x45])), (x45, .inr (5, [.ref x46, .ref x47, .int 0, .int 0]))] s.heap.size = A at hD hE ⊢
  have hA : ∀ q : Nat, s.heap.size ≤ q → A q := fun q h => by rw [← hAe]; exact Or.inr h
  have hS : va_S A s.heap s.heap [] := va_S.rf
  have hP : va_P D vwCl [(x0, .inr (15, [.ref x1, .ref x8, .ref x20, .ref x39, .ref x41, .ref x43, .ref x45])), (x45, .inr (5, [.ref x46, .ref x47, .int 0, .int 0]))] s.heap := hP
  have hl := lv_entry ([.ref x0, .int k1, .int k2, .int k3]) (n := 5) (Nat.le_of_ble_eq_true rfl)
  rw [lg_entry_eq]
  generalize (lg_sl ([.ref x0, .int k1, .int k2, .int k3]) ++ List.replicate (5 - (lg_sl ([.ref x0, .int k1, .int k2, .int k3])).length) Slot.unset).toArray = ls at hl ⊢
  have hl : lv_has ls 5 [(0, .ref x0), (1, .int k1), (2, .int k2), (3, .int k3)] := hl
  refine lv_aload_n hx hb dX10_holds_0 rfl (lv_at hl 0 rfl) ?_
  refine wq_xv (wc := [(x0, .inr (15, [.ref x1, .ref x8, .ref x20, .ref x39, .ref x41, .ref x43, .ref x45])), (x45, .inr (5, [.ref x46, .ref x47, .int 0, .int 0]))]) (wr := []) (vx_runV (As := []) (rest := []) ⟨hx, hb, hml, hown, hts⟩ (k_X10_checkWalk l hl9 D ty td mi s.heap.size x0 x1 x8 x20 x39 x41 x43 x45 x46 x47) (cwV 0 hts gv_k_X10_holds_0 rfl rfl rfl (by decide +kernel) ⟨(Nat.le_of_ble_eq_true rfl), (Nat.le_of_ble_eq_true rfl)⟩) (wq_preV hP hD hK hE hS hA [0, 1] rfl (by decide) 0 15 rfl rfl) rfl rfl hl.1 rfl (lv_room (Nat.le_of_ble_eq_true rfl)) dX10_holds_1 ⟨(Nat.le_of_ble_eq_true rfl), (Nat.le_of_ble_eq_true rfl)⟩) hS hA hP hD [0, 1] [] rfl rfl (by decide) (by decide) (fun E9 u H locs q9 ce hw hP hD hS hce hcv hcl => ?_) (fun u H locs hw hP hD hS => ?_)
  · have hEq := hw
    cases hEq
    have hP : va_P D vwCl [] H := hP
    have hD : va_D A [] := hD
    refine vx_widen (k := 1) (n := 6) (Nat.le_of_ble_eq_true rfl) (Nat.le_of_ble_eq_true rfl) ?_
    exact vx_out (E := "java/lang/IllegalStateException") (fun x hx => (hEx x hx).elim) hlocks hce hcv hcl (fun t ht ha => wq_thr0 hS (by exact rfl) ht) hS.2.2 (Nat.le_refl _) (Nat.le_refl _)
  · exact hw.elim
def vs_k_X10_reason : List Cond := .code yX10_reason cX10_reason 8 (some .int) :: ([.methodLink RX10 299 yX10_checkedAnswer, .instanceMethod yX10_checkedAnswer, .selects RX10 yX10_checkedAnswer yX10_checkedAnswer, .initialized RX10] ++ (vs_k_X10_checkedAnswer))
set_option maxRecDepth 20000 in
theorem gv_k_X10_reason_0 : GoodIn vs_k_X10_reason (wsV RX10 299 RX10 yX10_checkedAnswer vs_k_X10_checkedAnswer) := goodIn_app (goodIn_sub (by decide +kernel) (by decide +kernel)) (goodIn_sub (fun _ h => List.mem_cons_of_mem _ (List.mem_append_right _ (h))) (by decide +kernel))
set_option maxHeartbeats 4000000 in
set_option maxRecDepth 100000 in
theorem k_X10_reason (l : Launch) (hl9 : l.stackTraces = false) (D : va_G) (ty : Nat → ClassId) (td mi sz : Nat) (x0 : Nat) (x1 : Nat) (x8 : Nat) (x20 : Nat) (x39 : Nat) (x41 : Nat) (x43 : Nat) (x45 : Nat) (x46 : Nat) (x47 : Nat) (k1 : Int32) (k2 : Int32) (k3 : Int32) (k4 : Int32) : vx_Met l yX10_reason vs_k_X10_reason { frames := 8, cells := 1, slots := 6, locals := 123 } (va_Pc [.ref x0, .int k1, .int k2, .int k3, .int k4] (wq_P D ty td mi [(x0, .inr (15, [.ref x1, .ref x8, .ref x20, .ref x39, .ref x41, .ref x43, .ref x45])), (x45, .inr (5, [.ref x46, .ref x47, .int 0, .int 0]))] sz)) (va_Qi (fun (r : Int32) (u : va_W) => False) (wq_B D (va_A [(x0, .inr (15, [.ref x1, .ref x8, .ref x20, .ref x39, .ref x41, .ref x43, .ref x45])), (x45, .inr (5, [.ref x46, .ref x47, .int 0, .int 0]))] sz)) (va_A [(x0, .inr (15, [.ref x1, .ref x8, .ref x20, .ref x39, .ref x41, .ref x43, .ref x45])), (x45, .inr (5, [.ref x46, .ref x47, .int 0, .int 0]))] sz)) (vx_X (fun u : String × va_W => (u = ("java/lang/IllegalStateException", []))) (wq_BX D (va_A [(x0, .inr (15, [.ref x1, .ref x8, .ref x20, .ref x39, .ref x41, .ref x43, .ref x45])), (x45, .inr (5, [.ref x46, .ref x47, .int 0, .int 0]))] sz)) (va_A [(x0, .inr (15, [.ref x1, .ref x8, .ref x20, .ref x39, .ref x41, .ref x43, .ref x45])), (x45, .inr (5, [.ref x46, .ref x47, .int 0, .int 0]))] sz)) 1 6 (va_A [(x0, .inr (15, [.ref x1, .ref x8, .ref x20, .ref x39, .ref x41, .ref x43, .ref x45])), (x45, .inr (5, [.ref x46, .ref x47, .int 0, .int 0]))] sz) := by
  refine vx_ofW (cc := cX10_reason) (maxL := 8) (ret := (some .int)) (by decide) rfl ?_
  intro p e s m args below meth c s₁ B hml hEx hv
  obtain ⟨rfl, hsz, hP, hK, hD0, hE⟩ := hv
  have hx := B.exec
  have hb := B.bytes
  have hr := B.returns
  have hts := atoms_spec (ws := vs_k_X10_reason) B.pre
  have hown : s.vm.findClass RX10 = some m.cls := findClass_of_methodNamed B.named
  have hlocks := B.notSynchronized
  subst hsz
  have hD := hD0.self (sz := s.heap.size)
  generalize hAe : va_A [(x0, .inr (15, [.ref x1, .ref x8, .ref x20, .ref x39, .ref x41, .ref x43, .ref x45])), (x45, .inr (5, [.ref x46, .ref x47, .int 0, .int 0]))] s.heap.size = A at hD hE ⊢
  have hA : ∀ q : Nat, s.heap.size ≤ q → A q := fun q h => by rw [← hAe]; exact Or.inr h
  have hS : va_S A s.heap s.heap [] := va_S.rf
  have hP : va_P D vwCl [(x0, .inr (15, [.ref x1, .ref x8, .ref x20, .ref x39, .ref x41, .ref x43, .ref x45])), (x45, .inr (5, [.ref x46, .ref x47, .int 0, .int 0]))] s.heap := hP
  have hl := lv_entry ([.ref x0, .int k1, .int k2, .int k3, .int k4]) (n := 8) (Nat.le_of_ble_eq_true rfl)
  rw [lg_entry_eq]
  generalize (lg_sl ([.ref x0, .int k1, .int k2, .int k3, .int k4]) ++ List.replicate (8 - (lg_sl ([.ref x0, .int k1, .int k2, .int k3, .int k4])).length) Slot.unset).toArray = ls at hl ⊢
  have hl : lv_has ls 8 [(0, .ref x0), (1, .int k1), (2, .int k2), (3, .int k3), (4, .int k4)] := hl
  refine lv_aload_n hx hb dX10_reason_0 rfl (lv_at hl 0 rfl) ?_
  refine lv_iload_n hx hb dX10_reason_1 rfl (lv_at hl 1 rfl) ?_
  refine wq_xi (wc := [(x0, .inr (15, [.ref x1, .ref x8, .ref x20, .ref x39, .ref x41, .ref x43, .ref x45])), (x45, .inr (5, [.ref x46, .ref x47, .int 0, .int 0]))]) (wr := []) (vx_runV (As := [.int k1]) (rest := []) ⟨hx, hb, hml, hown, hts⟩ (k_X10_checkedAnswer l hl9 D ty td mi s.heap.size x0 x1 x8 x20 x39 x41 x43 x45 x46 x47 k1) (cwV 1 hts gv_k_X10_reason_0 rfl rfl rfl (by decide +kernel) ⟨(Nat.le_of_ble_eq_true rfl), (Nat.le_of_ble_eq_true rfl)⟩) (wq_preV hP hD hK hE hS hA [0, 1] rfl (by decide) 0 15 rfl rfl) rfl rfl hl.1 rfl (lv_room (Nat.le_of_ble_eq_true rfl)) dX10_reason_2 ⟨(Nat.le_of_ble_eq_true rfl), (Nat.le_of_ble_eq_true rfl)⟩) hS hA hP hD [0, 1] [] rfl rfl (by decide) (by decide) (fun E9 u H locs q9 ce hw hP hD hS hce hcv hcl => ?_) (fun r u H locs hw hP hD hS => ?_)
  · have hEq := hw
    cases hEq
    have hP : va_P D vwCl [] H := hP
    have hD : va_D A [] := hD
    refine vx_widen (k := 1) (n := 6) (Nat.le_of_ble_eq_true rfl) (Nat.le_of_ble_eq_true rfl) ?_
    exact vx_out (E := "java/lang/IllegalStateException") (fun x hx => (hEx x hx).elim) hlocks hce hcv hcl (fun t ht ha => wq_thr0 hS (by exact rfl) ht) hS.2.2 (Nat.le_refl _) (Nat.le_refl _)
  · exact hw.elim
def vs_k_X10_share : List Cond := .code yX10_share cX10_share 5 (some .float) :: ([.methodLink RX10 312 yX10_checkWalk, .instanceMethod yX10_checkWalk, .selects RX10 yX10_checkWalk yX10_checkWalk, .initialized RX10] ++ (vs_k_X10_checkWalk))
set_option maxRecDepth 20000 in
theorem gv_k_X10_share_0 : GoodIn vs_k_X10_share (wsV RX10 312 RX10 yX10_checkWalk vs_k_X10_checkWalk) := goodIn_app (goodIn_sub (by decide +kernel) (by decide +kernel)) (goodIn_sub (fun _ h => List.mem_cons_of_mem _ (List.mem_append_right _ (h))) (by decide +kernel))
set_option maxHeartbeats 4000000 in
set_option maxRecDepth 100000 in
theorem k_X10_share (l : Launch) (hl9 : l.stackTraces = false) (D : va_G) (ty : Nat → ClassId) (td mi sz : Nat) (x0 : Nat) (x1 : Nat) (x8 : Nat) (x20 : Nat) (x39 : Nat) (x41 : Nat) (x43 : Nat) (x45 : Nat) (x46 : Nat) (x47 : Nat) (k1 : Int32) (k2 : Int32) (k3 : Int32) : vx_Met l yX10_share vs_k_X10_share { frames := 7, cells := 1, slots := 6, locals := 102 } (va_Pc [.ref x0, .int k1, .int k2, .int k3] (wq_P D ty td mi [(x0, .inr (15, [.ref x1, .ref x8, .ref x20, .ref x39, .ref x41, .ref x43, .ref x45])), (x45, .inr (5, [.ref x46, .ref x47, .int 0, .int 0]))] sz)) (va_Qf (fun (r : UInt32) (u : va_W) => False) (wq_B D (va_A [(x0, .inr (15, [.ref x1, .ref x8, .ref x20, .ref x39, .ref x41, .ref x43, .ref x45])), (x45, .inr (5, [.ref x46, .ref x47, .int 0, .int 0]))] sz)) (va_A [(x0, .inr (15, [.ref x1, .ref x8, .ref x20, .ref x39, .ref x41, .ref x43, .ref x45])), (x45, .inr (5, [.ref x46, .ref x47, .int 0, .int 0]))] sz)) (vx_X (fun u : String × va_W => (u = ("java/lang/IllegalStateException", []))) (wq_BX D (va_A [(x0, .inr (15, [.ref x1, .ref x8, .ref x20, .ref x39, .ref x41, .ref x43, .ref x45])), (x45, .inr (5, [.ref x46, .ref x47, .int 0, .int 0]))] sz)) (va_A [(x0, .inr (15, [.ref x1, .ref x8, .ref x20, .ref x39, .ref x41, .ref x43, .ref x45])), (x45, .inr (5, [.ref x46, .ref x47, .int 0, .int 0]))] sz)) 1 6 (va_A [(x0, .inr (15, [.ref x1, .ref x8, .ref x20, .ref x39, .ref x41, .ref x43, .ref x45])), (x45, .inr (5, [.ref x46, .ref x47, .int 0, .int 0]))] sz) := by
  refine vx_ofW (cc := cX10_share) (maxL := 5) (ret := (some .float)) (by decide) rfl ?_
  intro p e s m args below meth c s₁ B hml hEx hv
  obtain ⟨rfl, hsz, hP, hK, hD0, hE⟩ := hv
  have hx := B.exec
  have hb := B.bytes
  have hr := B.returns
  have hts := atoms_spec (ws := vs_k_X10_share) B.pre
  have hown : s.vm.findClass RX10 = some m.cls := findClass_of_methodNamed B.named
  have hlocks := B.notSynchronized
  subst hsz
  have hD := hD0.self (sz := s.heap.size)
  generalize hAe : va_A [(x0, .inr (15, [.ref x1, .ref x8, .ref x20, .ref x39, .ref x41, .ref x43, .ref x45])), (x45, .inr (5, [.ref x46, .ref x47, .int 0, .int 0]))] s.heap.size = A at hD hE ⊢
  have hA : ∀ q : Nat, s.heap.size ≤ q → A q := fun q h => by rw [← hAe]; exact Or.inr h
  have hS : va_S A s.heap s.heap [] := va_S.rf
  have hP : va_P D vwCl [(x0, .inr (15, [.ref x1, .ref x8, .ref x20, .ref x39, .ref x41, .ref x43, .ref x45])), (x45, .inr (5, [.ref x46, .ref x47, .int 0, .int 0]))] s.heap := hP
  have hl := lv_entry ([.ref x0, .int k1, .int k2, .int k3]) (n := 5) (Nat.le_of_ble_eq_true rfl)
  rw [lg_entry_eq]
  generalize (lg_sl ([.ref x0, .int k1, .int k2, .int k3]) ++ List.replicate (5 - (lg_sl ([.ref x0, .int k1, .int k2, .int k3])).length) Slot.unset).toArray = ls at hl ⊢
  have hl : lv_has ls 5 [(0, .ref x0), (1, .int k1), (2, .int k2), (3, .int k3)] := hl
  refine lv_aload_n hx hb dX10_share_0 rfl (lv_at hl 0 rfl) ?_
  refine wq_xv (wc := [(x0, .inr (15, [.ref x1, .ref x8, .ref x20, .ref x39, .ref x41, .ref x43, .ref x45])), (x45, .inr (5, [.ref x46, .ref x47, .int 0, .int 0]))]) (wr := []) (vx_runV (As := []) (rest := []) ⟨hx, hb, hml, hown, hts⟩ (k_X10_checkWalk l hl9 D ty td mi s.heap.size x0 x1 x8 x20 x39 x41 x43 x45 x46 x47) (cwV 0 hts gv_k_X10_share_0 rfl rfl rfl (by decide +kernel) ⟨(Nat.le_of_ble_eq_true rfl), (Nat.le_of_ble_eq_true rfl)⟩) (wq_preV hP hD hK hE hS hA [0, 1] rfl (by decide) 0 15 rfl rfl) rfl rfl hl.1 rfl (lv_room (Nat.le_of_ble_eq_true rfl)) dX10_share_1 ⟨(Nat.le_of_ble_eq_true rfl), (Nat.le_of_ble_eq_true rfl)⟩) hS hA hP hD [0, 1] [] rfl rfl (by decide) (by decide) (fun E9 u H locs q9 ce hw hP hD hS hce hcv hcl => ?_) (fun u H locs hw hP hD hS => ?_)
  · have hEq := hw
    cases hEq
    have hP : va_P D vwCl [] H := hP
    have hD : va_D A [] := hD
    refine vx_widen (k := 1) (n := 6) (Nat.le_of_ble_eq_true rfl) (Nat.le_of_ble_eq_true rfl) ?_
    exact vx_out (E := "java/lang/IllegalStateException") (fun x hx => (hEx x hx).elim) hlocks hce hcv hcl (fun t ht ha => wq_thr0 hS (by exact rfl) ht) hS.2.2 (Nat.le_refl _) (Nat.le_refl _)
  · exact hw.elim
def vs_k_X10_commonest : List Cond := .code yX10_commonest cX10_commonest 5 (some .int) :: ([.methodLink RX10 312 yX10_checkWalk, .instanceMethod yX10_checkWalk, .selects RX10 yX10_checkWalk yX10_checkWalk, .initialized RX10] ++ (vs_k_X10_checkWalk))
set_option maxRecDepth 20000 in
theorem gv_k_X10_commonest_0 : GoodIn vs_k_X10_commonest (wsV RX10 312 RX10 yX10_checkWalk vs_k_X10_checkWalk) := goodIn_app (goodIn_sub (by decide +kernel) (by decide +kernel)) (goodIn_sub (fun _ h => List.mem_cons_of_mem _ (List.mem_append_right _ (h))) (by decide +kernel))
set_option maxHeartbeats 4000000 in
set_option maxRecDepth 100000 in
theorem k_X10_commonest (l : Launch) (hl9 : l.stackTraces = false) (D : va_G) (ty : Nat → ClassId) (td mi sz : Nat) (x0 : Nat) (x1 : Nat) (x8 : Nat) (x20 : Nat) (x39 : Nat) (x41 : Nat) (x43 : Nat) (x45 : Nat) (x46 : Nat) (x47 : Nat) : vx_Met l yX10_commonest vs_k_X10_commonest { frames := 7, cells := 1, slots := 6, locals := 102 } (va_Pc [.ref x0] (wq_P D ty td mi [(x0, .inr (15, [.ref x1, .ref x8, .ref x20, .ref x39, .ref x41, .ref x43, .ref x45])), (x45, .inr (5, [.ref x46, .ref x47, .int 0, .int 0]))] sz)) (va_Qi (fun (r : Int32) (u : va_W) => False) (wq_B D (va_A [(x0, .inr (15, [.ref x1, .ref x8, .ref x20, .ref x39, .ref x41, .ref x43, .ref x45])), (x45, .inr (5, [.ref x46, .ref x47, .int 0, .int 0]))] sz)) (va_A [(x0, .inr (15, [.ref x1, .ref x8, .ref x20, .ref x39, .ref x41, .ref x43, .ref x45])), (x45, .inr (5, [.ref x46, .ref x47, .int 0, .int 0]))] sz)) (vx_X (fun u : String × va_W => (u = ("java/lang/IllegalStateException", []))) (wq_BX D (va_A [(x0, .inr (15, [.ref x1, .ref x8, .ref x20, .ref x39, .ref x41, .ref x43, .ref x45])), (x45, .inr (5, [.ref x46, .ref x47, .int 0, .int 0]))] sz)) (va_A [(x0, .inr (15, [.ref x1, .ref x8, .ref x20, .ref x39, .ref x41, .ref x43, .ref x45])), (x45, .inr (5, [.ref x46, .ref x47, .int 0, .int 0]))] sz)) 1 6 (va_A [(x0, .inr (15, [.ref x1, .ref x8, .ref x20, .ref x39, .ref x41, .ref x43, .ref x45])), (x45, .inr (5, [.ref x46, .ref x47, .int 0, .int 0]))] sz) := by
  refine vx_ofW (cc := cX10_commonest) (maxL := 5) (ret := (some .int)) (by decide) rfl ?_
  intro p e s m args below meth c s₁ B hml hEx hv
  obtain ⟨rfl, hsz, hP, hK, hD0, hE⟩ := hv
  have hx := B.exec
  have hb := B.bytes
  have hr := B.returns
  have hts := atoms_spec (ws := vs_k_X10_commonest) B.pre
  have hown : s.vm.findClass RX10 = some m.cls := findClass_of_methodNamed B.named
  have hlocks := B.notSynchronized
  subst hsz
  have hD := hD0.self (sz := s.heap.size)
  generalize hAe : va_A [(x0, .inr (15, [.ref x1, .ref x8, .ref x20, .ref x39, .ref x41, .ref x43, .ref x45])), (x45, .inr (5, [.ref x46, .ref x47, .int 0, .int 0]))] s.heap.size = A at hD hE ⊢
  have hA : ∀ q : Nat, s.heap.size ≤ q → A q := fun q h => by rw [← hAe]; exact Or.inr h
  have hS : va_S A s.heap s.heap [] := va_S.rf
  have hP : va_P D vwCl [(x0, .inr (15, [.ref x1, .ref x8, .ref x20, .ref x39, .ref x41, .ref x43, .ref x45])), (x45, .inr (5, [.ref x46, .ref x47, .int 0, .int 0]))] s.heap := hP
  have hl := lv_entry ([.ref x0]) (n := 5) (Nat.le_of_ble_eq_true rfl)
  rw [lg_entry_eq]
  generalize (lg_sl ([.ref x0]) ++ List.replicate (5 - (lg_sl ([.ref x0])).length) Slot.unset).toArray = ls at hl ⊢
  have hl : lv_has ls 5 [(0, .ref x0)] := hl
  refine lv_aload_n hx hb dX10_commonest_0 rfl (lv_at hl 0 rfl) ?_
  refine wq_xv (wc := [(x0, .inr (15, [.ref x1, .ref x8, .ref x20, .ref x39, .ref x41, .ref x43, .ref x45])), (x45, .inr (5, [.ref x46, .ref x47, .int 0, .int 0]))]) (wr := []) (vx_runV (As := []) (rest := []) ⟨hx, hb, hml, hown, hts⟩ (k_X10_checkWalk l hl9 D ty td mi s.heap.size x0 x1 x8 x20 x39 x41 x43 x45 x46 x47) (cwV 0 hts gv_k_X10_commonest_0 rfl rfl rfl (by decide +kernel) ⟨(Nat.le_of_ble_eq_true rfl), (Nat.le_of_ble_eq_true rfl)⟩) (wq_preV hP hD hK hE hS hA [0, 1] rfl (by decide) 0 15 rfl rfl) rfl rfl hl.1 rfl (lv_room (Nat.le_of_ble_eq_true rfl)) dX10_commonest_1 ⟨(Nat.le_of_ble_eq_true rfl), (Nat.le_of_ble_eq_true rfl)⟩) hS hA hP hD [0, 1] [] rfl rfl (by decide) (by decide) (fun E9 u H locs q9 ce hw hP hD hS hce hcv hcl => ?_) (fun u H locs hw hP hD hS => ?_)
  · have hEq := hw
    cases hEq
    have hP : va_P D vwCl [] H := hP
    have hD : va_D A [] := hD
    refine vx_widen (k := 1) (n := 6) (Nat.le_of_ble_eq_true rfl) (Nat.le_of_ble_eq_true rfl) ?_
    exact vx_out (E := "java/lang/IllegalStateException") (fun x hx => (hEx x hx).elim) hlocks hce hcv hcl (fun t ht ha => wq_thr0 hS (by exact rfl) ht) hS.2.2 (Nat.le_refl _) (Nat.le_refl _)
  · exact hw.elim
def vs_k_X10_meanSize : List Cond := .code yX10_meanSize cX10_meanSize 3 (some .double) :: ([.methodLink RX10 312 yX10_checkWalk, .instanceMethod yX10_checkWalk, .selects RX10 yX10_checkWalk yX10_checkWalk, .initialized RX10] ++ (vs_k_X10_checkWalk))
set_option maxRecDepth 20000 in
theorem gv_k_X10_meanSize_0 : GoodIn vs_k_X10_meanSize (wsV RX10 312 RX10 yX10_checkWalk vs_k_X10_checkWalk) := goodIn_app (goodIn_sub (by decide +kernel) (by decide +kernel)) (goodIn_sub (fun _ h => List.mem_cons_of_mem _ (List.mem_append_right _ (h))) (by decide +kernel))
set_option maxHeartbeats 4000000 in
set_option maxRecDepth 100000 in
theorem k_X10_meanSize (l : Launch) (hl9 : l.stackTraces = false) (D : va_G) (ty : Nat → ClassId) (td mi sz : Nat) (x0 : Nat) (x1 : Nat) (x8 : Nat) (x20 : Nat) (x39 : Nat) (x41 : Nat) (x43 : Nat) (x45 : Nat) (x46 : Nat) (x47 : Nat) : vx_Met l yX10_meanSize vs_k_X10_meanSize { frames := 7, cells := 1, slots := 6, locals := 102 } (va_Pc [.ref x0] (wq_P D ty td mi [(x0, .inr (15, [.ref x1, .ref x8, .ref x20, .ref x39, .ref x41, .ref x43, .ref x45])), (x45, .inr (5, [.ref x46, .ref x47, .int 0, .int 0]))] sz)) (va_Qd (fun (r : UInt64) (u : va_W) => False) (wq_B D (va_A [(x0, .inr (15, [.ref x1, .ref x8, .ref x20, .ref x39, .ref x41, .ref x43, .ref x45])), (x45, .inr (5, [.ref x46, .ref x47, .int 0, .int 0]))] sz)) (va_A [(x0, .inr (15, [.ref x1, .ref x8, .ref x20, .ref x39, .ref x41, .ref x43, .ref x45])), (x45, .inr (5, [.ref x46, .ref x47, .int 0, .int 0]))] sz)) (vx_X (fun u : String × va_W => (u = ("java/lang/IllegalStateException", []))) (wq_BX D (va_A [(x0, .inr (15, [.ref x1, .ref x8, .ref x20, .ref x39, .ref x41, .ref x43, .ref x45])), (x45, .inr (5, [.ref x46, .ref x47, .int 0, .int 0]))] sz)) (va_A [(x0, .inr (15, [.ref x1, .ref x8, .ref x20, .ref x39, .ref x41, .ref x43, .ref x45])), (x45, .inr (5, [.ref x46, .ref x47, .int 0, .int 0]))] sz)) 1 6 (va_A [(x0, .inr (15, [.ref x1, .ref x8, .ref x20, .ref x39, .ref x41, .ref x43, .ref x45])), (x45, .inr (5, [.ref x46, .ref x47, .int 0, .int 0]))] sz) := by
  refine vx_ofW (cc := cX10_meanSize) (maxL := 3) (ret := (some .double)) (by decide) rfl ?_
  intro p e s m args below meth c s₁ B hml hEx hv
  obtain ⟨rfl, hsz, hP, hK, hD0, hE⟩ := hv
  have hx := B.exec
  have hb := B.bytes
  have hr := B.returns
  have hts := atoms_spec (ws := vs_k_X10_meanSize) B.pre
  have hown : s.vm.findClass RX10 = some m.cls := findClass_of_methodNamed B.named
  have hlocks := B.notSynchronized
  subst hsz
  have hD := hD0.self (sz := s.heap.size)
  generalize hAe : va_A [(x0, .inr (15, [.ref x1, .ref x8, .ref x20, .ref x39, .ref x41, .ref x43, .ref x45])), (x45, .inr (5, [.ref x46, .ref x47, .int 0, .int 0]))] s.heap.size = A at hD hE ⊢
  have hA : ∀ q : Nat, s.heap.size ≤ q → A q := fun q h => by rw [← hAe]; exact Or.inr h
  have hS : va_S A s.heap s.heap [] := va_S.rf
  have hP : va_P D vwCl [(x0, .inr (15, [.ref x1, .ref x8, .ref x20, .ref x39, .ref x41, .ref x43, .ref x45])), (x45, .inr (5, [.ref x46, .ref x47, .int 0, .int 0]))] s.heap := hP
  have hl := lv_entry ([.ref x0]) (n := 3) (Nat.le_of_ble_eq_true rfl)
  rw [lg_entry_eq]
  generalize (lg_sl ([.ref x0]) ++ List.replicate (3 - (lg_sl ([.ref x0])).length) Slot.unset).toArray = ls at hl ⊢
  have hl : lv_has ls 3 [(0, .ref x0)] := hl
  refine lv_aload_n hx hb dX10_meanSize_0 rfl (lv_at hl 0 rfl) ?_
  refine wq_xv (wc := [(x0, .inr (15, [.ref x1, .ref x8, .ref x20, .ref x39, .ref x41, .ref x43, .ref x45])), (x45, .inr (5, [.ref x46, .ref x47, .int 0, .int 0]))]) (wr := []) (vx_runV (As := []) (rest := []) ⟨hx, hb, hml, hown, hts⟩ (k_X10_checkWalk l hl9 D ty td mi s.heap.size x0 x1 x8 x20 x39 x41 x43 x45 x46 x47) (cwV 0 hts gv_k_X10_meanSize_0 rfl rfl rfl (by decide +kernel) ⟨(Nat.le_of_ble_eq_true rfl), (Nat.le_of_ble_eq_true rfl)⟩) (wq_preV hP hD hK hE hS hA [0, 1] rfl (by decide) 0 15 rfl rfl) rfl rfl hl.1 rfl (lv_room (Nat.le_of_ble_eq_true rfl)) dX10_meanSize_1 ⟨(Nat.le_of_ble_eq_true rfl), (Nat.le_of_ble_eq_true rfl)⟩) hS hA hP hD [0, 1] [] rfl rfl (by decide) (by decide) (fun E9 u H locs q9 ce hw hP hD hS hce hcv hcl => ?_) (fun u H locs hw hP hD hS => ?_)
  · have hEq := hw
    cases hEq
    have hP : va_P D vwCl [] H := hP
    have hD : va_D A [] := hD
    refine vx_widen (k := 1) (n := 6) (Nat.le_of_ble_eq_true rfl) (Nat.le_of_ble_eq_true rfl) ?_
    exact vx_out (E := "java/lang/IllegalStateException") (fun x hx => (hEx x hx).elim) hlocks hce hcv hcl (fun t ht ha => wq_thr0 hS (by exact rfl) ht) hS.2.2 (Nat.le_refl _) (Nat.le_refl _)
  · exact hw.elim
