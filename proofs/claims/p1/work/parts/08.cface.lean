theorem dX6_hasPredicate_0 : decode cX6_hasPredicate 0 = .ok (.iload_n 1, 1) := by decide +kernel
theorem dX6_hasPredicate_1 : decode cX6_hasPredicate 1 = .ok (.ifCond .lt 21, 3) := by decide +kernel
theorem dX6_hasPredicate_4 : decode cX6_hasPredicate 4 = .ok (.iload_n 1, 1) := by decide +kernel
theorem dX6_hasPredicate_5 : decode cX6_hasPredicate 5 = .ok (.aload_n 0, 1) := by decide +kernel
theorem dX6_hasPredicate_6 : decode cX6_hasPredicate 6 = .ok (.getfield 38, 3) := by decide +kernel
theorem dX6_hasPredicate_9 : decode cX6_hasPredicate 9 = .ok (.if_icmp .ge 13, 3) := by decide +kernel
theorem dX6_hasPredicate_12 : decode cX6_hasPredicate 12 = .ok (.iload_n 1, 1) := by decide +kernel
theorem dX6_hasPredicate_13 : decode cX6_hasPredicate 13 = .ok (.bipush 6, 2) := by decide +kernel
theorem dX6_hasPredicate_15 : decode cX6_hasPredicate 15 = .ok (.if_icmp .ge 7, 3) := by decide +kernel
theorem dX6_hasPredicate_18 : decode cX6_hasPredicate 18 = .ok (.iconst 1, 1) := by decide +kernel
theorem dX6_hasPredicate_19 : decode cX6_hasPredicate 19 = .ok (.goto 4, 3) := by decide +kernel
theorem dX6_hasPredicate_22 : decode cX6_hasPredicate 22 = .ok (.iconst 0, 1) := by decide +kernel
theorem dX6_hasPredicate_23 : decode cX6_hasPredicate 23 = .ok (.ireturn, 1) := by decide +kernel
theorem dX6_placesOf_0 : decode cX6_placesOf 0 = .ok (.aload_n 0, 1) := by decide +kernel
theorem dX6_placesOf_1 : decode cX6_placesOf 1 = .ok (.iload_n 1, 1) := by decide +kernel
theorem dX6_placesOf_2 : decode cX6_placesOf 2 = .ok (.invokevirtual 41, 3) := by decide +kernel
theorem dX6_placesOf_5 : decode cX6_placesOf 5 = .ok (.ifCond .eq 12, 3) := by decide +kernel
theorem dX6_placesOf_8 : decode cX6_placesOf 8 = .ok (.aload_n 0, 1) := by decide +kernel
theorem dX6_placesOf_9 : decode cX6_placesOf 9 = .ok (.getfield 9, 3) := by decide +kernel
theorem dX6_placesOf_12 : decode cX6_placesOf 12 = .ok (.iload_n 1, 1) := by decide +kernel
theorem dX6_placesOf_13 : decode cX6_placesOf 13 = .ok (.iaload, 1) := by decide +kernel
theorem dX6_placesOf_14 : decode cX6_placesOf 14 = .ok (.goto 4, 3) := by decide +kernel
theorem dX6_placesOf_17 : decode cX6_placesOf 17 = .ok (.iconst (-1), 1) := by decide +kernel
theorem dX6_placesOf_18 : decode cX6_placesOf 18 = .ok (.ireturn, 1) := by decide +kernel
theorem dX6_tellPredicate_0 : decode cX6_tellPredicate 0 = .ok (.aload_n 0, 1) := by decide +kernel
theorem dX6_tellPredicate_1 : decode cX6_tellPredicate 1 = .ok (.getfield 38, 3) := by decide +kernel
theorem dX6_tellPredicate_4 : decode cX6_tellPredicate 4 = .ok (.ifCond .lt 12, 3) := by decide +kernel
theorem dX6_tellPredicate_7 : decode cX6_tellPredicate 7 = .ok (.aload_n 0, 1) := by decide +kernel
theorem dX6_tellPredicate_8 : decode cX6_tellPredicate 8 = .ok (.getfield 38, 3) := by decide +kernel
theorem dX6_tellPredicate_11 : decode cX6_tellPredicate 11 = .ok (.bipush 6, 2) := by decide +kernel
theorem dX6_tellPredicate_13 : decode cX6_tellPredicate 13 = .ok (.if_icmp .lt 5, 3) := by decide +kernel
theorem dX6_tellPredicate_16 : decode cX6_tellPredicate 16 = .ok (.iconst (-1), 1) := by decide +kernel
theorem dX6_tellPredicate_17 : decode cX6_tellPredicate 17 = .ok (.ireturn, 1) := by decide +kernel
theorem dX6_tellPredicate_18 : decode cX6_tellPredicate 18 = .ok (.aload_n 0, 1) := by decide +kernel
theorem dX6_tellPredicate_19 : decode cX6_tellPredicate 19 = .ok (.getfield 9, 3) := by decide +kernel
theorem dX6_tellPredicate_22 : decode cX6_tellPredicate 22 = .ok (.aload_n 0, 1) := by decide +kernel
theorem dX6_tellPredicate_23 : decode cX6_tellPredicate 23 = .ok (.getfield 38, 3) := by decide +kernel
theorem dX6_tellPredicate_26 : decode cX6_tellPredicate 26 = .ok (.iload_n 1, 1) := by decide +kernel
theorem dX6_tellPredicate_27 : decode cX6_tellPredicate 27 = .ok (.iastore, 1) := by decide +kernel
theorem dX6_tellPredicate_28 : decode cX6_tellPredicate 28 = .ok (.aload_n 0, 1) := by decide +kernel
theorem dX6_tellPredicate_29 : decode cX6_tellPredicate 29 = .ok (.dup, 1) := by decide +kernel
theorem dX6_tellPredicate_30 : decode cX6_tellPredicate 30 = .ok (.getfield 38, 3) := by decide +kernel
theorem dX6_tellPredicate_33 : decode cX6_tellPredicate 33 = .ok (.dup_x1, 1) := by decide +kernel
theorem dX6_tellPredicate_34 : decode cX6_tellPredicate 34 = .ok (.iconst 1, 1) := by decide +kernel
theorem dX6_tellPredicate_35 : decode cX6_tellPredicate 35 = .ok (.iadd, 1) := by decide +kernel
theorem dX6_tellPredicate_36 : decode cX6_tellPredicate 36 = .ok (.putfield 38, 3) := by decide +kernel
theorem dX6_tellPredicate_39 : decode cX6_tellPredicate 39 = .ok (.ireturn, 1) := by decide +kernel
theorem dX6_ruleAt_0 : decode cX6_ruleAt 0 = .ok (.iload_n 1, 1) := by decide +kernel
theorem dX6_ruleAt_1 : decode cX6_ruleAt 1 = .ok (.ifCond .lt 26, 3) := by decide +kernel
theorem dX6_ruleAt_4 : decode cX6_ruleAt 4 = .ok (.iload_n 1, 1) := by decide +kernel
theorem dX6_ruleAt_5 : decode cX6_ruleAt 5 = .ok (.aload_n 0, 1) := by decide +kernel
theorem dX6_ruleAt_6 : decode cX6_ruleAt 6 = .ok (.getfield 45, 3) := by decide +kernel
theorem dX6_ruleAt_9 : decode cX6_ruleAt 9 = .ok (.if_icmp .ge 18, 3) := by decide +kernel
theorem dX6_ruleAt_12 : decode cX6_ruleAt 12 = .ok (.iload_n 1, 1) := by decide +kernel
theorem dX6_ruleAt_13 : decode cX6_ruleAt 13 = .ok (.bipush 20, 2) := by decide +kernel
theorem dX6_ruleAt_15 : decode cX6_ruleAt 15 = .ok (.if_icmp .ge 12, 3) := by decide +kernel
theorem dX6_ruleAt_18 : decode cX6_ruleAt 18 = .ok (.aload_n 0, 1) := by decide +kernel
theorem dX6_ruleAt_19 : decode cX6_ruleAt 19 = .ok (.getfield 17, 3) := by decide +kernel
theorem dX6_ruleAt_22 : decode cX6_ruleAt 22 = .ok (.iload_n 1, 1) := by decide +kernel
theorem dX6_ruleAt_23 : decode cX6_ruleAt 23 = .ok (.aaload, 1) := by decide +kernel
theorem dX6_ruleAt_24 : decode cX6_ruleAt 24 = .ok (.goto 4, 3) := by decide +kernel
theorem dX6_ruleAt_27 : decode cX6_ruleAt 27 = .ok (.aconst_null, 1) := by decide +kernel
theorem dX6_ruleAt_28 : decode cX6_ruleAt 28 = .ok (.areturn, 1) := by decide +kernel
theorem dX10_addPredicate_0 : decode cX10_addPredicate 0 = .ok (.iload_n 1, 1) := by decide +kernel
theorem dX10_addPredicate_1 : decode cX10_addPredicate 1 = .ok (.ifCond .lt 8, 3) := by decide +kernel
theorem dX10_addPredicate_4 : decode cX10_addPredicate 4 = .ok (.iload_n 1, 1) := by decide +kernel
theorem dX10_addPredicate_5 : decode cX10_addPredicate 5 = .ok (.iconst 2, 1) := by decide +kernel
theorem dX10_addPredicate_6 : decode cX10_addPredicate 6 = .ok (.if_icmp .le 13, 3) := by decide +kernel
theorem dX10_addPredicate_9 : decode cX10_addPredicate 9 = .ok (.new 60, 3) := by decide +kernel
theorem dX10_addPredicate_12 : decode cX10_addPredicate 12 = .ok (.dup, 1) := by decide +kernel
theorem dX10_addPredicate_13 : decode cX10_addPredicate 13 = .ok (.ldc 62, 2) := by decide +kernel
theorem dX10_addPredicate_15 : decode cX10_addPredicate 15 = .ok (.invokespecial 64, 3) := by decide +kernel
theorem dX10_addPredicate_18 : decode cX10_addPredicate 18 = .ok (.athrow, 1) := by decide +kernel
theorem dX10_addPredicate_19 : decode cX10_addPredicate 19 = .ok (.aload_n 0, 1) := by decide +kernel
theorem dX10_addPredicate_20 : decode cX10_addPredicate 20 = .ok (.getfield 12, 3) := by decide +kernel
theorem dX10_addPredicate_23 : decode cX10_addPredicate 23 = .ok (.getfield 67, 3) := by decide +kernel
theorem dX10_addPredicate_26 : decode cX10_addPredicate 26 = .ok (.bipush 6, 2) := by decide +kernel
theorem dX10_addPredicate_28 : decode cX10_addPredicate 28 = .ok (.if_icmp .lt 13, 3) := by decide +kernel
theorem dX10_addPredicate_31 : decode cX10_addPredicate 31 = .ok (.new 71, 3) := by decide +kernel
theorem dX10_addPredicate_34 : decode cX10_addPredicate 34 = .ok (.dup, 1) := by decide +kernel
theorem dX10_addPredicate_35 : decode cX10_addPredicate 35 = .ok (.ldc 73, 2) := by decide +kernel
theorem dX10_addPredicate_37 : decode cX10_addPredicate 37 = .ok (.invokespecial 75, 3) := by decide +kernel
theorem dX10_addPredicate_40 : decode cX10_addPredicate 40 = .ok (.athrow, 1) := by decide +kernel
theorem dX10_addPredicate_41 : decode cX10_addPredicate 41 = .ok (.aload_n 0, 1) := by decide +kernel
theorem dX10_addPredicate_42 : decode cX10_addPredicate 42 = .ok (.invokevirtual 76, 3) := by decide +kernel
theorem dX10_addPredicate_45 : decode cX10_addPredicate 45 = .ok (.aload_n 0, 1) := by decide +kernel
theorem dX10_addPredicate_46 : decode cX10_addPredicate 46 = .ok (.getfield 12, 3) := by decide +kernel
theorem dX10_addPredicate_49 : decode cX10_addPredicate 49 = .ok (.iload_n 1, 1) := by decide +kernel
theorem dX10_addPredicate_50 : decode cX10_addPredicate 50 = .ok (.invokevirtual 79, 3) := by decide +kernel
theorem dX10_addPredicate_53 : decode cX10_addPredicate 53 = .ok (.ireturn, 1) := by decide +kernel
theorem dX10_forgetGrounding_0 : decode cX10_forgetGrounding 0 = .ok (.aload_n 0, 1) := by decide +kernel
theorem dX10_forgetGrounding_1 : decode cX10_forgetGrounding 1 = .ok (.getfield 21, 3) := by decide +kernel
theorem dX10_forgetGrounding_4 : decode cX10_forgetGrounding 4 = .ok (.iconst 0, 1) := by decide +kernel
theorem dX10_forgetGrounding_5 : decode cX10_forgetGrounding 5 = .ok (.putfield 351, 3) := by decide +kernel
theorem dX10_forgetGrounding_8 : decode cX10_forgetGrounding 8 = .ok (.aload_n 0, 1) := by decide +kernel
theorem dX10_forgetGrounding_9 : decode cX10_forgetGrounding 9 = .ok (.getfield 30, 3) := by decide +kernel
theorem dX10_forgetGrounding_12 : decode cX10_forgetGrounding 12 = .ok (.iconst 0, 1) := by decide +kernel
theorem dX10_forgetGrounding_13 : decode cX10_forgetGrounding 13 = .ok (.putfield 354, 3) := by decide +kernel
theorem dX10_forgetGrounding_16 : decode cX10_forgetGrounding 16 = .ok (.aload_n 0, 1) := by decide +kernel
theorem dX10_forgetGrounding_17 : decode cX10_forgetGrounding 17 = .ok (.getfield 56, 3) := by decide +kernel
theorem dX10_forgetGrounding_20 : decode cX10_forgetGrounding 20 = .ok (.iconst 0, 1) := by decide +kernel
theorem dX10_forgetGrounding_21 : decode cX10_forgetGrounding 21 = .ok (.putfield 235, 3) := by decide +kernel
theorem dX10_forgetGrounding_24 : decode cX10_forgetGrounding 24 = .ok (.return_, 1) := by decide +kernel
theorem dX10_checkPart_0 : decode cX10_checkPart 0 = .ok (.iload_n 1, 1) := by decide +kernel
theorem dX10_checkPart_1 : decode cX10_checkPart 1 = .ok (.ifCond .lt 8, 3) := by decide +kernel
theorem dX10_checkPart_4 : decode cX10_checkPart 4 = .ok (.iload_n 1, 1) := by decide +kernel
theorem dX10_checkPart_5 : decode cX10_checkPart 5 = .ok (.iconst 3, 1) := by decide +kernel
theorem dX10_checkPart_6 : decode cX10_checkPart 6 = .ok (.if_icmp .le 14, 3) := by decide +kernel
theorem dX10_checkPart_9 : decode cX10_checkPart 9 = .ok (.new 60, 3) := by decide +kernel
theorem dX10_checkPart_12 : decode cX10_checkPart 12 = .ok (.dup, 1) := by decide +kernel
theorem dX10_checkPart_13 : decode cX10_checkPart 13 = .ok (.ldc_w 357, 3) := by decide +kernel
theorem dX10_checkPart_16 : decode cX10_checkPart 16 = .ok (.invokespecial 64, 3) := by decide +kernel
theorem dX10_checkPart_19 : decode cX10_checkPart 19 = .ok (.athrow, 1) := by decide +kernel
theorem dX10_checkPart_20 : decode cX10_checkPart 20 = .ok (.return_, 1) := by decide +kernel
theorem dX10_checkLevel_0 : decode cX10_checkLevel 0 = .ok (.iload_n 1, 1) := by decide +kernel
theorem dX10_checkLevel_1 : decode cX10_checkLevel 1 = .ok (.iconst 1, 1) := by decide +kernel
theorem dX10_checkLevel_2 : decode cX10_checkLevel 2 = .ok (.if_icmp .lt 8, 3) := by decide +kernel
theorem dX10_checkLevel_5 : decode cX10_checkLevel 5 = .ok (.iload_n 1, 1) := by decide +kernel
theorem dX10_checkLevel_6 : decode cX10_checkLevel 6 = .ok (.iconst 3, 1) := by decide +kernel
theorem dX10_checkLevel_7 : decode cX10_checkLevel 7 = .ok (.if_icmp .le 14, 3) := by decide +kernel
theorem dX10_checkLevel_10 : decode cX10_checkLevel 10 = .ok (.new 60, 3) := by decide +kernel
theorem dX10_checkLevel_13 : decode cX10_checkLevel 13 = .ok (.dup, 1) := by decide +kernel
theorem dX10_checkLevel_14 : decode cX10_checkLevel 14 = .ok (.ldc_w 359, 3) := by decide +kernel
theorem dX10_checkLevel_17 : decode cX10_checkLevel 17 = .ok (.invokespecial 64, 3) := by decide +kernel
theorem dX10_checkLevel_20 : decode cX10_checkLevel 20 = .ok (.athrow, 1) := by decide +kernel
theorem dX10_checkLevel_21 : decode cX10_checkLevel 21 = .ok (.return_, 1) := by decide +kernel
theorem dX10_checkRoomForRule_0 : decode cX10_checkRoomForRule 0 = .ok (.aload_n 0, 1) := by decide +kernel
theorem dX10_checkRoomForRule_1 : decode cX10_checkRoomForRule 1 = .ok (.getfield 12, 3) := by decide +kernel
theorem dX10_checkRoomForRule_4 : decode cX10_checkRoomForRule 4 = .ok (.getfield 361, 3) := by decide +kernel
theorem dX10_checkRoomForRule_7 : decode cX10_checkRoomForRule 7 = .ok (.bipush 20, 2) := by decide +kernel
theorem dX10_checkRoomForRule_9 : decode cX10_checkRoomForRule 9 = .ok (.if_icmp .lt 14, 3) := by decide +kernel
theorem dX10_checkRoomForRule_12 : decode cX10_checkRoomForRule 12 = .ok (.new 71, 3) := by decide +kernel
theorem dX10_checkRoomForRule_15 : decode cX10_checkRoomForRule 15 = .ok (.dup, 1) := by decide +kernel
theorem dX10_checkRoomForRule_16 : decode cX10_checkRoomForRule 16 = .ok (.ldc_w 364, 3) := by decide +kernel
theorem dX10_checkRoomForRule_19 : decode cX10_checkRoomForRule 19 = .ok (.invokespecial 75, 3) := by decide +kernel
theorem dX10_checkRoomForRule_22 : decode cX10_checkRoomForRule 22 = .ok (.athrow, 1) := by decide +kernel
theorem dX10_checkRoomForRule_23 : decode cX10_checkRoomForRule 23 = .ok (.return_, 1) := by decide +kernel
theorem dX10_checkWalk_0 : decode cX10_checkWalk 0 = .ok (.aload_n 0, 1) := by decide +kernel
theorem dX10_checkWalk_1 : decode cX10_checkWalk 1 = .ok (.getfield 56, 3) := by decide +kernel
theorem dX10_checkWalk_4 : decode cX10_checkWalk 4 = .ok (.getfield 235, 3) := by decide +kernel
theorem dX10_checkWalk_7 : decode cX10_checkWalk 7 = .ok (.ifCond .ne 14, 3) := by decide +kernel
theorem dX10_checkWalk_10 : decode cX10_checkWalk 10 = .ok (.new 71, 3) := by decide +kernel
theorem dX10_checkWalk_13 : decode cX10_checkWalk 13 = .ok (.dup, 1) := by decide +kernel
theorem dX10_checkWalk_14 : decode cX10_checkWalk 14 = .ok (.ldc_w 371, 3) := by decide +kernel
theorem dX10_checkWalk_17 : decode cX10_checkWalk 17 = .ok (.invokespecial 75, 3) := by decide +kernel
theorem dX10_checkWalk_20 : decode cX10_checkWalk 20 = .ok (.athrow, 1) := by decide +kernel
theorem dX10_checkWalk_21 : decode cX10_checkWalk 21 = .ok (.return_, 1) := by decide +kernel
theorem dX10_checkedAnswer_0 : decode cX10_checkedAnswer 0 = .ok (.aload_n 0, 1) := by decide +kernel
theorem dX10_checkedAnswer_1 : decode cX10_checkedAnswer 1 = .ok (.invokevirtual 312, 3) := by decide +kernel
theorem dX10_checkedAnswer_4 : decode cX10_checkedAnswer 4 = .ok (.iload_n 1, 1) := by decide +kernel
theorem dX10_checkedAnswer_5 : decode cX10_checkedAnswer 5 = .ok (.ifCond .lt 14, 3) := by decide +kernel
theorem dX10_checkedAnswer_8 : decode cX10_checkedAnswer 8 = .ok (.iload_n 1, 1) := by decide +kernel
theorem dX10_checkedAnswer_9 : decode cX10_checkedAnswer 9 = .ok (.aload_n 0, 1) := by decide +kernel
theorem dX10_checkedAnswer_10 : decode cX10_checkedAnswer 10 = .ok (.getfield 56, 3) := by decide +kernel
theorem dX10_checkedAnswer_13 : decode cX10_checkedAnswer 13 = .ok (.getfield 280, 3) := by decide +kernel
theorem dX10_checkedAnswer_16 : decode cX10_checkedAnswer 16 = .ok (.if_icmp .lt 14, 3) := by decide +kernel
theorem dX10_checkedAnswer_19 : decode cX10_checkedAnswer 19 = .ok (.new 134, 3) := by decide +kernel
theorem dX10_checkedAnswer_22 : decode cX10_checkedAnswer 22 = .ok (.dup, 1) := by decide +kernel
theorem dX10_checkedAnswer_23 : decode cX10_checkedAnswer 23 = .ok (.ldc_w 373, 3) := by decide +kernel
theorem dX10_checkedAnswer_26 : decode cX10_checkedAnswer 26 = .ok (.invokespecial 138, 3) := by decide +kernel
theorem dX10_checkedAnswer_29 : decode cX10_checkedAnswer 29 = .ok (.athrow, 1) := by decide +kernel
theorem dX10_checkedAnswer_30 : decode cX10_checkedAnswer 30 = .ok (.aload_n 0, 1) := by decide +kernel
theorem dX10_checkedAnswer_31 : decode cX10_checkedAnswer 31 = .ok (.getfield 56, 3) := by decide +kernel
theorem dX10_checkedAnswer_34 : decode cX10_checkedAnswer 34 = .ok (.iload_n 1, 1) := by decide +kernel
theorem dX10_checkedAnswer_35 : decode cX10_checkedAnswer 35 = .ok (.invokevirtual 348, 3) := by decide +kernel
theorem dX10_checkedAnswer_38 : decode cX10_checkedAnswer 38 = .ok (.ireturn, 1) := by decide +kernel
theorem dX10_checkedAtom_0 : decode cX10_checkedAtom 0 = .ok (.aload_n 0, 1) := by decide +kernel
theorem dX10_checkedAtom_1 : decode cX10_checkedAtom 1 = .ok (.getfield 12, 3) := by decide +kernel
theorem dX10_checkedAtom_4 : decode cX10_checkedAtom 4 = .ok (.iload_n 1, 1) := by decide +kernel
theorem dX10_checkedAtom_5 : decode cX10_checkedAtom 5 = .ok (.invokevirtual 130, 3) := by decide +kernel
theorem dX10_checkedAtom_8 : decode cX10_checkedAtom 8 = .ok (.ifCond .ne 14, 3) := by decide +kernel
theorem dX10_checkedAtom_11 : decode cX10_checkedAtom 11 = .ok (.new 134, 3) := by decide +kernel
theorem dX10_checkedAtom_14 : decode cX10_checkedAtom 14 = .ok (.dup, 1) := by decide +kernel
theorem dX10_checkedAtom_15 : decode cX10_checkedAtom 15 = .ok (.ldc_w 318, 3) := by decide +kernel
theorem dX10_checkedAtom_18 : decode cX10_checkedAtom 18 = .ok (.invokespecial 138, 3) := by decide +kernel
theorem dX10_checkedAtom_21 : decode cX10_checkedAtom 21 = .ok (.athrow, 1) := by decide +kernel
theorem dX10_checkedAtom_22 : decode cX10_checkedAtom 22 = .ok (.aload_n 0, 1) := by decide +kernel
theorem dX10_checkedAtom_23 : decode cX10_checkedAtom 23 = .ok (.getfield 12, 3) := by decide +kernel
theorem dX10_checkedAtom_26 : decode cX10_checkedAtom 26 = .ok (.iload_n 1, 1) := by decide +kernel
theorem dX10_checkedAtom_27 : decode cX10_checkedAtom 27 = .ok (.invokevirtual 101, 3) := by decide +kernel
theorem dX10_checkedAtom_30 : decode cX10_checkedAtom 30 = .ok (.istore 4, 2) := by decide +kernel
theorem dX10_checkedAtom_32 : decode cX10_checkedAtom 32 = .ok (.iload 4, 2) := by decide +kernel
theorem dX10_checkedAtom_34 : decode cX10_checkedAtom 34 = .ok (.ifCond .le 10, 3) := by decide +kernel
theorem dX10_checkedAtom_37 : decode cX10_checkedAtom 37 = .ok (.iload_n 2, 1) := by decide +kernel
theorem dX10_checkedAtom_38 : decode cX10_checkedAtom 38 = .ok (.invokestatic 187, 3) := by decide +kernel
theorem dX10_checkedAtom_41 : decode cX10_checkedAtom 41 = .ok (.ifCond .eq 16, 3) := by decide +kernel
theorem dX10_checkedAtom_44 : decode cX10_checkedAtom 44 = .ok (.iload 4, 2) := by decide +kernel
theorem dX10_checkedAtom_46 : decode cX10_checkedAtom 46 = .ok (.iconst 1, 1) := by decide +kernel
theorem dX10_checkedAtom_47 : decode cX10_checkedAtom 47 = .ok (.if_icmp .le 21, 3) := by decide +kernel
theorem dX10_checkedAtom_50 : decode cX10_checkedAtom 50 = .ok (.iload_n 3, 1) := by decide +kernel
theorem dX10_checkedAtom_51 : decode cX10_checkedAtom 51 = .ok (.invokestatic 187, 3) := by decide +kernel
theorem dX10_checkedAtom_54 : decode cX10_checkedAtom 54 = .ok (.ifCond .ne 14, 3) := by decide +kernel
theorem dX10_checkedAtom_57 : decode cX10_checkedAtom 57 = .ok (.new 60, 3) := by decide +kernel
theorem dX10_checkedAtom_60 : decode cX10_checkedAtom 60 = .ok (.dup, 1) := by decide +kernel
theorem dX10_checkedAtom_61 : decode cX10_checkedAtom 61 = .ok (.ldc_w 375, 3) := by decide +kernel
theorem dX10_checkedAtom_64 : decode cX10_checkedAtom 64 = .ok (.invokespecial 64, 3) := by decide +kernel
theorem dX10_checkedAtom_67 : decode cX10_checkedAtom 67 = .ok (.athrow, 1) := by decide +kernel
theorem dX10_checkedAtom_68 : decode cX10_checkedAtom 68 = .ok (.iload_n 1, 1) := by decide +kernel
theorem dX10_checkedAtom_69 : decode cX10_checkedAtom 69 = .ok (.bipush 64, 2) := by decide +kernel
theorem dX10_checkedAtom_71 : decode cX10_checkedAtom 71 = .ok (.imul, 1) := by decide +kernel
theorem dX10_checkedAtom_72 : decode cX10_checkedAtom 72 = .ok (.iload 4, 2) := by decide +kernel
theorem dX10_checkedAtom_74 : decode cX10_checkedAtom 74 = .ok (.ifCond .le 7, 3) := by decide +kernel
theorem dX10_checkedAtom_77 : decode cX10_checkedAtom 77 = .ok (.iload_n 2, 1) := by decide +kernel
theorem dX10_checkedAtom_78 : decode cX10_checkedAtom 78 = .ok (.goto 4, 3) := by decide +kernel
theorem dX10_checkedAtom_81 : decode cX10_checkedAtom 81 = .ok (.iconst 0, 1) := by decide +kernel
theorem dX10_checkedAtom_82 : decode cX10_checkedAtom 82 = .ok (.bipush 8, 2) := by decide +kernel
theorem dX10_checkedAtom_84 : decode cX10_checkedAtom 84 = .ok (.imul, 1) := by decide +kernel
theorem dX10_checkedAtom_85 : decode cX10_checkedAtom 85 = .ok (.iadd, 1) := by decide +kernel
theorem dX10_checkedAtom_86 : decode cX10_checkedAtom 86 = .ok (.iload 4, 2) := by decide +kernel
theorem dX10_checkedAtom_88 : decode cX10_checkedAtom 88 = .ok (.iconst 1, 1) := by decide +kernel
theorem dX10_checkedAtom_89 : decode cX10_checkedAtom 89 = .ok (.if_icmp .le 7, 3) := by decide +kernel
theorem dX10_checkedAtom_92 : decode cX10_checkedAtom 92 = .ok (.iload_n 3, 1) := by decide +kernel
theorem dX10_checkedAtom_93 : decode cX10_checkedAtom 93 = .ok (.goto 4, 3) := by decide +kernel
theorem dX10_checkedAtom_96 : decode cX10_checkedAtom 96 = .ok (.iconst 0, 1) := by decide +kernel
theorem dX10_checkedAtom_97 : decode cX10_checkedAtom 97 = .ok (.iadd, 1) := by decide +kernel
theorem dX10_checkedAtom_98 : decode cX10_checkedAtom 98 = .ok (.ireturn, 1) := by decide +kernel
theorem dX10_isValue_0 : decode cX10_isValue 0 = .ok (.iload_n 0, 1) := by decide +kernel
theorem dX10_isValue_1 : decode cX10_isValue 1 = .ok (.ifCond .lt 13, 3) := by decide +kernel
theorem dX10_isValue_4 : decode cX10_isValue 4 = .ok (.iload_n 0, 1) := by decide +kernel
theorem dX10_isValue_5 : decode cX10_isValue 5 = .ok (.bipush 8, 2) := by decide +kernel
theorem dX10_isValue_7 : decode cX10_isValue 7 = .ok (.if_icmp .ge 7, 3) := by decide +kernel
theorem dX10_isValue_10 : decode cX10_isValue 10 = .ok (.iconst 1, 1) := by decide +kernel
theorem dX10_isValue_11 : decode cX10_isValue 11 = .ok (.goto 4, 3) := by decide +kernel
theorem dX10_isValue_14 : decode cX10_isValue 14 = .ok (.iconst 0, 1) := by decide +kernel
theorem dX10_isValue_15 : decode cX10_isValue 15 = .ok (.ireturn, 1) := by decide +kernel
def vs_k_X6_hasPredicate : List Cond := .code yX6_hasPredicate cX6_hasPredicate 2 (some .boolean) :: ([.fieldLink RX6 38 "AnswerFold$Program" "predicateCount" "I"] ++ (u_ws RX6 TX6 10))
theorem iv_k_X6_hasPredicate_X6 : ∀ w ∈ u_ws RX6 TX6 10, w ∈ vs_k_X6_hasPredicate := (fun _ h => List.mem_cons_of_mem _ (List.mem_append_right _ (h)))
set_option maxHeartbeats 4000000 in
set_option maxRecDepth 100000 in
theorem k_X6_hasPredicate (l : Launch) (D : va_G) (ty : Nat → ClassId) (td mi sz : Nat) (x1 : Nat) (x2 : Nat) (x3 : Nat) (x4 : Nat) (x5 : Nat) (x6 : Nat) (x7 : Nat) (k1 : Int32) : Met l yX6_hasPredicate vs_k_X6_hasPredicate { frames := 0, cells := 0, slots := 0, locals := 0 } (va_Pc [.ref x1, .int k1] (wq_P D ty td mi [(x1, .inr (11, [.ref x2, .int 0, .ref x3, .int 0, .ref x4, .ref x5, .int 1, .ref x6, .ref x7, .int 0]))] sz)) (va_Qi (fun (r : Int32) (u : va_W) => (r = 0 ∧ (u = [(x1, .inr (11, [.ref x2, .int 0, .ref x3, .int 0, .ref x4, .ref x5, .int 1, .ref x6, .ref x7, .int 0]))]))) (wq_B D (va_A [(x1, .inr (11, [.ref x2, .int 0, .ref x3, .int 0, .ref x4, .ref x5, .int 1, .ref x6, .ref x7, .int 0]))] sz)) (va_A [(x1, .inr (11, [.ref x2, .int 0, .ref x3, .int 0, .ref x4, .ref x5, .int 1, .ref x6, .ref x7, .int 0]))] sz)) 0 0 (va_A [(x1, .inr (11, [.ref x2, .int 0, .ref x3, .int 0, .ref x4, .ref x5, .int 1, .ref x6, .ref x7, .int 0]))] sz) := by
  refine Met.ofW (cc := cX6_hasPredicate) (maxL := 2) (ret := (some .boolean)) (by decide) rfl ?_
  intro p e s m args below meth c s₁ B hml hv
  obtain ⟨rfl, hsz, hP, hK, hD0, hE⟩ := hv
  have hx := B.exec
  have hb := B.bytes
  have hr := B.returns
  have hts := atoms_spec (ws := vs_k_X6_hasPredicate) B.pre
  have hown : s.vm.findClass RX6 = some m.cls := findClass_of_methodNamed B.named
  have hlocks := B.notSynchronized
  subst hsz
  have hD := hD0.self (sz := s.heap.size)
  generalize hAe : va_A [(x1, .inr (11, [.ref x2, .int 0, .ref x3, .int 0, .ref x4, .ref x5, .int 1, .ref x6, .ref x7, .int 0]))] s.heap.size = A at hD hE ⊢
  have hA : ∀ q : Nat, s.heap.size ≤ q → A q := fun q h => by rw [← hAe]; exact Or.inr h
  have hS : va_S A s.heap s.heap [] := va_S.rf
  have hP : va_P D vwCl [(x1, .inr (11, [.ref x2, .int 0, .ref x3, .int 0, .ref x4, .ref x5, .int 1, .ref x6, .ref x7, .int 0]))] s.heap := hP
  have hl := lv_entry ([.ref x1, .int k1]) (n := 2) (Nat.le_of_ble_eq_true rfl)
  rw [lg_entry_eq]
  generalize (lg_sl ([.ref x1, .int k1]) ++ List.replicate (2 - (lg_sl ([.ref x1, .int k1])).length) Slot.unset).toArray = ls at hl ⊢
  have hl : lv_has ls 2 [(0, .ref x1), (1, .int k1)] := hl
  refine lv_iload_n hx hb dX6_hasPredicate_0 rfl (lv_at hl 1 rfl) ?_
  refine lv_if_lt (tgt := 22) hx hb dX6_hasPredicate_1 (by decide) (fun c_1 => ?_) (fun c_1 => ?_)
  · refine lv_iconst (v := 0) hx hb dX6_hasPredicate_22 (by decide) ?_
    have hP9 := hP.sub (ws' := [(x1, .inr (11, [.ref x2, .int 0, .ref x3, .int 0, .ref x4, .ref x5, .int 1, .ref x6, .ref x7, .int 0]))]) [0] rfl
    have hD9 := hD.sub (ws' := [(x1, .inr (11, [.ref x2, .int 0, .ref x3, .int 0, .ref x4, .ref x5, .int 1, .ref x6, .ref x7, .int 0]))]) [0] (by decide) rfl
    refine W.widen (k := 0) (n := 0) (Nat.le_of_ble_eq_true rfl) (Nat.le_of_ble_eq_true rfl) ?_
    exact W.zret (v := 0) hx hb hr rfl (fun t ht hW => ⟨⟨0, [(x1, .inr (11, [.ref x2, .int 0, .ref x3, .int 0, .ref x4, .ref x5, .int 1, .ref x6, .ref x7, .int 0]))], rfl, ⟨rfl, rfl⟩, wq_B.of ht hP9 hD9⟩, hS.F ht⟩) hS.2.2 dX6_hasPredicate_23
  · refine lv_iload_n hx hb dX6_hasPredicate_4 rfl (lv_at hl 1 rfl) ?_
    refine lv_aload_n hx hb dX6_hasPredicate_5 rfl (lv_at hl 0 rfl) ?_
    refine va_get (D := D) (ci := 11) (v := .int 0) (C := RX6) (T := TX6) (N := 10) hx hb hts iv_k_X6_hasPredicate_X6 hown hK hP 0 rfl rfl 1 (by decide) (hts (.fieldLink RX6 38 "AnswerFold$Program" "predicateCount" "I") (by decide +kernel)) (fun _ h9 => h9) rfl dX6_hasPredicate_6 ?_
    refine lv_icmp_ge (tgt := 22) hx hb dX6_hasPredicate_9 (by decide) (fun _ => ?_) (fun c0 => absurd (Int32.not_lt.mp c_1) c0)
    refine lv_iconst (v := 0) hx hb dX6_hasPredicate_22 (by decide) ?_
    have hP9 := hP.sub (ws' := [(x1, .inr (11, [.ref x2, .int 0, .ref x3, .int 0, .ref x4, .ref x5, .int 1, .ref x6, .ref x7, .int 0]))]) [0] rfl
    have hD9 := hD.sub (ws' := [(x1, .inr (11, [.ref x2, .int 0, .ref x3, .int 0, .ref x4, .ref x5, .int 1, .ref x6, .ref x7, .int 0]))]) [0] (by decide) rfl
    refine W.widen (k := 0) (n := 0) (Nat.le_of_ble_eq_true rfl) (Nat.le_of_ble_eq_true rfl) ?_
    exact W.zret (v := 0) hx hb hr rfl (fun t ht hW => ⟨⟨0, [(x1, .inr (11, [.ref x2, .int 0, .ref x3, .int 0, .ref x4, .ref x5, .int 1, .ref x6, .ref x7, .int 0]))], rfl, ⟨rfl, rfl⟩, wq_B.of ht hP9 hD9⟩, hS.F ht⟩) hS.2.2 dX6_hasPredicate_23
def vs_k_X6_placesOf : List Cond := .code yX6_placesOf cX6_placesOf 2 (some .int) :: ([.methodLink RX6 41 yX6_hasPredicate, .instanceMethod yX6_hasPredicate, .selects RX6 yX6_hasPredicate yX6_hasPredicate, .initialized RX6] ++ (vs_k_X6_hasPredicate))
set_option maxRecDepth 20000 in
theorem gv_k_X6_placesOf_0 : GoodIn vs_k_X6_placesOf (wsV RX6 41 RX6 yX6_hasPredicate vs_k_X6_hasPredicate) := goodIn_app (goodIn_sub (by decide +kernel) (by decide +kernel)) (goodIn_sub (fun _ h => List.mem_cons_of_mem _ (List.mem_append_right _ (h))) (by decide +kernel))
set_option maxHeartbeats 4000000 in
set_option maxRecDepth 100000 in
theorem k_X6_placesOf (l : Launch) (D : va_G) (ty : Nat → ClassId) (td mi sz : Nat) (x1 : Nat) (x2 : Nat) (x3 : Nat) (x4 : Nat) (x5 : Nat) (x6 : Nat) (x7 : Nat) (k1 : Int32) : Met l yX6_placesOf vs_k_X6_placesOf { frames := 1, cells := 0, slots := 0, locals := 21 } (va_Pc [.ref x1, .int k1] (wq_P D ty td mi [(x1, .inr (11, [.ref x2, .int 0, .ref x3, .int 0, .ref x4, .ref x5, .int 1, .ref x6, .ref x7, .int 0]))] sz)) (va_Qi (fun (r : Int32) (u : va_W) => (r = (-1) ∧ (u = [(x1, .inr (11, [.ref x2, .int 0, .ref x3, .int 0, .ref x4, .ref x5, .int 1, .ref x6, .ref x7, .int 0]))]))) (wq_B D (va_A [(x1, .inr (11, [.ref x2, .int 0, .ref x3, .int 0, .ref x4, .ref x5, .int 1, .ref x6, .ref x7, .int 0]))] sz)) (va_A [(x1, .inr (11, [.ref x2, .int 0, .ref x3, .int 0, .ref x4, .ref x5, .int 1, .ref x6, .ref x7, .int 0]))] sz)) 0 0 (va_A [(x1, .inr (11, [.ref x2, .int 0, .ref x3, .int 0, .ref x4, .ref x5, .int 1, .ref x6, .ref x7, .int 0]))] sz) := by
  refine Met.ofW (cc := cX6_placesOf) (maxL := 2) (ret := (some .int)) (by decide) rfl ?_
  intro p e s m args below meth c s₁ B hml hv
  obtain ⟨rfl, hsz, hP, hK, hD0, hE⟩ := hv
  have hx := B.exec
  have hb := B.bytes
  have hr := B.returns
  have hts := atoms_spec (ws := vs_k_X6_placesOf) B.pre
  have hown : s.vm.findClass RX6 = some m.cls := findClass_of_methodNamed B.named
  have hlocks := B.notSynchronized
  subst hsz
  have hD := hD0.self (sz := s.heap.size)
  generalize hAe : va_A [(x1, .inr (11, [.ref x2, .int 0, .ref x3, .int 0, .ref x4, .ref x5, .int 1, .ref x6, .ref x7, .int 0]))] s.heap.size = A at hD hE ⊢
  have hA : ∀ q : Nat, s.heap.size ≤ q → A q := fun q h => by rw [← hAe]; exact Or.inr h
  have hS : va_S A s.heap s.heap [] := va_S.rf
  have hP : va_P D vwCl [(x1, .inr (11, [.ref x2, .int 0, .ref x3, .int 0, .ref x4, .ref x5, .int 1, .ref x6, .ref x7, .int 0]))] s.heap := hP
  have hl := lv_entry ([.ref x1, .int k1]) (n := 2) (Nat.le_of_ble_eq_true rfl)
  rw [lg_entry_eq]
  generalize (lg_sl ([.ref x1, .int k1]) ++ List.replicate (2 - (lg_sl ([.ref x1, .int k1])).length) Slot.unset).toArray = ls at hl ⊢
  have hl : lv_has ls 2 [(0, .ref x1), (1, .int k1)] := hl
  refine lv_aload_n hx hb dX6_placesOf_0 rfl (lv_at hl 0 rfl) ?_
  refine lv_iload_n hx hb dX6_placesOf_1 rfl (lv_at hl 1 rfl) ?_
  refine wq_i (wc := [(x1, .inr (11, [.ref x2, .int 0, .ref x3, .int 0, .ref x4, .ref x5, .int 1, .ref x6, .ref x7, .int 0]))]) (wr := []) (va_runV (As := [.int k1]) (rest := []) ⟨hx, hb, hml, hown, hts⟩ (k_X6_hasPredicate l D ty td mi s.heap.size x1 x2 x3 x4 x5 x6 x7 k1) (cwV 1 hts gv_k_X6_placesOf_0 rfl rfl rfl (by decide +kernel) ⟨(Nat.le_of_ble_eq_true rfl), (Nat.le_of_ble_eq_true rfl)⟩) (wq_preV hP hD hK hE hS hA [0] rfl (by decide) 0 11 rfl rfl) rfl rfl hl.1 rfl (lv_room (Nat.le_of_ble_eq_true rfl)) dX6_placesOf_2 ⟨(Nat.le_of_ble_eq_true rfl), (Nat.le_of_ble_eq_true rfl)⟩) hS hA hP hD [0] [] rfl rfl (by decide) (by decide) (fun r u H locs hw hP hD hS => ?_)
  obtain ⟨rfl, rfl⟩ := hw
  have hP : va_P D vwCl [(x1, .inr (11, [.ref x2, .int 0, .ref x3, .int 0, .ref x4, .ref x5, .int 1, .ref x6, .ref x7, .int 0]))] H := hP
  have hD : va_D A [(x1, .inr (11, [.ref x2, .int 0, .ref x3, .int 0, .ref x4, .ref x5, .int 1, .ref x6, .ref x7, .int 0]))] := hD
  refine W.widen (k := 0) (n := 0) (Nat.le_of_ble_eq_true rfl) (Nat.le_of_ble_eq_true rfl) ?_
  refine lv_if_eq (tgt := 17) hx hb dX6_placesOf_5 (by decide) (fun _ => ?_) (fun c0 => absurd (by decide) c0)
  refine lv_iconst (v := (-1)) hx hb dX6_placesOf_17 (by decide) ?_
  have hP9 := hP.sub (ws' := [(x1, .inr (11, [.ref x2, .int 0, .ref x3, .int 0, .ref x4, .ref x5, .int 1, .ref x6, .ref x7, .int 0]))]) [0] rfl
  have hD9 := hD.sub (ws' := [(x1, .inr (11, [.ref x2, .int 0, .ref x3, .int 0, .ref x4, .ref x5, .int 1, .ref x6, .ref x7, .int 0]))]) [0] (by decide) rfl
  refine W.widen (k := 0) (n := 0) (Nat.le_of_ble_eq_true rfl) (Nat.le_of_ble_eq_true rfl) ?_
  exact W.iret (v := (-1)) hx hb hr (fun t ht hW => ⟨⟨(-1), [(x1, .inr (11, [.ref x2, .int 0, .ref x3, .int 0, .ref x4, .ref x5, .int 1, .ref x6, .ref x7, .int 0]))], rfl, ⟨rfl, rfl⟩, wq_B.of ht hP9 hD9⟩, hS.F ht⟩) hS.2.2 dX6_placesOf_18
def vs_k_X6_ruleAt : List Cond := .code yX6_ruleAt cX6_ruleAt 2 (some (.object "AnswerFold$Rule")) :: ([.fieldLink RX6 45 "AnswerFold$Program" "ruleCount" "I"] ++ (u_ws RX6 TX6 10))
theorem iv_k_X6_ruleAt_X6 : ∀ w ∈ u_ws RX6 TX6 10, w ∈ vs_k_X6_ruleAt := (fun _ h => List.mem_cons_of_mem _ (List.mem_append_right _ (h)))
set_option maxHeartbeats 4000000 in
set_option maxRecDepth 100000 in
theorem k_X6_ruleAt (l : Launch) (D : va_G) (ty : Nat → ClassId) (td mi sz : Nat) (x1 : Nat) (x2 : Nat) (x3 : Nat) (x4 : Nat) (x5 : Nat) (x6 : Nat) (x7 : Nat) (k1 : Int32) : Met l yX6_ruleAt vs_k_X6_ruleAt { frames := 0, cells := 0, slots := 0, locals := 0 } (va_Pc [.ref x1, .int k1] (wq_P D ty td mi [(x1, .inr (11, [.ref x2, .int 0, .ref x3, .int 0, .ref x4, .ref x5, .int 1, .ref x6, .ref x7, .int 0]))] sz)) (wq_Qr (fun (r : Value) (u : va_W) => (r = .null ∧ (u = [(x1, .inr (11, [.ref x2, .int 0, .ref x3, .int 0, .ref x4, .ref x5, .int 1, .ref x6, .ref x7, .int 0]))]))) (wq_B D (va_A [(x1, .inr (11, [.ref x2, .int 0, .ref x3, .int 0, .ref x4, .ref x5, .int 1, .ref x6, .ref x7, .int 0]))] sz)) (va_A [(x1, .inr (11, [.ref x2, .int 0, .ref x3, .int 0, .ref x4, .ref x5, .int 1, .ref x6, .ref x7, .int 0]))] sz)) 0 0 (va_A [(x1, .inr (11, [.ref x2, .int 0, .ref x3, .int 0, .ref x4, .ref x5, .int 1, .ref x6, .ref x7, .int 0]))] sz) := by
  refine Met.ofW (cc := cX6_ruleAt) (maxL := 2) (ret := (some (.object "AnswerFold$Rule"))) (by decide) rfl ?_
  intro p e s m args below meth c s₁ B hml hv
  obtain ⟨rfl, hsz, hP, hK, hD0, hE⟩ := hv
  have hx := B.exec
  have hb := B.bytes
  have hr := B.returns
  have hts := atoms_spec (ws := vs_k_X6_ruleAt) B.pre
  have hown : s.vm.findClass RX6 = some m.cls := findClass_of_methodNamed B.named
  have hlocks := B.notSynchronized
  subst hsz
  have hD := hD0.self (sz := s.heap.size)
  generalize hAe : va_A [(x1, .inr (11, [.ref x2, .int 0, .ref x3, .int 0, .ref x4, .ref x5, .int 1, .ref x6, .ref x7, .int 0]))] s.heap.size = A at hD hE ⊢
  have hA : ∀ q : Nat, s.heap.size ≤ q → A q := fun q h => by rw [← hAe]; exact Or.inr h
  have hS : va_S A s.heap s.heap [] := va_S.rf
  have hP : va_P D vwCl [(x1, .inr (11, [.ref x2, .int 0, .ref x3, .int 0, .ref x4, .ref x5, .int 1, .ref x6, .ref x7, .int 0]))] s.heap := hP
  have hl := lv_entry ([.ref x1, .int k1]) (n := 2) (Nat.le_of_ble_eq_true rfl)
  rw [lg_entry_eq]
  generalize (lg_sl ([.ref x1, .int k1]) ++ List.replicate (2 - (lg_sl ([.ref x1, .int k1])).length) Slot.unset).toArray = ls at hl ⊢
  have hl : lv_has ls 2 [(0, .ref x1), (1, .int k1)] := hl
  refine lv_iload_n hx hb dX6_ruleAt_0 rfl (lv_at hl 1 rfl) ?_
  refine lv_if_lt (tgt := 27) hx hb dX6_ruleAt_1 (by decide) (fun c_1 => ?_) (fun c_1 => ?_)
  · refine lv_null hx hb dX6_ruleAt_27 ?_
    have hP9 := hP.sub (ws' := [(x1, .inr (11, [.ref x2, .int 0, .ref x3, .int 0, .ref x4, .ref x5, .int 1, .ref x6, .ref x7, .int 0]))]) [0] rfl
    have hD9 := hD.sub (ws' := [(x1, .inr (11, [.ref x2, .int 0, .ref x3, .int 0, .ref x4, .ref x5, .int 1, .ref x6, .ref x7, .int 0]))]) [0] (by decide) rfl
    refine W.widen (k := 0) (n := 0) (Nat.le_of_ble_eq_true rfl) (Nat.le_of_ble_eq_true rfl) ?_
    exact W.aret (v := .null) hx hb hr (Or.inl ⟨_, rfl⟩) (Or.inl rfl) (fun t ht hW => ⟨⟨.null, [(x1, .inr (11, [.ref x2, .int 0, .ref x3, .int 0, .ref x4, .ref x5, .int 1, .ref x6, .ref x7, .int 0]))], rfl, ⟨rfl, rfl⟩, wq_B.of ht hP9 hD9⟩, hS.F ht⟩) hS.2.2 dX6_ruleAt_28
  · refine lv_iload_n hx hb dX6_ruleAt_4 rfl (lv_at hl 1 rfl) ?_
    refine lv_aload_n hx hb dX6_ruleAt_5 rfl (lv_at hl 0 rfl) ?_
    refine va_get (D := D) (ci := 11) (v := .int 0) (C := RX6) (T := TX6) (N := 10) hx hb hts iv_k_X6_ruleAt_X6 hown hK hP 0 rfl rfl 3 (by decide) (hts (.fieldLink RX6 45 "AnswerFold$Program" "ruleCount" "I") (by decide +kernel)) (fun _ h9 => h9) rfl dX6_ruleAt_6 ?_
    refine lv_icmp_ge (tgt := 27) hx hb dX6_ruleAt_9 (by decide) (fun _ => ?_) (fun c0 => absurd (Int32.not_lt.mp c_1) c0)
    refine lv_null hx hb dX6_ruleAt_27 ?_
    have hP9 := hP.sub (ws' := [(x1, .inr (11, [.ref x2, .int 0, .ref x3, .int 0, .ref x4, .ref x5, .int 1, .ref x6, .ref x7, .int 0]))]) [0] rfl
    have hD9 := hD.sub (ws' := [(x1, .inr (11, [.ref x2, .int 0, .ref x3, .int 0, .ref x4, .ref x5, .int 1, .ref x6, .ref x7, .int 0]))]) [0] (by decide) rfl
    refine W.widen (k := 0) (n := 0) (Nat.le_of_ble_eq_true rfl) (Nat.le_of_ble_eq_true rfl) ?_
    exact W.aret (v := .null) hx hb hr (Or.inl ⟨_, rfl⟩) (Or.inl rfl) (fun t ht hW => ⟨⟨.null, [(x1, .inr (11, [.ref x2, .int 0, .ref x3, .int 0, .ref x4, .ref x5, .int 1, .ref x6, .ref x7, .int 0]))], rfl, ⟨rfl, rfl⟩, wq_B.of ht hP9 hD9⟩, hS.F ht⟩) hS.2.2 dX6_ruleAt_28
def vs_k_X6_tellPredicate : List Cond := .code yX6_tellPredicate cX6_tellPredicate 2 (some .int) :: ([.fieldLink RX6 38 "AnswerFold$Program" "predicateCount" "I", .fieldLink RX6 9 "AnswerFold$Program" "places" "[I"] ++ (u_ws RX6 TX6 10))
theorem iv_k_X6_tellPredicate_X6 : ∀ w ∈ u_ws RX6 TX6 10, w ∈ vs_k_X6_tellPredicate := (fun _ h => List.mem_cons_of_mem _ (List.mem_append_right _ (h)))
set_option maxHeartbeats 4000000 in
set_option maxRecDepth 100000 in
theorem k_X6_tellPredicate (l : Launch) (D : va_G) (ty : Nat → ClassId) (td mi sz : Nat) (x1 : Nat) (x2 : Nat) (x3 : Nat) (x4 : Nat) (x5 : Nat) (x6 : Nat) (x7 : Nat) (k1 : Int32) : Met l yX6_tellPredicate vs_k_X6_tellPredicate { frames := 0, cells := 0, slots := 0, locals := 0 } (va_Pc [.ref x1, .int k1] (wq_P D ty td mi [(x1, .inr (11, [.ref x2, .int 0, .ref x3, .int 0, .ref x4, .ref x5, .int 1, .ref x6, .ref x7, .int 0])), (x2, .inl (ty 0, 6, .inl (fun _ => 0)))] sz)) (va_Qi (fun (r : Int32) (u : va_W) => (r = 0 ∧ (u = []))) (wq_B D (va_A [(x1, .inr (11, [.ref x2, .int 0, .ref x3, .int 0, .ref x4, .ref x5, .int 1, .ref x6, .ref x7, .int 0])), (x2, .inl (ty 0, 6, .inl (fun _ => 0)))] sz)) (va_A [(x1, .inr (11, [.ref x2, .int 0, .ref x3, .int 0, .ref x4, .ref x5, .int 1, .ref x6, .ref x7, .int 0])), (x2, .inl (ty 0, 6, .inl (fun _ => 0)))] sz)) 0 0 (va_A [(x1, .inr (11, [.ref x2, .int 0, .ref x3, .int 0, .ref x4, .ref x5, .int 1, .ref x6, .ref x7, .int 0])), (x2, .inl (ty 0, 6, .inl (fun _ => 0)))] sz) := by
  refine Met.ofW (cc := cX6_tellPredicate) (maxL := 2) (ret := (some .int)) (by decide) rfl ?_
  intro p e s m args below meth c s₁ B hml hv
  obtain ⟨rfl, hsz, hP, hK, hD0, hE⟩ := hv
  have hx := B.exec
  have hb := B.bytes
  have hr := B.returns
  have hts := atoms_spec (ws := vs_k_X6_tellPredicate) B.pre
  have hown : s.vm.findClass RX6 = some m.cls := findClass_of_methodNamed B.named
  have hlocks := B.notSynchronized
  subst hsz
  have hD := hD0.self (sz := s.heap.size)
  generalize hAe : va_A [(x1, .inr (11, [.ref x2, .int 0, .ref x3, .int 0, .ref x4, .ref x5, .int 1, .ref x6, .ref x7, .int 0])), (x2, .inl (ty 0, 6, .inl (fun _ => 0)))] s.heap.size = A at hD hE ⊢
  have hA : ∀ q : Nat, s.heap.size ≤ q → A q := fun q h => by rw [← hAe]; exact Or.inr h
  have hS : va_S A s.heap s.heap [] := va_S.rf
  have hP : va_P D vwCl [(x1, .inr (11, [.ref x2, .int 0, .ref x3, .int 0, .ref x4, .ref x5, .int 1, .ref x6, .ref x7, .int 0])), (x2, .inl (ty 0, 6, .inl (fun _ => 0)))] s.heap := hP
  have hl := lv_entry ([.ref x1, .int k1]) (n := 2) (Nat.le_of_ble_eq_true rfl)
  rw [lg_entry_eq]
  generalize (lg_sl ([.ref x1, .int k1]) ++ List.replicate (2 - (lg_sl ([.ref x1, .int k1])).length) Slot.unset).toArray = ls at hl ⊢
  have hl : lv_has ls 2 [(0, .ref x1), (1, .int k1)] := hl
  refine lv_aload_n hx hb dX6_tellPredicate_0 rfl (lv_at hl 0 rfl) ?_
  refine va_get (D := D) (ci := 11) (v := .int 0) (C := RX6) (T := TX6) (N := 10) hx hb hts iv_k_X6_tellPredicate_X6 hown hK hP 0 rfl rfl 1 (by decide) (hts (.fieldLink RX6 38 "AnswerFold$Program" "predicateCount" "I") (by decide +kernel)) (fun _ h9 => h9) rfl dX6_tellPredicate_1 ?_
  refine lv_if_lt (tgt := 16) hx hb dX6_tellPredicate_4 (by decide) (fun c0 => absurd c0 (by decide)) (fun _ => ?_)
  refine lv_aload_n hx hb dX6_tellPredicate_7 rfl (lv_at hl 0 rfl) ?_
  refine va_get (D := D) (ci := 11) (v := .int 0) (C := RX6) (T := TX6) (N := 10) hx hb hts iv_k_X6_tellPredicate_X6 hown hK hP 0 rfl rfl 1 (by decide) (hts (.fieldLink RX6 38 "AnswerFold$Program" "predicateCount" "I") (by decide +kernel)) (fun _ h9 => h9) rfl dX6_tellPredicate_8 ?_
  refine lv_bipush (v := 6) hx hb dX6_tellPredicate_11 (by decide) ?_
  refine lv_icmp_lt (tgt := 18) hx hb dX6_tellPredicate_13 (by decide) (fun _ => ?_) (fun c0 => absurd (by decide) c0)
  refine lv_aload_n hx hb dX6_tellPredicate_18 rfl (lv_at hl 0 rfl) ?_
  refine va_get (D := D) (ci := 11) (v := .ref x2) (C := RX6) (T := TX6) (N := 10) hx hb hts iv_k_X6_tellPredicate_X6 hown hK hP 0 rfl rfl 0 (by decide) (hts (.fieldLink RX6 9 "AnswerFold$Program" "places" "[I") (by decide +kernel)) (fun _ h9 => h9) rfl dX6_tellPredicate_19 ?_
  refine lv_aload_n hx hb dX6_tellPredicate_22 rfl (lv_at hl 0 rfl) ?_
  refine va_get (D := D) (ci := 11) (v := .int 0) (C := RX6) (T := TX6) (N := 10) hx hb hts iv_k_X6_tellPredicate_X6 hown hK hP 0 rfl rfl 1 (by decide) (hts (.fieldLink RX6 38 "AnswerFold$Program" "predicateCount" "I") (by decide +kernel)) (fun _ h9 => h9) rfl dX6_tellPredicate_23 ?_
  refine lv_iload_n hx hb dX6_tellPredicate_26 rfl (lv_at hl 1 rfl) ?_
  refine va_iast (D := D) hx hb hK hP hD hS 1 0 rfl rfl (vp_in_iff.mpr (by decide)) dX6_tellPredicate_27 (fun H locs hP hD hS => ?_)
  have hP : va_P D vwCl [(x1, .inr (11, [.ref x2, .int 0, .ref x3, .int 0, .ref x4, .ref x5, .int 1, .ref x6, .ref x7, .int 0])), (x2, .inl (ty 0, 6, .inl (upd (fun _ => 0) (0 : Int32).toNatClampNeg k1)))] H := hP
  have hD : va_D A [(x1, .inr (11, [.ref x2, .int 0, .ref x3, .int 0, .ref x4, .ref x5, .int 1, .ref x6, .ref x7, .int 0])), (x2, .inl (ty 0, 6, .inl (upd (fun _ => 0) (0 : Int32).toNatClampNeg k1)))] := hD
  refine lv_aload_n hx hb dX6_tellPredicate_28 rfl (lv_at hl 0 rfl) ?_
  refine lv_dup hx hb dX6_tellPredicate_29 rfl ?_
  refine va_get (D := D) (ci := 11) (v := .int 0) (C := RX6) (T := TX6) (N := 10) hx hb hts iv_k_X6_tellPredicate_X6 hown hK hP 0 rfl rfl 1 (by decide) (hts (.fieldLink RX6 38 "AnswerFold$Program" "predicateCount" "I") (by decide +kernel)) (fun _ h9 => h9) rfl dX6_tellPredicate_30 ?_
  refine lv_dup_x1 hx hb dX6_tellPredicate_33 rfl rfl ?_
  refine lv_iconst (v := 1) hx hb dX6_tellPredicate_34 (by decide) ?_
  refine lv_iadd hx hb dX6_tellPredicate_35 ?_
  refine lv_topi (nm_r (e' := 1) (by decide) ?_)
  refine va_put (D := D) (ci := 11) (v := .int 1) (ty := tyX6 1) (C := RX6) (T := TX6) (N := 10) hx hb hts iv_k_X6_tellPredicate_X6 tyX6 tyX6_ok nmX6 hown hK hP hD hS 0 rfl rfl 1 (by decide) (hts (.fieldLink RX6 38 "AnswerFold$Program" "predicateCount" "I") (by decide +kernel)) (fun _ h9 => h9) rfl (by decide +kernel) rfl rfl (Nat.le_of_ble_eq_true rfl) dX6_tellPredicate_36 (fun H locs hP hD hS => ?_)
  have hP : va_P D vwCl [(x1, .inr (11, [.ref x2, .int 1, .ref x3, .int 0, .ref x4, .ref x5, .int 1, .ref x6, .ref x7, .int 0])), (x2, .inl (ty 0, 6, .inl (upd (fun _ => 0) (0 : Int32).toNatClampNeg k1)))] H := hP
  have hD : va_D A [(x1, .inr (11, [.ref x2, .int 1, .ref x3, .int 0, .ref x4, .ref x5, .int 1, .ref x6, .ref x7, .int 0])), (x2, .inl (ty 0, 6, .inl (upd (fun _ => 0) (0 : Int32).toNatClampNeg k1)))] := hD
  have hP9 := hP.sub (ws' := []) [] rfl
  have hD9 := hD.sub (ws' := []) [] (by decide) rfl
  refine W.widen (k := 0) (n := 0) (Nat.le_of_ble_eq_true rfl) (Nat.le_of_ble_eq_true rfl) ?_
  exact W.iret (v := 0) hx hb hr (fun t ht hW => ⟨⟨0, [], rfl, ⟨rfl, rfl⟩, wq_B.of ht hP9 hD9⟩, hS.F ht⟩) hS.2.2 dX6_tellPredicate_39
def vs_k_X10_forgetGrounding : List Cond := .code yX10_forgetGrounding cX10_forgetGrounding 1 none :: ([.fieldLink RX10 21 "AnswerFold" "grounding" "LAnswerFold$Grounding;", .fieldLink RX10 30 "AnswerFold" "solver" "LAnswerFold$Solver;", .fieldLink RX10 56 "AnswerFold" "answers" "LAnswerFold$Answers;"] ++ (u_ws RX10 TX10 7 ++ (u_ws RX3 TX3 16 ++ (u_ws RX9 TX9 17 ++ (u_ws RX0 TX0 4)))))
theorem iv_k_X10_forgetGrounding_X0 : ∀ w ∈ u_ws RX0 TX0 4, w ∈ vs_k_X10_forgetGrounding := (fun _ h => List.mem_cons_of_mem _ (List.mem_append_right _ (List.mem_append_right _ (List.mem_append_right _ (List.mem_append_right _ (h))))))
theorem iv_k_X10_forgetGrounding_X10 : ∀ w ∈ u_ws RX10 TX10 7, w ∈ vs_k_X10_forgetGrounding := (fun _ h => List.mem_cons_of_mem _ (List.mem_append_right _ (List.mem_append_left _ h)))
theorem iv_k_X10_forgetGrounding_X3 : ∀ w ∈ u_ws RX3 TX3 16, w ∈ vs_k_X10_forgetGrounding := (fun _ h => List.mem_cons_of_mem _ (List.mem_append_right _ (List.mem_append_right _ (List.mem_append_left _ h))))
theorem iv_k_X10_forgetGrounding_X9 : ∀ w ∈ u_ws RX9 TX9 17, w ∈ vs_k_X10_forgetGrounding := (fun _ h => List.mem_cons_of_mem _ (List.mem_append_right _ (List.mem_append_right _ (List.mem_append_right _ (List.mem_append_left _ h)))))
set_option maxHeartbeats 4000000 in
set_option maxRecDepth 100000 in
theorem k_X10_forgetGrounding (l : Launch) (D : va_G) (ty : Nat → ClassId) (td mi sz : Nat) (x0 : Nat) (x1 : Nat) (x8 : Nat) (x20 : Nat) (x39 : Nat) (x41 : Nat) (x43 : Nat) (x45 : Nat) (x9 : Nat) (x10 : Nat) (x12 : Nat) (x14 : Nat) (x15 : Nat) (x16 : Nat) (x17 : Nat) (x18 : Nat) (x19 : Nat) (x21 : Nat) (x28 : Nat) (x35 : Nat) (x36 : Nat) (x37 : Nat) (x38 : Nat) (x46 : Nat) (x47 : Nat) : Met l yX10_forgetGrounding vs_k_X10_forgetGrounding { frames := 0, cells := 0, slots := 0, locals := 0 } (va_Pc [.ref x0] (wq_P D ty td mi [(x0, .inr (15, [.ref x1, .ref x8, .ref x20, .ref x39, .ref x41, .ref x43, .ref x45])), (x8, .inr (8, [.ref x1, .ref x9, .ref x10, .ref x12, .ref x14, .int 0, .ref x15, .ref x16, .ref x17, .int 0, .ref x18, .ref x19, .int 0, .int 0, .int 0, .int 0])), (x20, .inr (14, [.ref x1, .ref x8, .ref x21, .ref x28, .ref x35, .int 0, .ref x36, .ref x37, .ref x38, .int 0, .int 0, .int 0, .int 0, .int 0, .int 0, .int 0, .int 0])), (x45, .inr (5, [.ref x46, .ref x47, .int 0, .int 0]))] sz)) (va_Qv (fun u : va_W => ((u = [(x0, .inr (15, [.ref x1, .ref x8, .ref x20, .ref x39, .ref x41, .ref x43, .ref x45])), (x8, .inr (8, [.ref x1, .ref x9, .ref x10, .ref x12, .ref x14, .int 0, .ref x15, .ref x16, .ref x17, .int 0, .ref x18, .ref x19, .int 0, .int 0, .int 0, .int 0])), (x20, .inr (14, [.ref x1, .ref x8, .ref x21, .ref x28, .ref x35, .int 0, .ref x36, .ref x37, .ref x38, .int 0, .int 0, .int 0, .int 0, .int 0, .int 0, .int 0, .int 0])), (x45, .inr (5, [.ref x46, .ref x47, .int 0, .int 0]))]))) (wq_B D (va_A [(x0, .inr (15, [.ref x1, .ref x8, .ref x20, .ref x39, .ref x41, .ref x43, .ref x45])), (x8, .inr (8, [.ref x1, .ref x9, .ref x10, .ref x12, .ref x14, .int 0, .ref x15, .ref x16, .ref x17, .int 0, .ref x18, .ref x19, .int 0, .int 0, .int 0, .int 0])), (x20, .inr (14, [.ref x1, .ref x8, .ref x21, .ref x28, .ref x35, .int 0, .ref x36, .ref x37, .ref x38, .int 0, .int 0, .int 0, .int 0, .int 0, .int 0, .int 0, .int 0])), (x45, .inr (5, [.ref x46, .ref x47, .int 0, .int 0]))] sz)) (va_A [(x0, .inr (15, [.ref x1, .ref x8, .ref x20, .ref x39, .ref x41, .ref x43, .ref x45])), (x8, .inr (8, [.ref x1, .ref x9, .ref x10, .ref x12, .ref x14, .int 0, .ref x15, .ref x16, .ref x17, .int 0, .ref x18, .ref x19, .int 0, .int 0, .int 0, .int 0])), (x20, .inr (14, [.ref x1, .ref x8, .ref x21, .ref x28, .ref x35, .int 0, .ref x36, .ref x37, .ref x38, .int 0, .int 0, .int 0, .int 0, .int 0, .int 0, .int 0, .int 0])), (x45, .inr (5, [.ref x46, .ref x47, .int 0, .int 0]))] sz)) 0 0 (va_A [(x0, .inr (15, [.ref x1, .ref x8, .ref x20, .ref x39, .ref x41, .ref x43, .ref x45])), (x8, .inr (8, [.ref x1, .ref x9, .ref x10, .ref x12, .ref x14, .int 0, .ref x15, .ref x16, .ref x17, .int 0, .ref x18, .ref x19, .int 0, .int 0, .int 0, .int 0])), (x20, .inr (14, [.ref x1, .ref x8, .ref x21, .ref x28, .ref x35, .int 0, .ref x36, .ref x37, .ref x38, .int 0, .int 0, .int 0, .int 0, .int 0, .int 0, .int 0, .int 0])), (x45, .inr (5, [.ref x46, .ref x47, .int 0, .int 0]))] sz) := by
  refine Met.ofW (cc := cX10_forgetGrounding) (maxL := 1) (ret := none) (by decide) rfl ?_
  intro p e s m args below meth c s₁ B hml hv
  obtain ⟨rfl, hsz, hP, hK, hD0, hE⟩ := hv
  have hx := B.exec
  have hb := B.bytes
  have hr := B.returns
  have hts := atoms_spec (ws := vs_k_X10_forgetGrounding) B.pre
  have hown : s.vm.findClass RX10 = some m.cls := findClass_of_methodNamed B.named
  have hlocks := B.notSynchronized
  subst hsz
  have hD := hD0.self (sz := s.heap.size)
  generalize hAe : va_A [(x0, .inr (15, [.ref x1, .ref x8, .ref x20, .ref x39, .ref x41, .ref x43, .ref x45])), (x8, .inr (8, [.ref x1, .ref x9, .ref x10, .ref x12, .ref x14, .int 0, .ref x15, .ref x16, .ref x17, .int 0, .ref x18, .ref x19, .int 0, .int 0, .int 0, .int 0])), (x20, .inr (14, [.ref x1, .ref x8, .ref x21, .ref x28, .ref x35, .int 0, .ref x36, .ref x37, .ref x38, .int 0, .int 0, .int 0, .int 0, .int 0, .int 0, .int 0, .int 0])), (x45, .inr (5, [.ref x46, .ref x47, .int 0, .int 0]))] s.heap.size = A at hD hE ⊢
  have hA : ∀ q : Nat, s.heap.size ≤ q → A q := fun q h => by rw [← hAe]; exact Or.inr h
  have hS : va_S A s.heap s.heap [] := va_S.rf
  have hP : va_P D vwCl [(x0, .inr (15, [.ref x1, .ref x8, .ref x20, .ref x39, .ref x41, .ref x43, .ref x45])), (x8, .inr (8, [.ref x1, .ref x9, .ref x10, .ref x12, .ref x14, .int 0, .ref x15, .ref x16, .ref x17, .int 0, .ref x18, .ref x19, .int 0, .int 0, .int 0, .int 0])), (x20, .inr (14, [.ref x1, .ref x8, .ref x21, .ref x28, .ref x35, .int 0, .ref x36, .ref x37, .ref x38, .int 0, .int 0, .int 0, .int 0, .int 0, .int 0, .int 0, .int 0])), (x45, .inr (5, [.ref x46, .ref x47, .int 0, .int 0]))] s.heap := hP
  have hl := lv_entry ([.ref x0]) (n := 1) (Nat.le_of_ble_eq_true rfl)
  rw [lg_entry_eq]
  generalize (lg_sl ([.ref x0]) ++ List.replicate (1 - (lg_sl ([.ref x0])).length) Slot.unset).toArray = ls at hl ⊢
  have hl : lv_has ls 1 [(0, .ref x0)] := hl
  refine lv_aload_n hx hb dX10_forgetGrounding_0 rfl (lv_at hl 0 rfl) ?_
  refine va_get (D := D) (ci := 15) (v := .ref x8) (C := RX10) (T := TX10) (N := 7) hx hb hts iv_k_X10_forgetGrounding_X10 hown hK hP 0 rfl rfl 1 (by decide) (hts (.fieldLink RX10 21 "AnswerFold" "grounding" "LAnswerFold$Grounding;") (by decide +kernel)) (fun _ h9 => h9) rfl dX10_forgetGrounding_1 ?_
  refine lv_iconst (v := 0) hx hb dX10_forgetGrounding_4 (by decide) ?_
  refine va_putN (D := D) (ci := 8) (v := .int 0) (ty := tyX3 13) (C := RX3) (T := TX3) (N := 16) hx hb hts iv_k_X10_forgetGrounding_X3 tyX3 tyX3_ok nmX3 hown hK hP hD hS 1 rfl rfl 13 (by decide) (hE.at (.fieldLinkNest "AnswerFold" 351 "AnswerFold$Grounding" "isCurrent" "Z" "AnswerFold") (by decide +kernel)) (fun _ h9 => h9) rfl (by decide +kernel) rfl rfl (Nat.le_of_ble_eq_true rfl) dX10_forgetGrounding_5 (fun H locs hP hD hS => ?_)
  have hP : va_P D vwCl [(x0, .inr (15, [.ref x1, .ref x8, .ref x20, .ref x39, .ref x41, .ref x43, .ref x45])), (x8, .inr (8, [.ref x1, .ref x9, .ref x10, .ref x12, .ref x14, .int 0, .ref x15, .ref x16, .ref x17, .int 0, .ref x18, .ref x19, .int 0, .int 0, .int 0, .int 0])), (x20, .inr (14, [.ref x1, .ref x8, .ref x21, .ref x28, .ref x35, .int 0, .ref x36, .ref x37, .ref x38, .int 0, .int 0, .int 0, .int 0, .int 0, .int 0, .int 0, .int 0])), (x45, .inr (5, [.ref x46, .ref x47, .int 0, .int 0]))] H := hP
  have hD : va_D A [(x0, .inr (15, [.ref x1, .ref x8, .ref x20, .ref x39, .ref x41, .ref x43, .ref x45])), (x8, .inr (8, [.ref x1, .ref x9, .ref x10, .ref x12, .ref x14, .int 0, .ref x15, .ref x16, .ref x17, .int 0, .ref x18, .ref x19, .int 0, .int 0, .int 0, .int 0])), (x20, .inr (14, [.ref x1, .ref x8, .ref x21, .ref x28, .ref x35, .int 0, .ref x36, .ref x37, .ref x38, .int 0, .int 0, .int 0, .int 0, .int 0, .int 0, .int 0, .int 0])), (x45, .inr (5, [.ref x46, .ref x47, .int 0, .int 0]))] := hD
  refine lv_aload_n hx hb dX10_forgetGrounding_8 rfl (lv_at hl 0 rfl) ?_
  refine va_get (D := D) (ci := 15) (v := .ref x20) (C := RX10) (T := TX10) (N := 7) hx hb hts iv_k_X10_forgetGrounding_X10 hown hK hP 0 rfl rfl 2 (by decide) (hts (.fieldLink RX10 30 "AnswerFold" "solver" "LAnswerFold$Solver;") (by decide +kernel)) (fun _ h9 => h9) rfl dX10_forgetGrounding_9 ?_
  refine lv_iconst (v := 0) hx hb dX10_forgetGrounding_12 (by decide) ?_
  refine va_putN (D := D) (ci := 14) (v := .int 0) (ty := tyX9 16) (C := RX9) (T := TX9) (N := 17) hx hb hts iv_k_X10_forgetGrounding_X9 tyX9 tyX9_ok nmX9 hown hK hP hD hS 2 rfl rfl 16 (by decide) (hE.at (.fieldLinkNest "AnswerFold" 354 "AnswerFold$Solver" "isCompiled" "Z" "AnswerFold") (by decide +kernel)) (fun _ h9 => h9) rfl (by decide +kernel) rfl rfl (Nat.le_of_ble_eq_true rfl) dX10_forgetGrounding_13 (fun H locs hP hD hS => ?_)
  have hP : va_P D vwCl [(x0, .inr (15, [.ref x1, .ref x8, .ref x20, .ref x39, .ref x41, .ref x43, .ref x45])), (x8, .inr (8, [.ref x1, .ref x9, .ref x10, .ref x12, .ref x14, .int 0, .ref x15, .ref x16, .ref x17, .int 0, .ref x18, .ref x19, .int 0, .int 0, .int 0, .int 0])), (x20, .inr (14, [.ref x1, .ref x8, .ref x21, .ref x28, .ref x35, .int 0, .ref x36, .ref x37, .ref x38, .int 0, .int 0, .int 0, .int 0, .int 0, .int 0, .int 0, .int 0])), (x45, .inr (5, [.ref x46, .ref x47, .int 0, .int 0]))] H := hP
  have hD : va_D A [(x0, .inr (15, [.ref x1, .ref x8, .ref x20, .ref x39, .ref x41, .ref x43, .ref x45])), (x8, .inr (8, [.ref x1, .ref x9, .ref x10, .ref x12, .ref x14, .int 0, .ref x15, .ref x16, .ref x17, .int 0, .ref x18, .ref x19, .int 0, .int 0, .int 0, .int 0])), (x20, .inr (14, [.ref x1, .ref x8, .ref x21, .ref x28, .ref x35, .int 0, .ref x36, .ref x37, .ref x38, .int 0, .int 0, .int 0, .int 0, .int 0, .int 0, .int 0, .int 0])), (x45, .inr (5, [.ref x46, .ref x47, .int 0, .int 0]))] := hD
  refine lv_aload_n hx hb dX10_forgetGrounding_16 rfl (lv_at hl 0 rfl) ?_
  refine va_get (D := D) (ci := 15) (v := .ref x45) (C := RX10) (T := TX10) (N := 7) hx hb hts iv_k_X10_forgetGrounding_X10 hown hK hP 0 rfl rfl 6 (by decide) (hts (.fieldLink RX10 56 "AnswerFold" "answers" "LAnswerFold$Answers;") (by decide +kernel)) (fun _ h9 => h9) rfl dX10_forgetGrounding_17 ?_
  refine lv_iconst (v := 0) hx hb dX10_forgetGrounding_20 (by decide) ?_
  refine va_putN (D := D) (ci := 5) (v := .int 0) (ty := tyX0 3) (C := RX0) (T := TX0) (N := 4) hx hb hts iv_k_X10_forgetGrounding_X0 tyX0 tyX0_ok nmX0 hown hK hP hD hS 3 rfl rfl 3 (by decide) (hE.at (.fieldLinkNest "AnswerFold" 235 "AnswerFold$Answers" "isKept" "Z" "AnswerFold") (by decide +kernel)) (fun _ h9 => h9) rfl (by decide +kernel) rfl rfl (Nat.le_of_ble_eq_true rfl) dX10_forgetGrounding_21 (fun H locs hP hD hS => ?_)
  have hP : va_P D vwCl [(x0, .inr (15, [.ref x1, .ref x8, .ref x20, .ref x39, .ref x41, .ref x43, .ref x45])), (x8, .inr (8, [.ref x1, .ref x9, .ref x10, .ref x12, .ref x14, .int 0, .ref x15, .ref x16, .ref x17, .int 0, .ref x18, .ref x19, .int 0, .int 0, .int 0, .int 0])), (x20, .inr (14, [.ref x1, .ref x8, .ref x21, .ref x28, .ref x35, .int 0, .ref x36, .ref x37, .ref x38, .int 0, .int 0, .int 0, .int 0, .int 0, .int 0, .int 0, .int 0])), (x45, .inr (5, [.ref x46, .ref x47, .int 0, .int 0]))] H := hP
  have hD : va_D A [(x0, .inr (15, [.ref x1, .ref x8, .ref x20, .ref x39, .ref x41, .ref x43, .ref x45])), (x8, .inr (8, [.ref x1, .ref x9, .ref x10, .ref x12, .ref x14, .int 0, .ref x15, .ref x16, .ref x17, .int 0, .ref x18, .ref x19, .int 0, .int 0, .int 0, .int 0])), (x20, .inr (14, [.ref x1, .ref x8, .ref x21, .ref x28, .ref x35, .int 0, .ref x36, .ref x37, .ref x38, .int 0, .int 0, .int 0, .int 0, .int 0, .int 0, .int 0, .int 0])), (x45, .inr (5, [.ref x46, .ref x47, .int 0, .int 0]))] := hD
  have hP9 := hP.sub (ws' := [(x0, .inr (15, [.ref x1, .ref x8, .ref x20, .ref x39, .ref x41, .ref x43, .ref x45])), (x8, .inr (8, [.ref x1, .ref x9, .ref x10, .ref x12, .ref x14, .int 0, .ref x15, .ref x16, .ref x17, .int 0, .ref x18, .ref x19, .int 0, .int 0, .int 0, .int 0])), (x20, .inr (14, [.ref x1, .ref x8, .ref x21, .ref x28, .ref x35, .int 0, .ref x36, .ref x37, .ref x38, .int 0, .int 0, .int 0, .int 0, .int 0, .int 0, .int 0, .int 0])), (x45, .inr (5, [.ref x46, .ref x47, .int 0, .int 0]))]) [0, 1, 2, 3] rfl
  have hD9 := hD.sub (ws' := [(x0, .inr (15, [.ref x1, .ref x8, .ref x20, .ref x39, .ref x41, .ref x43, .ref x45])), (x8, .inr (8, [.ref x1, .ref x9, .ref x10, .ref x12, .ref x14, .int 0, .ref x15, .ref x16, .ref x17, .int 0, .ref x18, .ref x19, .int 0, .int 0, .int 0, .int 0])), (x20, .inr (14, [.ref x1, .ref x8, .ref x21, .ref x28, .ref x35, .int 0, .ref x36, .ref x37, .ref x38, .int 0, .int 0, .int 0, .int 0, .int 0, .int 0, .int 0, .int 0])), (x45, .inr (5, [.ref x46, .ref x47, .int 0, .int 0]))]) [0, 1, 2, 3] (by decide) rfl
  refine W.widen (k := 0) (n := 0) (Nat.le_of_ble_eq_true rfl) (Nat.le_of_ble_eq_true rfl) ?_
  exact W.vret hx hb hr (fun t ht hW => ⟨⟨[(x0, .inr (15, [.ref x1, .ref x8, .ref x20, .ref x39, .ref x41, .ref x43, .ref x45])), (x8, .inr (8, [.ref x1, .ref x9, .ref x10, .ref x12, .ref x14, .int 0, .ref x15, .ref x16, .ref x17, .int 0, .ref x18, .ref x19, .int 0, .int 0, .int 0, .int 0])), (x20, .inr (14, [.ref x1, .ref x8, .ref x21, .ref x28, .ref x35, .int 0, .ref x36, .ref x37, .ref x38, .int 0, .int 0, .int 0, .int 0, .int 0, .int 0, .int 0, .int 0])), (x45, .inr (5, [.ref x46, .ref x47, .int 0, .int 0]))], rfl, rfl, wq_B.of ht hP9 hD9⟩, hS.F ht⟩) hS.2.2 dX10_forgetGrounding_24
def vs_k_X10_checkPart : List Cond := .code yX10_checkPart cX10_checkPart 2 none :: ([.classLink RX10 60 "java/lang/IllegalArgumentException", .initialized "java/lang/IllegalArgumentException"] ++ ((vx_atS RX10 64 "java/lang/IllegalArgumentException" ["java/lang/RuntimeException", "java/lang/Exception"]).filter goodWord))
theorem ix_k_X10_checkPart_64 : ∀ w ∈ (vx_atS RX10 64 "java/lang/IllegalArgumentException" ["java/lang/RuntimeException", "java/lang/Exception"]).filter goodWord, w ∈ vs_k_X10_checkPart := (fun _ h => List.mem_cons_of_mem _ (List.mem_append_right _ (h)))
set_option maxHeartbeats 4000000 in
set_option maxRecDepth 100000 in
theorem k_X10_checkPart (l : Launch) (hl9 : l.stackTraces = false) (D : va_G) (ty : Nat → ClassId) (td mi sz : Nat) (x0 : Nat) (x1 : Nat) (x8 : Nat) (x20 : Nat) (x39 : Nat) (x41 : Nat) (x43 : Nat) (x45 : Nat) (k1 : Int32) : vx_Met l yX10_checkPart vs_k_X10_checkPart { frames := 6, cells := 1, slots := 6, locals := 82 } (va_Pc [.ref x0, .int k1] (wq_P D ty td mi [(x0, .inr (15, [.ref x1, .ref x8, .ref x20, .ref x39, .ref x41, .ref x43, .ref x45]))] sz)) (va_Qv (fun u : va_W => ((¬ (k1 < 0)) ∧ (k1 ≤ 3) ∧ (u = [(x0, .inr (15, [.ref x1, .ref x8, .ref x20, .ref x39, .ref x41, .ref x43, .ref x45]))]))) (wq_B D (va_A [(x0, .inr (15, [.ref x1, .ref x8, .ref x20, .ref x39, .ref x41, .ref x43, .ref x45]))] sz)) (va_A [(x0, .inr (15, [.ref x1, .ref x8, .ref x20, .ref x39, .ref x41, .ref x43, .ref x45]))] sz)) (vx_X (fun u : String × va_W => (u = ("java/lang/IllegalArgumentException", []) ∧ (k1 < 0)) ∨ (u = ("java/lang/IllegalArgumentException", []) ∧ (¬ (k1 < 0)) ∧ (¬ (k1 ≤ 3)))) (wq_BX D (va_A [(x0, .inr (15, [.ref x1, .ref x8, .ref x20, .ref x39, .ref x41, .ref x43, .ref x45]))] sz)) (va_A [(x0, .inr (15, [.ref x1, .ref x8, .ref x20, .ref x39, .ref x41, .ref x43, .ref x45]))] sz)) 1 6 (va_A [(x0, .inr (15, [.ref x1, .ref x8, .ref x20, .ref x39, .ref x41, .ref x43, .ref x45]))] sz) := by
  refine vx_ofW (cc := cX10_checkPart) (maxL := 2) (ret := none) (by decide) rfl ?_
  intro p e s m args below meth c s₁ B hml hEx hv
  obtain ⟨rfl, hsz, hP, hK, hD0, hE⟩ := hv
  have hx := B.exec
  have hb := B.bytes
  have hr := B.returns
  have hts := atoms_spec (ws := vs_k_X10_checkPart) B.pre
  have hown : s.vm.findClass RX10 = some m.cls := findClass_of_methodNamed B.named
  have hlocks := B.notSynchronized
  subst hsz
  have hD := hD0.self (sz := s.heap.size)
  generalize hAe : va_A [(x0, .inr (15, [.ref x1, .ref x8, .ref x20, .ref x39, .ref x41, .ref x43, .ref x45]))] s.heap.size = A at hD hE ⊢
  have hA : ∀ q : Nat, s.heap.size ≤ q → A q := fun q h => by rw [← hAe]; exact Or.inr h
  have hS : va_S A s.heap s.heap [] := va_S.rf
  have hP : va_P D vwCl [(x0, .inr (15, [.ref x1, .ref x8, .ref x20, .ref x39, .ref x41, .ref x43, .ref x45]))] s.heap := hP
  have hl := lv_entry ([.ref x0, .int k1]) (n := 2) (Nat.le_of_ble_eq_true rfl)
  rw [lg_entry_eq]
  generalize (lg_sl ([.ref x0, .int k1]) ++ List.replicate (2 - (lg_sl ([.ref x0, .int k1])).length) Slot.unset).toArray = ls at hl ⊢
  have hl : lv_has ls 2 [(0, .ref x0), (1, .int k1)] := hl
  refine lv_iload_n hx hb dX10_checkPart_0 rfl (lv_at hl 1 rfl) ?_
  refine lv_if_lt (tgt := 9) hx hb dX10_checkPart_1 (by decide) (fun c_1 => ?_) (fun c_1 => ?_)
  · obtain ⟨sa, hsa⟩ := hE.st 357 "parts are 0 to 3" (by decide +kernel)
    exact vx_throwSW (own := RX10) (cls := "java/lang/IllegalArgumentException") (text := "parts are 0 to 3") (names := ["java/lang/RuntimeException", "java/lang/Exception"]) (ik := 60) (is := 357) (ic := 64) (sa := sa) (A := A) hx hb hl9 hown (by decide +kernel) (by decide +kernel) (hts (.classLink RX10 60 "java/lang/IllegalArgumentException") (by decide +kernel)) (hts (.initialized "java/lang/IllegalArgumentException") (by decide +kernel)) hsa (wq_hat hE hts ix_k_X10_checkPart_64 (by decide +kernel) (by decide +kernel)) (by decide +kernel) hE.zu hE.zs hS (hl.1.trans hml.symm) dX10_checkPart_9 dX10_checkPart_12 dX10_checkPart_13 dX10_checkPart_16 dX10_checkPart_19 (fun x hx => (hEx x hx).elim) (Nat.le_of_ble_eq_true rfl) (Nat.le_of_ble_eq_true rfl) (Nat.le_of_ble_eq_true rfl) (Nat.le_of_ble_eq_true rfl) hlocks (fun t ha hz hk => wq_thr hS (by exact (Or.inl ⟨rfl, c_1⟩)) hz hk) hS.2.2 (Nat.le_of_ble_eq_true rfl) (Nat.le_of_ble_eq_true rfl)
  · refine lv_iload_n hx hb dX10_checkPart_4 rfl (lv_at hl 1 rfl) ?_
    refine lv_iconst (v := 3) hx hb dX10_checkPart_5 (by decide) ?_
    refine lv_icmp_le (tgt := 20) hx hb dX10_checkPart_6 (by decide) (fun c_2 => ?_) (fun c_2 => ?_)
    · have hP9 := hP.sub (ws' := [(x0, .inr (15, [.ref x1, .ref x8, .ref x20, .ref x39, .ref x41, .ref x43, .ref x45]))]) [0] rfl
      have hD9 := hD.sub (ws' := [(x0, .inr (15, [.ref x1, .ref x8, .ref x20, .ref x39, .ref x41, .ref x43, .ref x45]))]) [0] (by decide) rfl
      refine W.widen (k := 1) (n := 6) (Nat.le_of_ble_eq_true rfl) (Nat.le_of_ble_eq_true rfl) ?_
      refine vx_ret ?_
      exact W.vret hx hb hr (fun t ht hW => ⟨⟨[(x0, .inr (15, [.ref x1, .ref x8, .ref x20, .ref x39, .ref x41, .ref x43, .ref x45]))], rfl, ⟨c_1, c_2, rfl⟩, wq_B.of ht hP9 hD9⟩, hS.F ht⟩) hS.2.2 dX10_checkPart_20
    · obtain ⟨sa, hsa⟩ := hE.st 357 "parts are 0 to 3" (by decide +kernel)
      exact vx_throwSW (own := RX10) (cls := "java/lang/IllegalArgumentException") (text := "parts are 0 to 3") (names := ["java/lang/RuntimeException", "java/lang/Exception"]) (ik := 60) (is := 357) (ic := 64) (sa := sa) (A := A) hx hb hl9 hown (by decide +kernel) (by decide +kernel) (hts (.classLink RX10 60 "java/lang/IllegalArgumentException") (by decide +kernel)) (hts (.initialized "java/lang/IllegalArgumentException") (by decide +kernel)) hsa (wq_hat hE hts ix_k_X10_checkPart_64 (by decide +kernel) (by decide +kernel)) (by decide +kernel) hE.zu hE.zs hS (hl.1.trans hml.symm) dX10_checkPart_9 dX10_checkPart_12 dX10_checkPart_13 dX10_checkPart_16 dX10_checkPart_19 (fun x hx => (hEx x hx).elim) (Nat.le_of_ble_eq_true rfl) (Nat.le_of_ble_eq_true rfl) (Nat.le_of_ble_eq_true rfl) (Nat.le_of_ble_eq_true rfl) hlocks (fun t ha hz hk => wq_thr hS (by exact (Or.inr ⟨rfl, c_1, c_2⟩)) hz hk) hS.2.2 (Nat.le_of_ble_eq_true rfl) (Nat.le_of_ble_eq_true rfl)
def vs_k_X10_checkLevel : List Cond := .code yX10_checkLevel cX10_checkLevel 2 none :: ([.classLink RX10 60 "java/lang/IllegalArgumentException", .initialized "java/lang/IllegalArgumentException"] ++ ((vx_atS RX10 64 "java/lang/IllegalArgumentException" ["java/lang/RuntimeException", "java/lang/Exception"]).filter goodWord))
theorem ix_k_X10_checkLevel_64 : ∀ w ∈ (vx_atS RX10 64 "java/lang/IllegalArgumentException" ["java/lang/RuntimeException", "java/lang/Exception"]).filter goodWord, w ∈ vs_k_X10_checkLevel := (fun _ h => List.mem_cons_of_mem _ (List.mem_append_right _ (h)))
set_option maxHeartbeats 4000000 in
set_option maxRecDepth 100000 in
theorem k_X10_checkLevel (l : Launch) (hl9 : l.stackTraces = false) (D : va_G) (ty : Nat → ClassId) (td mi sz : Nat) (x0 : Nat) (x1 : Nat) (x8 : Nat) (x20 : Nat) (x39 : Nat) (x41 : Nat) (x43 : Nat) (x45 : Nat) (k1 : Int32) : vx_Met l yX10_checkLevel vs_k_X10_checkLevel { frames := 6, cells := 1, slots := 6, locals := 82 } (va_Pc [.ref x0, .int k1] (wq_P D ty td mi [(x0, .inr (15, [.ref x1, .ref x8, .ref x20, .ref x39, .ref x41, .ref x43, .ref x45]))] sz)) (va_Qv (fun u : va_W => ((¬ (k1 < 1)) ∧ (k1 ≤ 3) ∧ (u = [(x0, .inr (15, [.ref x1, .ref x8, .ref x20, .ref x39, .ref x41, .ref x43, .ref x45]))]))) (wq_B D (va_A [(x0, .inr (15, [.ref x1, .ref x8, .ref x20, .ref x39, .ref x41, .ref x43, .ref x45]))] sz)) (va_A [(x0, .inr (15, [.ref x1, .ref x8, .ref x20, .ref x39, .ref x41, .ref x43, .ref x45]))] sz)) (vx_X (fun u : String × va_W => (u = ("java/lang/IllegalArgumentException", []) ∧ (k1 < 1)) ∨ (u = ("java/lang/IllegalArgumentException", []) ∧ (¬ (k1 < 1)) ∧ (¬ (k1 ≤ 3)))) (wq_BX D (va_A [(x0, .inr (15, [.ref x1, .ref x8, .ref x20, .ref x39, .ref x41, .ref x43, .ref x45]))] sz)) (va_A [(x0, .inr (15, [.ref x1, .ref x8, .ref x20, .ref x39, .ref x41, .ref x43, .ref x45]))] sz)) 1 6 (va_A [(x0, .inr (15, [.ref x1, .ref x8, .ref x20, .ref x39, .ref x41, .ref x43, .ref x45]))] sz) := by
  refine vx_ofW (cc := cX10_checkLevel) (maxL := 2) (ret := none) (by decide) rfl ?_
  intro p e s m args below meth c s₁ B hml hEx hv
  obtain ⟨rfl, hsz, hP, hK, hD0, hE⟩ := hv
  have hx := B.exec
  have hb := B.bytes
  have hr := B.returns
  have hts := atoms_spec (ws := vs_k_X10_checkLevel) B.pre
  have hown : s.vm.findClass RX10 = some m.cls := findClass_of_methodNamed B.named
  have hlocks := B.notSynchronized
  subst hsz
  have hD := hD0.self (sz := s.heap.size)
  generalize hAe : va_A [(x0, .inr (15, [.ref x1, .ref x8, .ref x20, .ref x39, .ref x41, .ref x43, .ref x45]))] s.heap.size = A at hD hE ⊢
  have hA : ∀ q : Nat, s.heap.size ≤ q → A q := fun q h => by rw [← hAe]; exact Or.inr h
  have hS : va_S A s.heap s.heap [] := va_S.rf
  have hP : va_P D vwCl [(x0, .inr (15, [.ref x1, .ref x8, .ref x20, .ref x39, .ref x41, .ref x43, .ref x45]))] s.heap := hP
  have hl := lv_entry ([.ref x0, .int k1]) (n := 2) (Nat.le_of_ble_eq_true rfl)
  rw [lg_entry_eq]
  generalize (lg_sl ([.ref x0, .int k1]) ++ List.replicate (2 - (lg_sl ([.ref x0, .int k1])).length) Slot.unset).toArray = ls at hl ⊢
  have hl : lv_has ls 2 [(0, .ref x0), (1, .int k1)] := hl
  refine lv_iload_n hx hb dX10_checkLevel_0 rfl (lv_at hl 1 rfl) ?_
  refine lv_iconst (v := 1) hx hb dX10_checkLevel_1 (by decide) ?_
  refine lv_icmp_lt (tgt := 10) hx hb dX10_checkLevel_2 (by decide) (fun c_1 => ?_) (fun c_1 => ?_)
  · obtain ⟨sa, hsa⟩ := hE.st 359 "levels are 1 to 3" (by decide +kernel)
    exact vx_throwSW (own := RX10) (cls := "java/lang/IllegalArgumentException") (text := "levels are 1 to 3") (names := ["java/lang/RuntimeException", "java/lang/Exception"]) (ik := 60) (is := 359) (ic := 64) (sa := sa) (A := A) hx hb hl9 hown (by decide +kernel) (by decide +kernel) (hts (.classLink RX10 60 "java/lang/IllegalArgumentException") (by decide +kernel)) (hts (.initialized "java/lang/IllegalArgumentException") (by decide +kernel)) hsa (wq_hat hE hts ix_k_X10_checkLevel_64 (by decide +kernel) (by decide +kernel)) (by decide +kernel) hE.zu hE.zs hS (hl.1.trans hml.symm) dX10_checkLevel_10 dX10_checkLevel_13 dX10_checkLevel_14 dX10_checkLevel_17 dX10_checkLevel_20 (fun x hx => (hEx x hx).elim) (Nat.le_of_ble_eq_true rfl) (Nat.le_of_ble_eq_true rfl) (Nat.le_of_ble_eq_true rfl) (Nat.le_of_ble_eq_true rfl) hlocks (fun t ha hz hk => wq_thr hS (by exact (Or.inl ⟨rfl, c_1⟩)) hz hk) hS.2.2 (Nat.le_of_ble_eq_true rfl) (Nat.le_of_ble_eq_true rfl)
  · refine lv_iload_n hx hb dX10_checkLevel_5 rfl (lv_at hl 1 rfl) ?_
    refine lv_iconst (v := 3) hx hb dX10_checkLevel_6 (by decide) ?_
    refine lv_icmp_le (tgt := 21) hx hb dX10_checkLevel_7 (by decide) (fun c_2 => ?_) (fun c_2 => ?_)
    · have hP9 := hP.sub (ws' := [(x0, .inr (15, [.ref x1, .ref x8, .ref x20, .ref x39, .ref x41, .ref x43, .ref x45]))]) [0] rfl
      have hD9 := hD.sub (ws' := [(x0, .inr (15, [.ref x1, .ref x8, .ref x20, .ref x39, .ref x41, .ref x43, .ref x45]))]) [0] (by decide) rfl
      refine W.widen (k := 1) (n := 6) (Nat.le_of_ble_eq_true rfl) (Nat.le_of_ble_eq_true rfl) ?_
      refine vx_ret ?_
      exact W.vret hx hb hr (fun t ht hW => ⟨⟨[(x0, .inr (15, [.ref x1, .ref x8, .ref x20, .ref x39, .ref x41, .ref x43, .ref x45]))], rfl, ⟨c_1, c_2, rfl⟩, wq_B.of ht hP9 hD9⟩, hS.F ht⟩) hS.2.2 dX10_checkLevel_21
    · obtain ⟨sa, hsa⟩ := hE.st 359 "levels are 1 to 3" (by decide +kernel)
      exact vx_throwSW (own := RX10) (cls := "java/lang/IllegalArgumentException") (text := "levels are 1 to 3") (names := ["java/lang/RuntimeException", "java/lang/Exception"]) (ik := 60) (is := 359) (ic := 64) (sa := sa) (A := A) hx hb hl9 hown (by decide +kernel) (by decide +kernel) (hts (.classLink RX10 60 "java/lang/IllegalArgumentException") (by decide +kernel)) (hts (.initialized "java/lang/IllegalArgumentException") (by decide +kernel)) hsa (wq_hat hE hts ix_k_X10_checkLevel_64 (by decide +kernel) (by decide +kernel)) (by decide +kernel) hE.zu hE.zs hS (hl.1.trans hml.symm) dX10_checkLevel_10 dX10_checkLevel_13 dX10_checkLevel_14 dX10_checkLevel_17 dX10_checkLevel_20 (fun x hx => (hEx x hx).elim) (Nat.le_of_ble_eq_true rfl) (Nat.le_of_ble_eq_true rfl) (Nat.le_of_ble_eq_true rfl) (Nat.le_of_ble_eq_true rfl) hlocks (fun t ha hz hk => wq_thr hS (by exact (Or.inr ⟨rfl, c_1, c_2⟩)) hz hk) hS.2.2 (Nat.le_of_ble_eq_true rfl) (Nat.le_of_ble_eq_true rfl)
def vs_k_X10_checkRoomForRule : List Cond := .code yX10_checkRoomForRule cX10_checkRoomForRule 1 none :: ([.fieldLink RX10 12 "AnswerFold" "program" "LAnswerFold$Program;"] ++ (u_ws RX10 TX10 7 ++ (u_ws RX6 TX6 10)))
theorem iv_k_X10_checkRoomForRule_X10 : ∀ w ∈ u_ws RX10 TX10 7, w ∈ vs_k_X10_checkRoomForRule := (fun _ h => List.mem_cons_of_mem _ (List.mem_append_right _ (List.mem_append_left _ h)))
theorem iv_k_X10_checkRoomForRule_X6 : ∀ w ∈ u_ws RX6 TX6 10, w ∈ vs_k_X10_checkRoomForRule := (fun _ h => List.mem_cons_of_mem _ (List.mem_append_right _ (List.mem_append_right _ (h))))
set_option maxHeartbeats 4000000 in
set_option maxRecDepth 100000 in
theorem k_X10_checkRoomForRule (l : Launch) (D : va_G) (ty : Nat → ClassId) (td mi sz : Nat) (x0 : Nat) (x1 : Nat) (x8 : Nat) (x20 : Nat) (x39 : Nat) (x41 : Nat) (x43 : Nat) (x45 : Nat) (x2 : Nat) (x3 : Nat) (x4 : Nat) (x5 : Nat) (x6 : Nat) (x7 : Nat) : Met l yX10_checkRoomForRule vs_k_X10_checkRoomForRule { frames := 0, cells := 0, slots := 0, locals := 0 } (va_Pc [.ref x0] (wq_P D ty td mi [(x0, .inr (15, [.ref x1, .ref x8, .ref x20, .ref x39, .ref x41, .ref x43, .ref x45])), (x1, .inr (11, [.ref x2, .int 0, .ref x3, .int 0, .ref x4, .ref x5, .int 1, .ref x6, .ref x7, .int 0]))] sz)) (va_Qv (fun u : va_W => ((u = [(x0, .inr (15, [.ref x1, .ref x8, .ref x20, .ref x39, .ref x41, .ref x43, .ref x45])), (x1, .inr (11, [.ref x2, .int 0, .ref x3, .int 0, .ref x4, .ref x5, .int 1, .ref x6, .ref x7, .int 0]))]))) (wq_B D (va_A [(x0, .inr (15, [.ref x1, .ref x8, .ref x20, .ref x39, .ref x41, .ref x43, .ref x45])), (x1, .inr (11, [.ref x2, .int 0, .ref x3, .int 0, .ref x4, .ref x5, .int 1, .ref x6, .ref x7, .int 0]))] sz)) (va_A [(x0, .inr (15, [.ref x1, .ref x8, .ref x20, .ref x39, .ref x41, .ref x43, .ref x45])), (x1, .inr (11, [.ref x2, .int 0, .ref x3, .int 0, .ref x4, .ref x5, .int 1, .ref x6, .ref x7, .int 0]))] sz)) 0 0 (va_A [(x0, .inr (15, [.ref x1, .ref x8, .ref x20, .ref x39, .ref x41, .ref x43, .ref x45])), (x1, .inr (11, [.ref x2, .int 0, .ref x3, .int 0, .ref x4, .ref x5, .int 1, .ref x6, .ref x7, .int 0]))] sz) := by
  refine Met.ofW (cc := cX10_checkRoomForRule) (maxL := 1) (ret := none) (by decide) rfl ?_
  intro p e s m args below meth c s₁ B hml hv
  obtain ⟨rfl, hsz, hP, hK, hD0, hE⟩ := hv
  have hx := B.exec
  have hb := B.bytes
  have hr := B.returns
  have hts := atoms_spec (ws := vs_k_X10_checkRoomForRule) B.pre
  have hown : s.vm.findClass RX10 = some m.cls := findClass_of_methodNamed B.named
  have hlocks := B.notSynchronized
  subst hsz
  have hD := hD0.self (sz := s.heap.size)
  generalize hAe : va_A [(x0, .inr (15, [.ref x1, .ref x8, .ref x20, .ref x39, .ref x41, .ref x43, .ref x45])), (x1, .inr (11, [.ref x2, .int 0, .ref x3, .int 0, .ref x4, .ref x5, .int 1, .ref x6, .ref x7, .int 0]))] s.heap.size = A at hD hE ⊢
  have hA : ∀ q : Nat, s.heap.size ≤ q → A q := fun q h => by rw [← hAe]; exact Or.inr h
  have hS : va_S A s.heap s.heap [] := va_S.rf
  have hP : va_P D vwCl [(x0, .inr (15, [.ref x1, .ref x8, .ref x20, .ref x39, .ref x41, .ref x43, .ref x45])), (x1, .inr (11, [.ref x2, .int 0, .ref x3, .int 0, .ref x4, .ref x5, .int 1, .ref x6, .ref x7, .int 0]))] s.heap := hP
  have hl := lv_entry ([.ref x0]) (n := 1) (Nat.le_of_ble_eq_true rfl)
  rw [lg_entry_eq]
  generalize (lg_sl ([.ref x0]) ++ List.replicate (1 - (lg_sl ([.ref x0])).length) Slot.unset).toArray = ls at hl ⊢
  have hl : lv_has ls 1 [(0, .ref x0)] := hl
  refine lv_aload_n hx hb dX10_checkRoomForRule_0 rfl (lv_at hl 0 rfl) ?_
  refine va_get (D := D) (ci := 15) (v := .ref x1) (C := RX10) (T := TX10) (N := 7) hx hb hts iv_k_X10_checkRoomForRule_X10 hown hK hP 0 rfl rfl 0 (by decide) (hts (.fieldLink RX10 12 "AnswerFold" "program" "LAnswerFold$Program;") (by decide +kernel)) (fun _ h9 => h9) rfl dX10_checkRoomForRule_1 ?_
  refine va_getN (D := D) (ci := 11) (v := .int 0) (C := RX6) (T := TX6) (N := 10) hx hb hts iv_k_X10_checkRoomForRule_X6 hown hK hP 1 rfl rfl 3 (by decide) (hE.at (.fieldLinkNest "AnswerFold" 361 "AnswerFold$Program" "ruleCount" "I" "AnswerFold") (by decide +kernel)) (fun _ h9 => h9) rfl dX10_checkRoomForRule_4 ?_
  refine lv_bipush (v := 20) hx hb dX10_checkRoomForRule_7 (by decide) ?_
  refine lv_icmp_lt (tgt := 23) hx hb dX10_checkRoomForRule_9 (by decide) (fun _ => ?_) (fun c0 => absurd (by decide) c0)
  have hP9 := hP.sub (ws' := [(x0, .inr (15, [.ref x1, .ref x8, .ref x20, .ref x39, .ref x41, .ref x43, .ref x45])), (x1, .inr (11, [.ref x2, .int 0, .ref x3, .int 0, .ref x4, .ref x5, .int 1, .ref x6, .ref x7, .int 0]))]) [0, 1] rfl
  have hD9 := hD.sub (ws' := [(x0, .inr (15, [.ref x1, .ref x8, .ref x20, .ref x39, .ref x41, .ref x43, .ref x45])), (x1, .inr (11, [.ref x2, .int 0, .ref x3, .int 0, .ref x4, .ref x5, .int 1, .ref x6, .ref x7, .int 0]))]) [0, 1] (by decide) rfl
  refine W.widen (k := 0) (n := 0) (Nat.le_of_ble_eq_true rfl) (Nat.le_of_ble_eq_true rfl) ?_
  exact W.vret hx hb hr (fun t ht hW => ⟨⟨[(x0, .inr (15, [.ref x1, .ref x8, .ref x20, .ref x39, .ref x41, .ref x43, .ref x45])), (x1, .inr (11, [.ref x2, .int 0, .ref x3, .int 0, .ref x4, .ref x5, .int 1, .ref x6, .ref x7, .int 0]))], rfl, rfl, wq_B.of ht hP9 hD9⟩, hS.F ht⟩) hS.2.2 dX10_checkRoomForRule_23
def vs_k_X10_checkWalk : List Cond := .code yX10_checkWalk cX10_checkWalk 1 none :: ([.fieldLink RX10 56 "AnswerFold" "answers" "LAnswerFold$Answers;", .classLink RX10 71 "java/lang/IllegalStateException", .initialized "java/lang/IllegalStateException"] ++ (u_ws RX10 TX10 7 ++ (u_ws RX0 TX0 4 ++ ((vx_atS RX10 75 "java/lang/IllegalStateException" ["java/lang/RuntimeException", "java/lang/Exception"]).filter goodWord))))
theorem iv_k_X10_checkWalk_X0 : ∀ w ∈ u_ws RX0 TX0 4, w ∈ vs_k_X10_checkWalk := (fun _ h => List.mem_cons_of_mem _ (List.mem_append_right _ (List.mem_append_right _ (List.mem_append_left _ h))))
theorem iv_k_X10_checkWalk_X10 : ∀ w ∈ u_ws RX10 TX10 7, w ∈ vs_k_X10_checkWalk := (fun _ h => List.mem_cons_of_mem _ (List.mem_append_right _ (List.mem_append_left _ h)))
theorem ix_k_X10_checkWalk_75 : ∀ w ∈ (vx_atS RX10 75 "java/lang/IllegalStateException" ["java/lang/RuntimeException", "java/lang/Exception"]).filter goodWord, w ∈ vs_k_X10_checkWalk := (fun _ h => List.mem_cons_of_mem _ (List.mem_append_right _ (List.mem_append_right _ (List.mem_append_right _ (h)))))
set_option maxHeartbeats 4000000 in
set_option maxRecDepth 100000 in
theorem k_X10_checkWalk (l : Launch) (hl9 : l.stackTraces = false) (D : va_G) (ty : Nat → ClassId) (td mi sz : Nat) (x0 : Nat) (x1 : Nat) (x8 : Nat) (x20 : Nat) (x39 : Nat) (x41 : Nat) (x43 : Nat) (x45 : Nat) (x46 : Nat) (x47 : Nat) : vx_Met l yX10_checkWalk vs_k_X10_checkWalk { frames := 6, cells := 1, slots := 6, locals := 82 } (va_Pc [.ref x0] (wq_P D ty td mi [(x0, .inr (15, [.ref x1, .ref x8, .ref x20, .ref x39, .ref x41, .ref x43, .ref x45])), (x45, .inr (5, [.ref x46, .ref x47, .int 0, .int 0]))] sz)) (va_Qv (fun u : va_W => False) (wq_B D (va_A [(x0, .inr (15, [.ref x1, .ref x8, .ref x20, .ref x39, .ref x41, .ref x43, .ref x45])), (x45, .inr (5, [.ref x46, .ref x47, .int 0, .int 0]))] sz)) (va_A [(x0, .inr (15, [.ref x1, .ref x8, .ref x20, .ref x39, .ref x41, .ref x43, .ref x45])), (x45, .inr (5, [.ref x46, .ref x47, .int 0, .int 0]))] sz)) (vx_X (fun u : String × va_W => (u = ("java/lang/IllegalStateException", []))) (wq_BX D (va_A [(x0, .inr (15, [.ref x1, .ref x8, .ref x20, .ref x39, .ref x41, .ref x43, .ref x45])), (x45, .inr (5, [.ref x46, .ref x47, .int 0, .int 0]))] sz)) (va_A [(x0, .inr (15, [.ref x1, .ref x8, .ref x20, .ref x39, .ref x41, .ref x43, .ref x45])), (x45, .inr (5, [.ref x46, .ref x47, .int 0, .int 0]))] sz)) 1 6 (va_A [(x0, .inr (15, [.ref x1, .ref x8, .ref x20, .ref x39, .ref x41, .ref x43, .ref x45])), (x45, .inr (5, [.ref x46, .ref x47, .int 0, .int 0]))] sz) := by
  refine vx_ofW (cc := cX10_checkWalk) (maxL := 1) (ret := none) (by decide) rfl ?_
  intro p e s m args below meth c s₁ B hml hEx hv
  obtain ⟨rfl, hsz, hP, hK, hD0, hE⟩ := hv
  have hx := B.exec
  have hb := B.bytes
  have hr := B.returns
  have hts := atoms_spec (ws := vs_k_X10_checkWalk) B.pre
  have hown : s.vm.findClass RX10 = some m.cls := findClass_of_methodNamed B.named
  have hlocks := B.notSynchronized
  subst hsz
  have hD := hD0.self (sz := s.heap.size)
  generalize hAe : va_A [(x0, .inr (15, [.ref x1, .ref x8, .ref x20, .ref x39, .ref x41, .ref x43, .ref x45])), (x45, .inr (5, [.ref x46, .ref x47, .int 0, .int 0]))] s.heap.size = A at hD hE ⊢
  have hA : ∀ q : Nat, s.heap.size ≤ q → A q := fun q h => by rw [← hAe]; exact Or.inr h
  have hS : va_S A s.heap s.heap [] := va_S.rf
  have hP : va_P D vwCl [(x0, .inr (15, [.ref x1, .ref x8, .ref x20, .ref x39, .ref x41, .ref x43, .ref x45])), (x45, .inr (5, [.ref x46, .ref x47, .int 0, .int 0]))] s.heap := hP
  have hl := lv_entry ([.ref x0]) (n := 1) (Nat.le_of_ble_eq_true rfl)
  rw [lg_entry_eq]
  generalize (lg_sl ([.ref x0]) ++ List.replicate (1 - (lg_sl ([.ref x0])).length) Slot.unset).toArray = ls at hl ⊢
  have hl : lv_has ls 1 [(0, .ref x0)] := hl
  refine lv_aload_n hx hb dX10_checkWalk_0 rfl (lv_at hl 0 rfl) ?_
  refine va_get (D := D) (ci := 15) (v := .ref x45) (C := RX10) (T := TX10) (N := 7) hx hb hts iv_k_X10_checkWalk_X10 hown hK hP 0 rfl rfl 6 (by decide) (hts (.fieldLink RX10 56 "AnswerFold" "answers" "LAnswerFold$Answers;") (by decide +kernel)) (fun _ h9 => h9) rfl dX10_checkWalk_1 ?_
  refine va_getN (D := D) (ci := 5) (v := .int 0) (C := RX0) (T := TX0) (N := 4) hx hb hts iv_k_X10_checkWalk_X0 hown hK hP 1 rfl rfl 3 (by decide) (hE.at (.fieldLinkNest "AnswerFold" 235 "AnswerFold$Answers" "isKept" "Z" "AnswerFold") (by decide +kernel)) (fun _ h9 => h9) rfl dX10_checkWalk_4 ?_
  refine lv_if_ne (tgt := 21) hx hb dX10_checkWalk_7 (by decide) (fun c0 => absurd (by decide) c0) (fun _ => ?_)
  obtain ⟨sa, hsa⟩ := hE.st 371 "no walk is kept" (by decide +kernel)
  exact vx_throwSW (own := RX10) (cls := "java/lang/IllegalStateException") (text := "no walk is kept") (names := ["java/lang/RuntimeException", "java/lang/Exception"]) (ik := 71) (is := 371) (ic := 75) (sa := sa) (A := A) hx hb hl9 hown (by decide +kernel) (by decide +kernel) (hts (.classLink RX10 71 "java/lang/IllegalStateException") (by decide +kernel)) (hts (.initialized "java/lang/IllegalStateException") (by decide +kernel)) hsa (wq_hat hE hts ix_k_X10_checkWalk_75 (by decide +kernel) (by decide +kernel)) (by decide +kernel) hE.zu hE.zs hS (hl.1.trans hml.symm) dX10_checkWalk_10 dX10_checkWalk_13 dX10_checkWalk_14 dX10_checkWalk_17 dX10_checkWalk_20 (fun x hx => (hEx x hx).elim) (Nat.le_of_ble_eq_true rfl) (Nat.le_of_ble_eq_true rfl) (Nat.le_of_ble_eq_true rfl) (Nat.le_of_ble_eq_true rfl) hlocks (fun t ha hz hk => wq_thr hS (by exact rfl) hz hk) hS.2.2 (Nat.le_of_ble_eq_true rfl) (Nat.le_of_ble_eq_true rfl)
def vs_k_X10_checkedAnswer : List Cond := .code yX10_checkedAnswer cX10_checkedAnswer 2 (some .int) :: ([.methodLink RX10 312 yX10_checkWalk, .instanceMethod yX10_checkWalk, .selects RX10 yX10_checkWalk yX10_checkWalk, .initialized RX10] ++ (vs_k_X10_checkWalk))
set_option maxRecDepth 20000 in
theorem gv_k_X10_checkedAnswer_0 : GoodIn vs_k_X10_checkedAnswer (wsV RX10 312 RX10 yX10_checkWalk vs_k_X10_checkWalk) := goodIn_app (goodIn_sub (by decide +kernel) (by decide +kernel)) (goodIn_sub (fun _ h => List.mem_cons_of_mem _ (List.mem_append_right _ (h))) (by decide +kernel))
set_option maxHeartbeats 4000000 in
set_option maxRecDepth 100000 in
theorem k_X10_checkedAnswer (l : Launch) (hl9 : l.stackTraces = false) (D : va_G) (ty : Nat → ClassId) (td mi sz : Nat) (x0 : Nat) (x1 : Nat) (x8 : Nat) (x20 : Nat) (x39 : Nat) (x41 : Nat) (x43 : Nat) (x45 : Nat) (x46 : Nat) (x47 : Nat) (k1 : Int32) : vx_Met l yX10_checkedAnswer vs_k_X10_checkedAnswer { frames := 7, cells := 1, slots := 6, locals := 102 } (va_Pc [.ref x0, .int k1] (wq_P D ty td mi [(x0, .inr (15, [.ref x1, .ref x8, .ref x20, .ref x39, .ref x41, .ref x43, .ref x45])), (x45, .inr (5, [.ref x46, .ref x47, .int 0, .int 0]))] sz)) (va_Qi (fun (r : Int32) (u : va_W) => False) (wq_B D (va_A [(x0, .inr (15, [.ref x1, .ref x8, .ref x20, .ref x39, .ref x41, .ref x43, .ref x45])), (x45, .inr (5, [.ref x46, .ref x47, .int 0, .int 0]))] sz)) (va_A [(x0, .inr (15, [.ref x1, .ref x8, .ref x20, .ref x39, .ref x41, .ref x43, .ref x45])), (x45, .inr (5, [.ref x46, .ref x47, .int 0, .int 0]))] sz)) (vx_X (fun u : String × va_W => (u = ("java/lang/IllegalStateException", []))) (wq_BX D (va_A [(x0, .inr (15, [.ref x1, .ref x8, .ref x20, .ref x39, .ref x41, .ref x43, .ref x45])), (x45, .inr (5, [.ref x46, .ref x47, .int 0, .int 0]))] sz)) (va_A [(x0, .inr (15, [.ref x1, .ref x8, .ref x20, .ref x39, .ref x41, .ref x43, .ref x45])), (x45, .inr (5, [.ref x46, .ref x47, .int 0, .int 0]))] sz)) 1 6 (va_A [(x0, .inr (15, [.ref x1, .ref x8, .ref x20, .ref x39, .ref x41, .ref x43, .ref x45])), (x45, .inr (5, [.ref x46, .ref x47, .int 0, .int 0]))] sz) := by
  refine vx_ofW (cc := cX10_checkedAnswer) (maxL := 2) (ret := (some .int)) (by decide) rfl ?_
  intro p e s m args below meth c s₁ B hml hEx hv
  obtain ⟨rfl, hsz, hP, hK, hD0, hE⟩ := hv
  have hx := B.exec
  have hb := B.bytes
  have hr := B.returns
  have hts := atoms_spec (ws := vs_k_X10_checkedAnswer) B.pre
  have hown : s.vm.findClass RX10 = some m.cls := findClass_of_methodNamed B.named
  have hlocks := B.notSynchronized
  subst hsz
  have hD := hD0.self (sz := s.heap.size)
  generalize hAe : va_A [(x0, .inr (15, [.ref x1, .ref x8, .ref x20, .ref x39, .ref x41, .ref x43, .ref x45])), (x45, .inr (5, [.ref x46, .ref x47, .int 0, .int 0]))] s.heap.size = A at hD hE ⊢
  have hA : ∀ q : Nat, s.heap.size ≤ q → A q := fun q h => by rw [← hAe]; exact Or.inr h
  have hS : va_S A s.heap s.heap [] := va_S.rf
  have hP : va_P D vwCl [(x0, .inr (15, [.ref x1, .ref x8, .ref x20, .ref x39, .ref x41, .ref x43, .ref x45])), (x45, .inr (5, [.ref x46, .ref x47, .int 0, .int 0]))] s.heap := hP
  have hl := lv_entry ([.ref x0, .int k1]) (n := 2) (Nat.le_of_ble_eq_true rfl)
  rw [lg_entry_eq]
  generalize (lg_sl ([.ref x0, .int k1]) ++ List.replicate (2 - (lg_sl ([.ref x0, .int k1])).length) Slot.unset).toArray = ls at hl ⊢
  have hl : lv_has ls 2 [(0, .ref x0), (1, .int k1)] := hl
  refine lv_aload_n hx hb dX10_checkedAnswer_0 rfl (lv_at hl 0 rfl) ?_
  refine wq_xv (wc := [(x0, .inr (15, [.ref x1, .ref x8, .ref x20, .ref x39, .ref x41, .ref x43, .ref x45])), (x45, .inr (5, [.ref x46, .ref x47, .int 0, .int 0]))]) (wr := []) (vx_runV (As := []) (rest := []) ⟨hx, hb, hml, hown, hts⟩ (k_X10_checkWalk l hl9 D ty td mi s.heap.size x0 x1 x8 x20 x39 x41 x43 x45 x46 x47) (cwV 0 hts gv_k_X10_checkedAnswer_0 rfl rfl rfl (by decide +kernel) ⟨(Nat.le_of_ble_eq_true rfl), (Nat.le_of_ble_eq_true rfl)⟩) (wq_preV hP hD hK hE hS hA [0, 1] rfl (by decide) 0 15 rfl rfl) rfl rfl hl.1 rfl (lv_room (Nat.le_of_ble_eq_true rfl)) dX10_checkedAnswer_1 ⟨(Nat.le_of_ble_eq_true rfl), (Nat.le_of_ble_eq_true rfl)⟩) hS hA hP hD [0, 1] [] rfl rfl (by decide) (by decide) (fun E9 u H locs q9 ce hw hP hD hS hce hcv hcl => ?_) (fun u H locs hw hP hD hS => ?_)
  · have hEq := hw
    cases hEq
    have hP : va_P D vwCl [] H := hP
    have hD : va_D A [] := hD
    refine vx_widen (k := 1) (n := 6) (Nat.le_of_ble_eq_true rfl) (Nat.le_of_ble_eq_true rfl) ?_
    exact vx_out (E := "java/lang/IllegalStateException") (fun x hx => (hEx x hx).elim) hlocks hce hcv hcl (fun t ht ha => wq_thr0 hS (by exact rfl) ht) hS.2.2 (Nat.le_refl _) (Nat.le_refl _)
  · exact hw.elim
def vs_k_X10_checkedAtom : List Cond := .code yX10_checkedAtom cX10_checkedAtom 5 (some .int) :: ([.fieldLink RX10 12 "AnswerFold" "program" "LAnswerFold$Program;", .methodLink RX10 130 yX6_hasPredicate, .instanceMethod yX6_hasPredicate, .selects RX6 yX6_hasPredicate yX6_hasPredicate, .initialized RX6, .classLink RX10 134 "java/lang/IndexOutOfBoundsException", .initialized "java/lang/IndexOutOfBoundsException"] ++ (u_ws RX10 TX10 7 ++ (vs_k_X6_hasPredicate ++ ((vx_atS RX10 138 "java/lang/IndexOutOfBoundsException" ["java/lang/RuntimeException", "java/lang/Exception"]).filter goodWord))))
theorem iv_k_X10_checkedAtom_X10 : ∀ w ∈ u_ws RX10 TX10 7, w ∈ vs_k_X10_checkedAtom := (fun _ h => List.mem_cons_of_mem _ (List.mem_append_right _ (List.mem_append_left _ h)))
theorem ix_k_X10_checkedAtom_138 : ∀ w ∈ (vx_atS RX10 138 "java/lang/IndexOutOfBoundsException" ["java/lang/RuntimeException", "java/lang/Exception"]).filter goodWord, w ∈ vs_k_X10_checkedAtom := (fun _ h => List.mem_cons_of_mem _ (List.mem_append_right _ (List.mem_append_right _ (List.mem_append_right _ (h)))))
set_option maxRecDepth 20000 in
theorem gv_k_X10_checkedAtom_0 : GoodIn vs_k_X10_checkedAtom (wsV RX10 130 RX6 yX6_hasPredicate vs_k_X6_hasPredicate) := goodIn_app (goodIn_sub (by decide +kernel) (by decide +kernel)) (goodIn_sub (fun _ h => List.mem_cons_of_mem _ (List.mem_append_right _ (List.mem_append_right _ (List.mem_append_left _ h)))) (by decide +kernel))
set_option maxHeartbeats 4000000 in
set_option maxRecDepth 100000 in
theorem k_X10_checkedAtom (l : Launch) (hl9 : l.stackTraces = false) (D : va_G) (ty : Nat → ClassId) (td mi sz : Nat) (x0 : Nat) (x1 : Nat) (x8 : Nat) (x20 : Nat) (x39 : Nat) (x41 : Nat) (x43 : Nat) (x45 : Nat) (x2 : Nat) (x3 : Nat) (x4 : Nat) (x5 : Nat) (x6 : Nat) (x7 : Nat) (k1 : Int32) (k2 : Int32) (k3 : Int32) : vx_Met l yX10_checkedAtom vs_k_X10_checkedAtom { frames := 6, cells := 1, slots := 6, locals := 82 } (va_Pc [.ref x0, .int k1, .int k2, .int k3] (wq_P D ty td mi [(x0, .inr (15, [.ref x1, .ref x8, .ref x20, .ref x39, .ref x41, .ref x43, .ref x45])), (x1, .inr (11, [.ref x2, .int 0, .ref x3, .int 0, .ref x4, .ref x5, .int 1, .ref x6, .ref x7, .int 0]))] sz)) (va_Qi (fun (r : Int32) (u : va_W) => False) (wq_B D (va_A [(x0, .inr (15, [.ref x1, .ref x8, .ref x20, .ref x39, .ref x41, .ref x43, .ref x45])), (x1, .inr (11, [.ref x2, .int 0, .ref x3, .int 0, .ref x4, .ref x5, .int 1, .ref x6, .ref x7, .int 0]))] sz)) (va_A [(x0, .inr (15, [.ref x1, .ref x8, .ref x20, .ref x39, .ref x41, .ref x43, .ref x45])), (x1, .inr (11, [.ref x2, .int 0, .ref x3, .int 0, .ref x4, .ref x5, .int 1, .ref x6, .ref x7, .int 0]))] sz)) (vx_X (fun u : String × va_W => (u = ("java/lang/IndexOutOfBoundsException", []))) (wq_BX D (va_A [(x0, .inr (15, [.ref x1, .ref x8, .ref x20, .ref x39, .ref x41, .ref x43, .ref x45])), (x1, .inr (11, [.ref x2, .int 0, .ref x3, .int 0, .ref x4, .ref x5, .int 1, .ref x6, .ref x7, .int 0]))] sz)) (va_A [(x0, .inr (15, [.ref x1, .ref x8, .ref x20, .ref x39, .ref x41, .ref x43, .ref x45])), (x1, .inr (11, [.ref x2, .int 0, .ref x3, .int 0, .ref x4, .ref x5, .int 1, .ref x6, .ref x7, .int 0]))] sz)) 1 6 (va_A [(x0, .inr (15, [.ref x1, .ref x8, .ref x20, .ref x39, .ref x41, .ref x43, .ref x45])), (x1, .inr (11, [.ref x2, .int 0, .ref x3, .int 0, .ref x4, .ref x5, .int 1, .ref x6, .ref x7, .int 0]))] sz) := by
  refine vx_ofW (cc := cX10_checkedAtom) (maxL := 5) (ret := (some .int)) (by decide) rfl ?_
  intro p e s m args below meth c s₁ B hml hEx hv
  obtain ⟨rfl, hsz, hP, hK, hD0, hE⟩ := hv
  have hx := B.exec
  have hb := B.bytes
  have hr := B.returns
  have hts := atoms_spec (ws := vs_k_X10_checkedAtom) B.pre
  have hown : s.vm.findClass RX10 = some m.cls := findClass_of_methodNamed B.named
  have hlocks := B.notSynchronized
  subst hsz
  have hD := hD0.self (sz := s.heap.size)
  generalize hAe : va_A [(x0, .inr (15, [.ref x1, .ref x8, .ref x20, .ref x39, .ref x41, .ref x43, .ref x45])), (x1, .inr (11, [.ref x2, .int 0, .ref x3, .int 0, .ref x4, .ref x5, .int 1, .ref x6, .ref x7, .int 0]))] s.heap.size = A at hD hE ⊢
  have hA : ∀ q : Nat, s.heap.size ≤ q → A q := fun q h => by rw [← hAe]; exact Or.inr h
  have hS : va_S A s.heap s.heap [] := va_S.rf
  have hP : va_P D vwCl [(x0, .inr (15, [.ref x1, .ref x8, .ref x20, .ref x39, .ref x41, .ref x43, .ref x45])), (x1, .inr (11, [.ref x2, .int 0, .ref x3, .int 0, .ref x4, .ref x5, .int 1, .ref x6, .ref x7, .int 0]))] s.heap := hP
  have hl := lv_entry ([.ref x0, .int k1, .int k2, .int k3]) (n := 5) (Nat.le_of_ble_eq_true rfl)
  rw [lg_entry_eq]
  generalize (lg_sl ([.ref x0, .int k1, .int k2, .int k3]) ++ List.replicate (5 - (lg_sl ([.ref x0, .int k1, .int k2, .int k3])).length) Slot.unset).toArray = ls at hl ⊢
  have hl : lv_has ls 5 [(0, .ref x0), (1, .int k1), (2, .int k2), (3, .int k3)] := hl
  refine lv_aload_n hx hb dX10_checkedAtom_0 rfl (lv_at hl 0 rfl) ?_
  refine va_get (D := D) (ci := 15) (v := .ref x1) (C := RX10) (T := TX10) (N := 7) hx hb hts iv_k_X10_checkedAtom_X10 hown hK hP 0 rfl rfl 0 (by decide) (hts (.fieldLink RX10 12 "AnswerFold" "program" "LAnswerFold$Program;") (by decide +kernel)) (fun _ h9 => h9) rfl dX10_checkedAtom_1 ?_
  refine lv_iload_n hx hb dX10_checkedAtom_4 rfl (lv_at hl 1 rfl) ?_
  refine wq_i (wc := [(x1, .inr (11, [.ref x2, .int 0, .ref x3, .int 0, .ref x4, .ref x5, .int 1, .ref x6, .ref x7, .int 0]))]) (wr := [(x0, .inr (15, [.ref x1, .ref x8, .ref x20, .ref x39, .ref x41, .ref x43, .ref x45]))]) (va_runV (As := [.int k1]) (rest := []) ⟨hx, hb, hml, hown, hts⟩ (k_X6_hasPredicate l D ty td mi s.heap.size x1 x2 x3 x4 x5 x6 x7 k1) (cwV 1 hts gv_k_X10_checkedAtom_0 rfl rfl rfl (by decide +kernel) ⟨(Nat.le_of_ble_eq_true rfl), (Nat.le_of_ble_eq_true rfl)⟩) (wq_preV hP hD hK hE hS hA [1] rfl (by decide) 1 11 rfl rfl) rfl rfl hl.1 rfl (lv_room (Nat.le_of_ble_eq_true rfl)) dX10_checkedAtom_5 ⟨(Nat.le_of_ble_eq_true rfl), (Nat.le_of_ble_eq_true rfl)⟩) hS hA hP hD [1] [0] rfl rfl (by decide) (by decide) (fun r u H locs hw hP hD hS => ?_)
  obtain ⟨rfl, rfl⟩ := hw
  have hP : va_P D vwCl [(x0, .inr (15, [.ref x1, .ref x8, .ref x20, .ref x39, .ref x41, .ref x43, .ref x45])), (x1, .inr (11, [.ref x2, .int 0, .ref x3, .int 0, .ref x4, .ref x5, .int 1, .ref x6, .ref x7, .int 0]))] H := hP
  have hD : va_D A [(x0, .inr (15, [.ref x1, .ref x8, .ref x20, .ref x39, .ref x41, .ref x43, .ref x45])), (x1, .inr (11, [.ref x2, .int 0, .ref x3, .int 0, .ref x4, .ref x5, .int 1, .ref x6, .ref x7, .int 0]))] := hD
  refine W.widen (k := 0) (n := 0) (Nat.le_of_ble_eq_true rfl) (Nat.le_of_ble_eq_true rfl) ?_
  refine lv_if_ne (tgt := 22) hx hb dX10_checkedAtom_8 (by decide) (fun c0 => absurd (by decide) c0) (fun _ => ?_)
  obtain ⟨sa, hsa⟩ := hE.st 318 "no such predicate" (by decide +kernel)
  exact vx_throwSW (own := RX10) (cls := "java/lang/IndexOutOfBoundsException") (text := "no such predicate") (names := ["java/lang/RuntimeException", "java/lang/Exception"]) (ik := 134) (is := 318) (ic := 138) (sa := sa) (A := A) hx hb hl9 hown (by decide +kernel) (by decide +kernel) (hts (.classLink RX10 134 "java/lang/IndexOutOfBoundsException") (by decide +kernel)) (hts (.initialized "java/lang/IndexOutOfBoundsException") (by decide +kernel)) hsa (wq_hat hE hts ix_k_X10_checkedAtom_138 (by decide +kernel) (by decide +kernel)) (by decide +kernel) hE.zu hE.zs hS (hl.1.trans hml.symm) dX10_checkedAtom_11 dX10_checkedAtom_14 dX10_checkedAtom_15 dX10_checkedAtom_18 dX10_checkedAtom_21 (fun x hx => (hEx x hx).elim) (Nat.le_of_ble_eq_true rfl) (Nat.le_of_ble_eq_true rfl) (Nat.le_of_ble_eq_true rfl) (Nat.le_of_ble_eq_true rfl) hlocks (fun t ha hz hk => wq_thr hS (by exact rfl) hz hk) hS.2.2 (Nat.le_of_ble_eq_true rfl) (Nat.le_of_ble_eq_true rfl)
def vs_k_X10_isValue : List Cond := .code yX10_isValue cX10_isValue 1 (some .boolean) :: ([])
set_option maxHeartbeats 4000000 in
set_option maxRecDepth 100000 in
theorem k_X10_isValue (l : Launch) (D : va_G) (ty : Nat → ClassId) (td mi sz : Nat) (k1 : Int32) : Met l yX10_isValue vs_k_X10_isValue { frames := 0, cells := 0, slots := 0, locals := 0 } (va_Pc [.int k1] (wq_P D ty td mi [] sz)) (va_Qi (fun (r : Int32) (u : va_W) => (r = 0 ∧ (k1 < 0) ∧ (u = [])) ∨ (r = 0 ∧ (¬ (k1 < 0)) ∧ (8 ≤ k1) ∧ (u = [])) ∨ (r = 1 ∧ (¬ (k1 < 0)) ∧ (¬ (8 ≤ k1)) ∧ (u = []))) (wq_B D (va_A [] sz)) (va_A [] sz)) 0 0 (va_A [] sz) := by
  refine Met.ofW (cc := cX10_isValue) (maxL := 1) (ret := (some .boolean)) (by decide) rfl ?_
  intro p e s m args below meth c s₁ B hml hv
  obtain ⟨rfl, hsz, hP, hK, hD0, hE⟩ := hv
  have hx := B.exec
  have hb := B.bytes
  have hr := B.returns
  have hts := atoms_spec (ws := vs_k_X10_isValue) B.pre
  have hown : s.vm.findClass RX10 = some m.cls := findClass_of_methodNamed B.named
  have hlocks := B.notSynchronized
  subst hsz
  have hD := hD0.self (sz := s.heap.size)
  generalize hAe : va_A [] s.heap.size = A at hD hE ⊢
  have hA : ∀ q : Nat, s.heap.size ≤ q → A q := fun q h => by rw [← hAe]; exact Or.inr h
  have hS : va_S A s.heap s.heap [] := va_S.rf
  have hP : va_P D vwCl [] s.heap := hP
  have hl := lv_entry ([.int k1]) (n := 1) (Nat.le_of_ble_eq_true rfl)
  rw [lg_entry_eq]
  generalize (lg_sl ([.int k1]) ++ List.replicate (1 - (lg_sl ([.int k1])).length) Slot.unset).toArray = ls at hl ⊢
  have hl : lv_has ls 1 [(0, .int k1)] := hl
  refine lv_iload_n hx hb dX10_isValue_0 rfl (lv_at hl 0 rfl) ?_
  refine lv_if_lt (tgt := 14) hx hb dX10_isValue_1 (by decide) (fun c_1 => ?_) (fun c_1 => ?_)
  · refine lv_iconst (v := 0) hx hb dX10_isValue_14 (by decide) ?_
    have hP9 := hP.sub (ws' := []) [] rfl
    have hD9 := hD.sub (ws' := []) [] (by decide) rfl
    refine W.widen (k := 0) (n := 0) (Nat.le_of_ble_eq_true rfl) (Nat.le_of_ble_eq_true rfl) ?_
    exact W.zret (v := 0) hx hb hr rfl (fun t ht hW => ⟨⟨0, [], rfl, (Or.inl ⟨rfl, c_1, rfl⟩), wq_B.of ht hP9 hD9⟩, hS.F ht⟩) hS.2.2 dX10_isValue_15
  · refine lv_iload_n hx hb dX10_isValue_4 rfl (lv_at hl 0 rfl) ?_
    refine lv_bipush (v := 8) hx hb dX10_isValue_5 (by decide) ?_
    refine lv_icmp_ge (tgt := 14) hx hb dX10_isValue_7 (by decide) (fun c_2 => ?_) (fun c_2 => ?_)
    · refine lv_iconst (v := 0) hx hb dX10_isValue_14 (by decide) ?_
      have hP9 := hP.sub (ws' := []) [] rfl
      have hD9 := hD.sub (ws' := []) [] (by decide) rfl
      refine W.widen (k := 0) (n := 0) (Nat.le_of_ble_eq_true rfl) (Nat.le_of_ble_eq_true rfl) ?_
      exact W.zret (v := 0) hx hb hr rfl (fun t ht hW => ⟨⟨0, [], rfl, (Or.inr (Or.inl ⟨rfl, c_1, c_2, rfl⟩)), wq_B.of ht hP9 hD9⟩, hS.F ht⟩) hS.2.2 dX10_isValue_15
    · refine lv_iconst (v := 1) hx hb dX10_isValue_10 (by decide) ?_
      refine lv_goto (tgt := 15) hx hb dX10_isValue_11 (by decide) ?_
      have hP9 := hP.sub (ws' := []) [] rfl
      have hD9 := hD.sub (ws' := []) [] (by decide) rfl
      refine W.widen (k := 0) (n := 0) (Nat.le_of_ble_eq_true rfl) (Nat.le_of_ble_eq_true rfl) ?_
      exact W.zret (v := 1) hx hb hr rfl (fun t ht hW => ⟨⟨1, [], rfl, (Or.inr (Or.inr ⟨rfl, c_1, c_2, rfl⟩)), wq_B.of ht hP9 hD9⟩, hS.F ht⟩) hS.2.2 dX10_isValue_15
def vs_k_X10_addPredicate : List Cond := .code yX10_addPredicate cX10_addPredicate 2 (some .int) :: ([.classLink RX10 60 "java/lang/IllegalArgumentException", .initialized "java/lang/IllegalArgumentException", .fieldLink RX10 12 "AnswerFold" "program" "LAnswerFold$Program;", .methodLink RX10 76 yX10_forgetGrounding, .instanceMethod yX10_forgetGrounding, .selects RX10 yX10_forgetGrounding yX10_forgetGrounding, .initialized RX10, .methodLink RX10 79 yX6_tellPredicate, .instanceMethod yX6_tellPredicate, .selects RX6 yX6_tellPredicate yX6_tellPredicate, .initialized RX6] ++ ((vx_atS RX10 64 "java/lang/IllegalArgumentException" ["java/lang/RuntimeException", "java/lang/Exception"]).filter goodWord ++ (u_ws RX10 TX10 7 ++ (u_ws RX6 TX6 10 ++ (vs_k_X10_forgetGrounding ++ (vs_k_X6_tellPredicate))))))
theorem iv_k_X10_addPredicate_X10 : ∀ w ∈ u_ws RX10 TX10 7, w ∈ vs_k_X10_addPredicate := (fun _ h => List.mem_cons_of_mem _ (List.mem_append_right _ (List.mem_append_right _ (List.mem_append_left _ h))))
theorem iv_k_X10_addPredicate_X6 : ∀ w ∈ u_ws RX6 TX6 10, w ∈ vs_k_X10_addPredicate := (fun _ h => List.mem_cons_of_mem _ (List.mem_append_right _ (List.mem_append_right _ (List.mem_append_right _ (List.mem_append_left _ h)))))
theorem ix_k_X10_addPredicate_64 : ∀ w ∈ (vx_atS RX10 64 "java/lang/IllegalArgumentException" ["java/lang/RuntimeException", "java/lang/Exception"]).filter goodWord, w ∈ vs_k_X10_addPredicate := (fun _ h => List.mem_cons_of_mem _ (List.mem_append_right _ (List.mem_append_left _ h)))
set_option maxRecDepth 20000 in
theorem gv_k_X10_addPredicate_0 : GoodIn vs_k_X10_addPredicate (wsV RX10 76 RX10 yX10_forgetGrounding vs_k_X10_forgetGrounding) := goodIn_app (goodIn_sub (by decide +kernel) (by decide +kernel)) (goodIn_sub (fun _ h => List.mem_cons_of_mem _ (List.mem_append_right _ (List.mem_append_right _ (List.mem_append_right _ (List.mem_append_right _ (List.mem_append_left _ h)))))) (by decide +kernel))
set_option maxRecDepth 20000 in
theorem gv_k_X10_addPredicate_1 : GoodIn vs_k_X10_addPredicate (wsV RX10 79 RX6 yX6_tellPredicate vs_k_X6_tellPredicate) := goodIn_app (goodIn_sub (by decide +kernel) (by decide +kernel)) (goodIn_sub (fun _ h => List.mem_cons_of_mem _ (List.mem_append_right _ (List.mem_append_right _ (List.mem_append_right _ (List.mem_append_right _ (List.mem_append_right _ (h))))))) (by decide +kernel))
set_option maxHeartbeats 4000000 in
set_option maxRecDepth 100000 in
theorem k_X10_addPredicate (l : Launch) (hl9 : l.stackTraces = false) (D : va_G) (ty : Nat → ClassId) (td mi sz : Nat) (x0 : Nat) (x1 : Nat) (x8 : Nat) (x20 : Nat) (x39 : Nat) (x41 : Nat) (x43 : Nat) (x45 : Nat) (x2 : Nat) (x3 : Nat) (x4 : Nat) (x5 : Nat) (x6 : Nat) (x7 : Nat) (x9 : Nat) (x10 : Nat) (x12 : Nat) (x14 : Nat) (x15 : Nat) (x16 : Nat) (x17 : Nat) (x18 : Nat) (x19 : Nat) (x21 : Nat) (x28 : Nat) (x35 : Nat) (x36 : Nat) (x37 : Nat) (x38 : Nat) (x46 : Nat) (x47 : Nat) (k1 : Int32) : vx_Met l yX10_addPredicate vs_k_X10_addPredicate { frames := 6, cells := 1, slots := 6, locals := 82 } (va_Pc [.ref x0, .int k1] (wq_P D ty td mi [(x0, .inr (15, [.ref x1, .ref x8, .ref x20, .ref x39, .ref x41, .ref x43, .ref x45])), (x1, .inr (11, [.ref x2, .int 0, .ref x3, .int 0, .ref x4, .ref x5, .int 1, .ref x6, .ref x7, .int 0])), (x2, .inl (ty 0, 6, .inl (fun _ => 0))), (x8, .inr (8, [.ref x1, .ref x9, .ref x10, .ref x12, .ref x14, .int 0, .ref x15, .ref x16, .ref x17, .int 0, .ref x18, .ref x19, .int 0, .int 0, .int 0, .int 0])), (x20, .inr (14, [.ref x1, .ref x8, .ref x21, .ref x28, .ref x35, .int 0, .ref x36, .ref x37, .ref x38, .int 0, .int 0, .int 0, .int 0, .int 0, .int 0, .int 0, .int 0])), (x45, .inr (5, [.ref x46, .ref x47, .int 0, .int 0]))] sz)) (va_Qi (fun (r : Int32) (u : va_W) => (r = 0 ∧ (¬ (k1 < 0)) ∧ (k1 ≤ 2) ∧ (u = []))) (wq_B D (va_A [(x0, .inr (15, [.ref x1, .ref x8, .ref x20, .ref x39, .ref x41, .ref x43, .ref x45])), (x1, .inr (11, [.ref x2, .int 0, .ref x3, .int 0, .ref x4, .ref x5, .int 1, .ref x6, .ref x7, .int 0])), (x2, .inl (ty 0, 6, .inl (fun _ => 0))), (x8, .inr (8, [.ref x1, .ref x9, .ref x10, .ref x12, .ref x14, .int 0, .ref x15, .ref x16, .ref x17, .int 0, .ref x18, .ref x19, .int 0, .int 0, .int 0, .int 0])), (x20, .inr (14, [.ref x1, .ref x8, .ref x21, .ref x28, .ref x35, .int 0, .ref x36, .ref x37, .ref x38, .int 0, .int 0, .int 0, .int 0, .int 0, .int 0, .int 0, .int 0])), (x45, .inr (5, [.ref x46, .ref x47, .int 0, .int 0]))] sz)) (va_A [(x0, .inr (15, [.ref x1, .ref x8, .ref x20, .ref x39, .ref x41, .ref x43, .ref x45])), (x1, .inr (11, [.ref x2, .int 0, .ref x3, .int 0, .ref x4, .ref x5, .int 1, .ref x6, .ref x7, .int 0])), (x2, .inl (ty 0, 6, .inl (fun _ => 0))), (x8, .inr (8, [.ref x1, .ref x9, .ref x10, .ref x12, .ref x14, .int 0, .ref x15, .ref x16, .ref x17, .int 0, .ref x18, .ref x19, .int 0, .int 0, .int 0, .int 0])), (x20, .inr (14, [.ref x1, .ref x8, .ref x21, .ref x28, .ref x35, .int 0, .ref x36, .ref x37, .ref x38, .int 0, .int 0, .int 0, .int 0, .int 0, .int 0, .int 0, .int 0])), (x45, .inr (5, [.ref x46, .ref x47, .int 0, .int 0]))] sz)) (vx_X (fun u : String × va_W => (u = ("java/lang/IllegalArgumentException", []) ∧ (k1 < 0)) ∨ (u = ("java/lang/IllegalArgumentException", []) ∧ (¬ (k1 < 0)) ∧ (¬ (k1 ≤ 2)))) (wq_BX D (va_A [(x0, .inr (15, [.ref x1, .ref x8, .ref x20, .ref x39, .ref x41, .ref x43, .ref x45])), (x1, .inr (11, [.ref x2, .int 0, .ref x3, .int 0, .ref x4, .ref x5, .int 1, .ref x6, .ref x7, .int 0])), (x2, .inl (ty 0, 6, .inl (fun _ => 0))), (x8, .inr (8, [.ref x1, .ref x9, .ref x10, .ref x12, .ref x14, .int 0, .ref x15, .ref x16, .ref x17, .int 0, .ref x18, .ref x19, .int 0, .int 0, .int 0, .int 0])), (x20, .inr (14, [.ref x1, .ref x8, .ref x21, .ref x28, .ref x35, .int 0, .ref x36, .ref x37, .ref x38, .int 0, .int 0, .int 0, .int 0, .int 0, .int 0, .int 0, .int 0])), (x45, .inr (5, [.ref x46, .ref x47, .int 0, .int 0]))] sz)) (va_A [(x0, .inr (15, [.ref x1, .ref x8, .ref x20, .ref x39, .ref x41, .ref x43, .ref x45])), (x1, .inr (11, [.ref x2, .int 0, .ref x3, .int 0, .ref x4, .ref x5, .int 1, .ref x6, .ref x7, .int 0])), (x2, .inl (ty 0, 6, .inl (fun _ => 0))), (x8, .inr (8, [.ref x1, .ref x9, .ref x10, .ref x12, .ref x14, .int 0, .ref x15, .ref x16, .ref x17, .int 0, .ref x18, .ref x19, .int 0, .int 0, .int 0, .int 0])), (x20, .inr (14, [.ref x1, .ref x8, .ref x21, .ref x28, .ref x35, .int 0, .ref x36, .ref x37, .ref x38, .int 0, .int 0, .int 0, .int 0, .int 0, .int 0, .int 0, .int 0])), (x45, .inr (5, [.ref x46, .ref x47, .int 0, .int 0]))] sz)) 1 6 (va_A [(x0, .inr (15, [.ref x1, .ref x8, .ref x20, .ref x39, .ref x41, .ref x43, .ref x45])), (x1, .inr (11, [.ref x2, .int 0, .ref x3, .int 0, .ref x4, .ref x5, .int 1, .ref x6, .ref x7, .int 0])), (x2, .inl (ty 0, 6, .inl (fun _ => 0))), (x8, .inr (8, [.ref x1, .ref x9, .ref x10, .ref x12, .ref x14, .int 0, .ref x15, .ref x16, .ref x17, .int 0, .ref x18, .ref x19, .int 0, .int 0, .int 0, .int 0])), (x20, .inr (14, [.ref x1, .ref x8, .ref x21, .ref x28, .ref x35, .int 0, .ref x36, .ref x37, .ref x38, .int 0, .int 0, .int 0, .int 0, .int 0, .int 0, .int 0, .int 0])), (x45, .inr (5, [.ref x46, .ref x47, .int 0, .int 0]))] sz) := by
  refine vx_ofW (cc := cX10_addPredicate) (maxL := 2) (ret := (some .int)) (by decide) rfl ?_
  intro p e s m args below meth c s₁ B hml hEx hv
  obtain ⟨rfl, hsz, hP, hK, hD0, hE⟩ := hv
  have hx := B.exec
  have hb := B.bytes
  have hr := B.returns
  have hts := atoms_spec (ws := vs_k_X10_addPredicate) B.pre
  have hown : s.vm.findClass RX10 = some m.cls := findClass_of_methodNamed B.named
  have hlocks := B.notSynchronized
  subst hsz
  have hD := hD0.self (sz := s.heap.size)
  generalize hAe : va_A [(x0, .inr (15, [.ref x1, .ref x8, .ref x20, .ref x39, .ref x41, .ref x43, .ref x45])), (x1, .inr (11, [.ref x2, .int 0, .ref x3, .int 0, .ref x4, .ref x5, .int 1, .ref x6, .ref x7, .int 0])), (x2, .inl (ty 0, 6, .inl (fun _ => 0))), (x8, .inr (8, [.ref x1, .ref x9, .ref x10, .ref x12, .ref x14, .int 0, .ref x15, .ref x16, .ref x17, .int 0, .ref x18, .ref x19, .int 0, .int 0, .int 0, .int 0])), (x20, .inr (14, [.ref x1, .ref x8, .ref x21, .ref x28, .ref x35, .int 0, .ref x36, .ref x37, .ref x38, .int 0, .int 0, .int 0, .int 0, .int 0, .int 0, .int 0, .int 0])), (x45, .inr (5, [.ref x46, .ref x47, .int 0, .int 0]))] s.heap.size = A at hD hE ⊢
  have hA : ∀ q : Nat, s.heap.size ≤ q → A q := fun q h => by rw [← hAe]; exact Or.inr h
  have hS : va_S A s.heap s.heap [] := va_S.rf
  have hP : va_P D vwCl [(x0, .inr (15, [.ref x1, .ref x8, .ref x20, .ref x39, .ref x41, .ref x43, .ref x45])), (x1, .inr (11, [.ref x2, .int 0, .ref x3, .int 0, .ref x4, .ref x5, .int 1, .ref x6, .ref x7, .int 0])), (x2, .inl (ty 0, 6, .inl (fun _ => 0))), (x8, .inr (8, [.ref x1, .ref x9, .ref x10, .ref x12, .ref x14, .int 0, .ref x15, .ref x16, .ref x17, .int 0, .ref x18, .ref x19, .int 0, .int 0, .int 0, .int 0])), (x20, .inr (14, [.ref x1, .ref x8, .ref x21, .ref x28, .ref x35, .int 0, .ref x36, .ref x37, .ref x38, .int 0, .int 0, .int 0, .int 0, .int 0, .int 0, .int 0, .int 0])), (x45, .inr (5, [.ref x46, .ref x47, .int 0, .int 0]))] s.heap := hP
  have hl := lv_entry ([.ref x0, .int k1]) (n := 2) (Nat.le_of_ble_eq_true rfl)
  rw [lg_entry_eq]
  generalize (lg_sl ([.ref x0, .int k1]) ++ List.replicate (2 - (lg_sl ([.ref x0, .int k1])).length) Slot.unset).toArray = ls at hl ⊢
  have hl : lv_has ls 2 [(0, .ref x0), (1, .int k1)] := hl
  refine lv_iload_n hx hb dX10_addPredicate_0 rfl (lv_at hl 1 rfl) ?_
  refine lv_if_lt (tgt := 9) hx hb dX10_addPredicate_1 (by decide) (fun c_1 => ?_) (fun c_1 => ?_)
  · obtain ⟨sa, hsa⟩ := hE.st 62 "places are 0 to 2" (by decide +kernel)
    exact vx_throwS (own := RX10) (cls := "java/lang/IllegalArgumentException") (text := "places are 0 to 2") (names := ["java/lang/RuntimeException", "java/lang/Exception"]) (ik := 60) (is := 62) (ic := 64) (sa := sa) (A := A) hx hb hl9 hown (by decide +kernel) (by decide +kernel) (hts (.classLink RX10 60 "java/lang/IllegalArgumentException") (by decide +kernel)) (hts (.initialized "java/lang/IllegalArgumentException") (by decide +kernel)) hsa (wq_hat hE hts ix_k_X10_addPredicate_64 (by decide +kernel) (by decide +kernel)) (by decide +kernel) hE.zu hE.zs hS (hl.1.trans hml.symm) dX10_addPredicate_9 dX10_addPredicate_12 dX10_addPredicate_13 dX10_addPredicate_15 dX10_addPredicate_18 (fun x hx => (hEx x hx).elim) (Nat.le_of_ble_eq_true rfl) (Nat.le_of_ble_eq_true rfl) (Nat.le_of_ble_eq_true rfl) (Nat.le_of_ble_eq_true rfl) hlocks (fun t ha hz hk => wq_thr hS (by exact (Or.inl ⟨rfl, c_1⟩)) hz hk) hS.2.2 (Nat.le_of_ble_eq_true rfl) (Nat.le_of_ble_eq_true rfl)
  · refine lv_iload_n hx hb dX10_addPredicate_4 rfl (lv_at hl 1 rfl) ?_
    refine lv_iconst (v := 2) hx hb dX10_addPredicate_5 (by decide) ?_
    refine lv_icmp_le (tgt := 19) hx hb dX10_addPredicate_6 (by decide) (fun c_2 => ?_) (fun c_2 => ?_)
    · refine lv_aload_n hx hb dX10_addPredicate_19 rfl (lv_at hl 0 rfl) ?_
      refine va_get (D := D) (ci := 15) (v := .ref x1) (C := RX10) (T := TX10) (N := 7) hx hb hts iv_k_X10_addPredicate_X10 hown hK hP 0 rfl rfl 0 (by decide) (hts (.fieldLink RX10 12 "AnswerFold" "program" "LAnswerFold$Program;") (by decide +kernel)) (fun _ h9 => h9) rfl dX10_addPredicate_20 ?_
      refine va_getN (D := D) (ci := 11) (v := .int 0) (C := RX6) (T := TX6) (N := 10) hx hb hts iv_k_X10_addPredicate_X6 hown hK hP 1 rfl rfl 1 (by decide) (hE.at (.fieldLinkNest "AnswerFold" 67 "AnswerFold$Program" "predicateCount" "I" "AnswerFold") (by decide +kernel)) (fun _ h9 => h9) rfl dX10_addPredicate_23 ?_
      refine lv_bipush (v := 6) hx hb dX10_addPredicate_26 (by decide) ?_
      refine lv_icmp_lt (tgt := 41) hx hb dX10_addPredicate_28 (by decide) (fun _ => ?_) (fun c0 => absurd (by decide) c0)
      refine lv_aload_n hx hb dX10_addPredicate_41 rfl (lv_at hl 0 rfl) ?_
      refine wq_v (wc := [(x0, .inr (15, [.ref x1, .ref x8, .ref x20, .ref x39, .ref x41, .ref x43, .ref x45])), (x8, .inr (8, [.ref x1, .ref x9, .ref x10, .ref x12, .ref x14, .int 0, .ref x15, .ref x16, .ref x17, .int 0, .ref x18, .ref x19, .int 0, .int 0, .int 0, .int 0])), (x20, .inr (14, [.ref x1, .ref x8, .ref x21, .ref x28, .ref x35, .int 0, .ref x36, .ref x37, .ref x38, .int 0, .int 0, .int 0, .int 0, .int 0, .int 0, .int 0, .int 0])), (x45, .inr (5, [.ref x46, .ref x47, .int 0, .int 0]))]) (wr := [(x1, .inr (11, [.ref x2, .int 0, .ref x3, .int 0, .ref x4, .ref x5, .int 1, .ref x6, .ref x7, .int 0])), (x2, .inl (ty 0, 6, .inl (fun _ => 0)))]) (va_runV (As := []) (rest := []) ⟨hx, hb, hml, hown, hts⟩ (k_X10_forgetGrounding l D ty td mi s.heap.size x0 x1 x8 x20 x39 x41 x43 x45 x9 x10 x12 x14 x15 x16 x17 x18 x19 x21 x28 x35 x36 x37 x38 x46 x47) (cwV 0 hts gv_k_X10_addPredicate_0 rfl rfl rfl (by decide +kernel) ⟨(Nat.le_of_ble_eq_true rfl), (Nat.le_of_ble_eq_true rfl)⟩) (wq_preV hP hD hK hE hS hA [0, 3, 4, 5] rfl (by decide) 0 15 rfl rfl) rfl rfl hl.1 rfl (lv_room (Nat.le_of_ble_eq_true rfl)) dX10_addPredicate_42 ⟨(Nat.le_of_ble_eq_true rfl), (Nat.le_of_ble_eq_true rfl)⟩) hS hA hP hD [0, 3, 4, 5] [1, 2] rfl rfl (by decide) (by decide) (fun u H locs hw hP hD hS => ?_)
      obtain rfl := hw
      have hP : va_P D vwCl [(x1, .inr (11, [.ref x2, .int 0, .ref x3, .int 0, .ref x4, .ref x5, .int 1, .ref x6, .ref x7, .int 0])), (x2, .inl (ty 0, 6, .inl (fun _ => 0))), (x0, .inr (15, [.ref x1, .ref x8, .ref x20, .ref x39, .ref x41, .ref x43, .ref x45])), (x8, .inr (8, [.ref x1, .ref x9, .ref x10, .ref x12, .ref x14, .int 0, .ref x15, .ref x16, .ref x17, .int 0, .ref x18, .ref x19, .int 0, .int 0, .int 0, .int 0])), (x20, .inr (14, [.ref x1, .ref x8, .ref x21, .ref x28, .ref x35, .int 0, .ref x36, .ref x37, .ref x38, .int 0, .int 0, .int 0, .int 0, .int 0, .int 0, .int 0, .int 0])), (x45, .inr (5, [.ref x46, .ref x47, .int 0, .int 0]))] H := hP
      have hD : va_D A [(x1, .inr (11, [.ref x2, .int 0, .ref x3, .int 0, .ref x4, .ref x5, .int 1, .ref x6, .ref x7, .int 0])), (x2, .inl (ty 0, 6, .inl (fun _ => 0))), (x0, .inr (15, [.ref x1, .ref x8, .ref x20, .ref x39, .ref x41, .ref x43, .ref x45])), (x8, .inr (8, [.ref x1, .ref x9, .ref x10, .ref x12, .ref x14, .int 0, .ref x15, .ref x16, .ref x17, .int 0, .ref x18, .ref x19, .int 0, .int 0, .int 0, .int 0])), (x20, .inr (14, [.ref x1, .ref x8, .ref x21, .ref x28, .ref x35, .int 0, .ref x36, .ref x37, .ref x38, .int 0, .int 0, .int 0, .int 0, .int 0, .int 0, .int 0, .int 0])), (x45, .inr (5, [.ref x46, .ref x47, .int 0, .int 0]))] := hD
      refine W.widen (k := 0) (n := 0) (Nat.le_of_ble_eq_true rfl) (Nat.le_of_ble_eq_true rfl) ?_
      refine lv_aload_n hx hb dX10_addPredicate_45 rfl (lv_at hl 0 rfl) ?_
      refine va_get (D := D) (ci := 15) (v := .ref x1) (C := RX10) (T := TX10) (N := 7) hx hb hts iv_k_X10_addPredicate_X10 hown hK hP 2 rfl rfl 0 (by decide) (hts (.fieldLink RX10 12 "AnswerFold" "program" "LAnswerFold$Program;") (by decide +kernel)) (fun _ h9 => h9) rfl dX10_addPredicate_46 ?_
      refine lv_iload_n hx hb dX10_addPredicate_49 rfl (lv_at hl 1 rfl) ?_
      refine wq_i (wc := [(x1, .inr (11, [.ref x2, .int 0, .ref x3, .int 0, .ref x4, .ref x5, .int 1, .ref x6, .ref x7, .int 0])), (x2, .inl (ty 0, 6, .inl (fun _ => 0)))]) (wr := [(x0, .inr (15, [.ref x1, .ref x8, .ref x20, .ref x39, .ref x41, .ref x43, .ref x45])), (x8, .inr (8, [.ref x1, .ref x9, .ref x10, .ref x12, .ref x14, .int 0, .ref x15, .ref x16, .ref x17, .int 0, .ref x18, .ref x19, .int 0, .int 0, .int 0, .int 0])), (x20, .inr (14, [.ref x1, .ref x8, .ref x21, .ref x28, .ref x35, .int 0, .ref x36, .ref x37, .ref x38, .int 0, .int 0, .int 0, .int 0, .int 0, .int 0, .int 0, .int 0])), (x45, .inr (5, [.ref x46, .ref x47, .int 0, .int 0]))]) (va_runV (As := [.int k1]) (rest := []) ⟨hx, hb, hml, hown, hts⟩ (k_X6_tellPredicate l D ty td mi H.size x1 x2 x3 x4 x5 x6 x7 k1) (cwV 1 hts gv_k_X10_addPredicate_1 rfl rfl rfl (by decide +kernel) ⟨(Nat.le_of_ble_eq_true rfl), (Nat.le_of_ble_eq_true rfl)⟩) (wq_preV hP hD hK hE hS hA [0, 1] rfl (by decide) 0 11 rfl rfl) rfl rfl hl.1 rfl (lv_room (Nat.le_of_ble_eq_true rfl)) dX10_addPredicate_50 ⟨(Nat.le_of_ble_eq_true rfl), (Nat.le_of_ble_eq_true rfl)⟩) hS hA hP hD [0, 1] [2, 3, 4, 5] rfl rfl (by decide) (by decide) (fun r u H locs hw hP hD hS => ?_)
      obtain ⟨rfl, rfl⟩ := hw
      have hP : va_P D vwCl [(x0, .inr (15, [.ref x1, .ref x8, .ref x20, .ref x39, .ref x41, .ref x43, .ref x45])), (x8, .inr (8, [.ref x1, .ref x9, .ref x10, .ref x12, .ref x14, .int 0, .ref x15, .ref x16, .ref x17, .int 0, .ref x18, .ref x19, .int 0, .int 0, .int 0, .int 0])), (x20, .inr (14, [.ref x1, .ref x8, .ref x21, .ref x28, .ref x35, .int 0, .ref x36, .ref x37, .ref x38, .int 0, .int 0, .int 0, .int 0, .int 0, .int 0, .int 0, .int 0])), (x45, .inr (5, [.ref x46, .ref x47, .int 0, .int 0]))] H := hP
      have hD : va_D A [(x0, .inr (15, [.ref x1, .ref x8, .ref x20, .ref x39, .ref x41, .ref x43, .ref x45])), (x8, .inr (8, [.ref x1, .ref x9, .ref x10, .ref x12, .ref x14, .int 0, .ref x15, .ref x16, .ref x17, .int 0, .ref x18, .ref x19, .int 0, .int 0, .int 0, .int 0])), (x20, .inr (14, [.ref x1, .ref x8, .ref x21, .ref x28, .ref x35, .int 0, .ref x36, .ref x37, .ref x38, .int 0, .int 0, .int 0, .int 0, .int 0, .int 0, .int 0, .int 0])), (x45, .inr (5, [.ref x46, .ref x47, .int 0, .int 0]))] := hD
      refine W.widen (k := 0) (n := 0) (Nat.le_of_ble_eq_true rfl) (Nat.le_of_ble_eq_true rfl) ?_
      have hP9 := hP.sub (ws' := []) [] rfl
      have hD9 := hD.sub (ws' := []) [] (by decide) rfl
      refine W.widen (k := 1) (n := 6) (Nat.le_of_ble_eq_true rfl) (Nat.le_of_ble_eq_true rfl) ?_
      refine vx_ret ?_
      exact W.iret (v := 0) hx hb hr (fun t ht hW => ⟨⟨0, [], rfl, ⟨rfl, c_1, c_2, rfl⟩, wq_B.of ht hP9 hD9⟩, hS.F ht⟩) hS.2.2 dX10_addPredicate_53
    · obtain ⟨sa, hsa⟩ := hE.st 62 "places are 0 to 2" (by decide +kernel)
      exact vx_throwS (own := RX10) (cls := "java/lang/IllegalArgumentException") (text := "places are 0 to 2") (names := ["java/lang/RuntimeException", "java/lang/Exception"]) (ik := 60) (is := 62) (ic := 64) (sa := sa) (A := A) hx hb hl9 hown (by decide +kernel) (by decide +kernel) (hts (.classLink RX10 60 "java/lang/IllegalArgumentException") (by decide +kernel)) (hts (.initialized "java/lang/IllegalArgumentException") (by decide +kernel)) hsa (wq_hat hE hts ix_k_X10_addPredicate_64 (by decide +kernel) (by decide +kernel)) (by decide +kernel) hE.zu hE.zs hS (hl.1.trans hml.symm) dX10_addPredicate_9 dX10_addPredicate_12 dX10_addPredicate_13 dX10_addPredicate_15 dX10_addPredicate_18 (fun x hx => (hEx x hx).elim) (Nat.le_of_ble_eq_true rfl) (Nat.le_of_ble_eq_true rfl) (Nat.le_of_ble_eq_true rfl) (Nat.le_of_ble_eq_true rfl) hlocks (fun t ha hz hk => wq_thr hS (by exact (Or.inr ⟨rfl, c_1, c_2⟩)) hz hk) hS.2.2 (Nat.le_of_ble_eq_true rfl) (Nat.le_of_ble_eq_true rfl)
