theorem dL_addPredicate_0 : decode cL_addPredicate 0 = .ok (.aload_n 2, 1) := by decide +kernel
theorem dL_addPredicate_1 : decode cL_addPredicate 1 = .ok (.iconst 0, 1) := by decide +kernel
theorem dL_addPredicate_2 : decode cL_addPredicate 2 = .ok (.aload_n 0, 1) := by decide +kernel
theorem dL_addPredicate_3 : decode cL_addPredicate 3 = .ok (.iload_n 1, 1) := by decide +kernel
theorem dL_addPredicate_4 : decode cL_addPredicate 4 = .ok (.invokevirtual 7, 3) := by decide +kernel
theorem dL_addPredicate_7 : decode cL_addPredicate 7 = .ok (.i2l, 1) := by decide +kernel
theorem dL_addPredicate_8 : decode cL_addPredicate 8 = .ok (.lastore, 1) := by decide +kernel
theorem dL_addPredicate_9 : decode cL_addPredicate 9 = .ok (.goto 9, 3) := by decide +kernel
theorem dL_addPredicate_12 : decode cL_addPredicate 12 = .ok (.astore_n 3, 1) := by decide +kernel
theorem dL_addPredicate_13 : decode cL_addPredicate 13 = .ok (.iconst 1, 1) := by decide +kernel
theorem dL_addPredicate_14 : decode cL_addPredicate 14 = .ok (.ireturn, 1) := by decide +kernel
theorem dL_addPredicate_15 : decode cL_addPredicate 15 = .ok (.astore_n 3, 1) := by decide +kernel
theorem dL_addPredicate_16 : decode cL_addPredicate 16 = .ok (.iconst 2, 1) := by decide +kernel
theorem dL_addPredicate_17 : decode cL_addPredicate 17 = .ok (.ireturn, 1) := by decide +kernel
theorem dL_addPredicate_18 : decode cL_addPredicate 18 = .ok (.iconst 0, 1) := by decide +kernel
theorem dL_addPredicate_19 : decode cL_addPredicate 19 = .ok (.ireturn, 1) := by decide +kernel
theorem dL_addDisjunction_0 : decode cL_addDisjunction 0 = .ok (.aload_n 2, 1) := by decide +kernel
theorem dL_addDisjunction_1 : decode cL_addDisjunction 1 = .ok (.iconst 0, 1) := by decide +kernel
theorem dL_addDisjunction_2 : decode cL_addDisjunction 2 = .ok (.aload_n 0, 1) := by decide +kernel
theorem dL_addDisjunction_3 : decode cL_addDisjunction 3 = .ok (.iload_n 1, 1) := by decide +kernel
theorem dL_addDisjunction_4 : decode cL_addDisjunction 4 = .ok (.invokevirtual 17, 3) := by decide +kernel
theorem dL_addDisjunction_7 : decode cL_addDisjunction 7 = .ok (.i2l, 1) := by decide +kernel
theorem dL_addDisjunction_8 : decode cL_addDisjunction 8 = .ok (.lastore, 1) := by decide +kernel
theorem dL_addDisjunction_9 : decode cL_addDisjunction 9 = .ok (.goto 9, 3) := by decide +kernel
theorem dL_addDisjunction_12 : decode cL_addDisjunction 12 = .ok (.astore_n 3, 1) := by decide +kernel
theorem dL_addDisjunction_13 : decode cL_addDisjunction 13 = .ok (.iconst 1, 1) := by decide +kernel
theorem dL_addDisjunction_14 : decode cL_addDisjunction 14 = .ok (.ireturn, 1) := by decide +kernel
theorem dL_addDisjunction_15 : decode cL_addDisjunction 15 = .ok (.astore_n 3, 1) := by decide +kernel
theorem dL_addDisjunction_16 : decode cL_addDisjunction 16 = .ok (.iconst 2, 1) := by decide +kernel
theorem dL_addDisjunction_17 : decode cL_addDisjunction 17 = .ok (.ireturn, 1) := by decide +kernel
theorem dL_addDisjunction_18 : decode cL_addDisjunction 18 = .ok (.iconst 0, 1) := by decide +kernel
theorem dL_addDisjunction_19 : decode cL_addDisjunction 19 = .ok (.ireturn, 1) := by decide +kernel
theorem dL_addChoice_0 : decode cL_addChoice 0 = .ok (.aload 5, 2) := by decide +kernel
theorem dL_addChoice_2 : decode cL_addChoice 2 = .ok (.iconst 0, 1) := by decide +kernel
theorem dL_addChoice_3 : decode cL_addChoice 3 = .ok (.aload_n 0, 1) := by decide +kernel
theorem dL_addChoice_4 : decode cL_addChoice 4 = .ok (.iload_n 1, 1) := by decide +kernel
theorem dL_addChoice_5 : decode cL_addChoice 5 = .ok (.iload_n 2, 1) := by decide +kernel
theorem dL_addChoice_6 : decode cL_addChoice 6 = .ok (.iload_n 3, 1) := by decide +kernel
theorem dL_addChoice_7 : decode cL_addChoice 7 = .ok (.iload 4, 2) := by decide +kernel
theorem dL_addChoice_9 : decode cL_addChoice 9 = .ok (.invokevirtual 20, 3) := by decide +kernel
theorem dL_addChoice_12 : decode cL_addChoice 12 = .ok (.i2l, 1) := by decide +kernel
theorem dL_addChoice_13 : decode cL_addChoice 13 = .ok (.lastore, 1) := by decide +kernel
theorem dL_addChoice_14 : decode cL_addChoice 14 = .ok (.goto 11, 3) := by decide +kernel
theorem dL_addChoice_17 : decode cL_addChoice 17 = .ok (.astore 6, 2) := by decide +kernel
theorem dL_addChoice_19 : decode cL_addChoice 19 = .ok (.iconst 1, 1) := by decide +kernel
theorem dL_addChoice_20 : decode cL_addChoice 20 = .ok (.ireturn, 1) := by decide +kernel
theorem dL_addChoice_21 : decode cL_addChoice 21 = .ok (.astore 6, 2) := by decide +kernel
theorem dL_addChoice_23 : decode cL_addChoice 23 = .ok (.iconst 2, 1) := by decide +kernel
theorem dL_addChoice_24 : decode cL_addChoice 24 = .ok (.ireturn, 1) := by decide +kernel
theorem dL_addChoice_25 : decode cL_addChoice 25 = .ok (.iconst 0, 1) := by decide +kernel
theorem dL_addChoice_26 : decode cL_addChoice 26 = .ok (.ireturn, 1) := by decide +kernel
theorem dL_addWeak_0 : decode cL_addWeak 0 = .ok (.aload 4, 2) := by decide +kernel
theorem dL_addWeak_2 : decode cL_addWeak 2 = .ok (.iconst 0, 1) := by decide +kernel
theorem dL_addWeak_3 : decode cL_addWeak 3 = .ok (.aload_n 0, 1) := by decide +kernel
theorem dL_addWeak_4 : decode cL_addWeak 4 = .ok (.iload_n 1, 1) := by decide +kernel
theorem dL_addWeak_5 : decode cL_addWeak 5 = .ok (.iload_n 2, 1) := by decide +kernel
theorem dL_addWeak_6 : decode cL_addWeak 6 = .ok (.iload_n 3, 1) := by decide +kernel
theorem dL_addWeak_7 : decode cL_addWeak 7 = .ok (.invokevirtual 24, 3) := by decide +kernel
theorem dL_addWeak_10 : decode cL_addWeak 10 = .ok (.i2l, 1) := by decide +kernel
theorem dL_addWeak_11 : decode cL_addWeak 11 = .ok (.lastore, 1) := by decide +kernel
theorem dL_addWeak_12 : decode cL_addWeak 12 = .ok (.goto 11, 3) := by decide +kernel
theorem dL_addWeak_15 : decode cL_addWeak 15 = .ok (.astore 5, 2) := by decide +kernel
theorem dL_addWeak_17 : decode cL_addWeak 17 = .ok (.iconst 1, 1) := by decide +kernel
theorem dL_addWeak_18 : decode cL_addWeak 18 = .ok (.ireturn, 1) := by decide +kernel
theorem dL_addWeak_19 : decode cL_addWeak 19 = .ok (.astore 5, 2) := by decide +kernel
theorem dL_addWeak_21 : decode cL_addWeak 21 = .ok (.iconst 2, 1) := by decide +kernel
theorem dL_addWeak_22 : decode cL_addWeak 22 = .ok (.ireturn, 1) := by decide +kernel
theorem dL_addWeak_23 : decode cL_addWeak 23 = .ok (.iconst 0, 1) := by decide +kernel
theorem dL_addWeak_24 : decode cL_addWeak 24 = .ok (.ireturn, 1) := by decide +kernel
theorem dL_addHead_0 : decode cL_addHead 0 = .ok (.aload 5, 2) := by decide +kernel
theorem dL_addHead_2 : decode cL_addHead 2 = .ok (.iconst 0, 1) := by decide +kernel
theorem dL_addHead_3 : decode cL_addHead 3 = .ok (.aload_n 0, 1) := by decide +kernel
theorem dL_addHead_4 : decode cL_addHead 4 = .ok (.iload_n 1, 1) := by decide +kernel
theorem dL_addHead_5 : decode cL_addHead 5 = .ok (.iload_n 2, 1) := by decide +kernel
theorem dL_addHead_6 : decode cL_addHead 6 = .ok (.iload_n 3, 1) := by decide +kernel
theorem dL_addHead_7 : decode cL_addHead 7 = .ok (.iload 4, 2) := by decide +kernel
theorem dL_addHead_9 : decode cL_addHead 9 = .ok (.invokevirtual 28, 3) := by decide +kernel
theorem dL_addHead_12 : decode cL_addHead 12 = .ok (.i2l, 1) := by decide +kernel
theorem dL_addHead_13 : decode cL_addHead 13 = .ok (.lastore, 1) := by decide +kernel
theorem dL_addHead_14 : decode cL_addHead 14 = .ok (.goto 15, 3) := by decide +kernel
theorem dL_addHead_17 : decode cL_addHead 17 = .ok (.astore 6, 2) := by decide +kernel
theorem dL_addHead_19 : decode cL_addHead 19 = .ok (.iconst 1, 1) := by decide +kernel
theorem dL_addHead_20 : decode cL_addHead 20 = .ok (.ireturn, 1) := by decide +kernel
theorem dL_addHead_21 : decode cL_addHead 21 = .ok (.astore 6, 2) := by decide +kernel
theorem dL_addHead_23 : decode cL_addHead 23 = .ok (.iconst 2, 1) := by decide +kernel
theorem dL_addHead_24 : decode cL_addHead 24 = .ok (.ireturn, 1) := by decide +kernel
theorem dL_addHead_25 : decode cL_addHead 25 = .ok (.astore 6, 2) := by decide +kernel
theorem dL_addHead_27 : decode cL_addHead 27 = .ok (.iconst 3, 1) := by decide +kernel
theorem dL_addHead_28 : decode cL_addHead 28 = .ok (.ireturn, 1) := by decide +kernel
theorem dL_addHead_29 : decode cL_addHead 29 = .ok (.iconst 0, 1) := by decide +kernel
theorem dL_addHead_30 : decode cL_addHead 30 = .ok (.ireturn, 1) := by decide +kernel
theorem dL_addAtom_0 : decode cL_addAtom 0 = .ok (.aload 6, 2) := by decide +kernel
theorem dL_addAtom_2 : decode cL_addAtom 2 = .ok (.iconst 0, 1) := by decide +kernel
theorem dL_addAtom_3 : decode cL_addAtom 3 = .ok (.aload_n 0, 1) := by decide +kernel
theorem dL_addAtom_4 : decode cL_addAtom 4 = .ok (.iload_n 1, 1) := by decide +kernel
theorem dL_addAtom_5 : decode cL_addAtom 5 = .ok (.iload_n 2, 1) := by decide +kernel
theorem dL_addAtom_6 : decode cL_addAtom 6 = .ok (.iload_n 3, 1) := by decide +kernel
theorem dL_addAtom_7 : decode cL_addAtom 7 = .ok (.iload 4, 2) := by decide +kernel
theorem dL_addAtom_9 : decode cL_addAtom 9 = .ok (.iload 5, 2) := by decide +kernel
theorem dL_addAtom_11 : decode cL_addAtom 11 = .ok (.invokevirtual 33, 3) := by decide +kernel
theorem dL_addAtom_14 : decode cL_addAtom 14 = .ok (.i2l, 1) := by decide +kernel
theorem dL_addAtom_15 : decode cL_addAtom 15 = .ok (.lastore, 1) := by decide +kernel
theorem dL_addAtom_16 : decode cL_addAtom 16 = .ok (.goto 15, 3) := by decide +kernel
theorem dL_addAtom_19 : decode cL_addAtom 19 = .ok (.astore 7, 2) := by decide +kernel
theorem dL_addAtom_21 : decode cL_addAtom 21 = .ok (.iconst 1, 1) := by decide +kernel
theorem dL_addAtom_22 : decode cL_addAtom 22 = .ok (.ireturn, 1) := by decide +kernel
theorem dL_addAtom_23 : decode cL_addAtom 23 = .ok (.astore 7, 2) := by decide +kernel
theorem dL_addAtom_25 : decode cL_addAtom 25 = .ok (.iconst 2, 1) := by decide +kernel
theorem dL_addAtom_26 : decode cL_addAtom 26 = .ok (.ireturn, 1) := by decide +kernel
theorem dL_addAtom_27 : decode cL_addAtom 27 = .ok (.astore 7, 2) := by decide +kernel
theorem dL_addAtom_29 : decode cL_addAtom 29 = .ok (.iconst 3, 1) := by decide +kernel
theorem dL_addAtom_30 : decode cL_addAtom 30 = .ok (.ireturn, 1) := by decide +kernel
theorem dL_addAtom_31 : decode cL_addAtom 31 = .ok (.iconst 0, 1) := by decide +kernel
theorem dL_addAtom_32 : decode cL_addAtom 32 = .ok (.ireturn, 1) := by decide +kernel
theorem dL_addTest_0 : decode cL_addTest 0 = .ok (.aload 5, 2) := by decide +kernel
theorem dL_addTest_2 : decode cL_addTest 2 = .ok (.iconst 0, 1) := by decide +kernel
theorem dL_addTest_3 : decode cL_addTest 3 = .ok (.aload_n 0, 1) := by decide +kernel
theorem dL_addTest_4 : decode cL_addTest 4 = .ok (.iload_n 1, 1) := by decide +kernel
theorem dL_addTest_5 : decode cL_addTest 5 = .ok (.iload_n 2, 1) := by decide +kernel
theorem dL_addTest_6 : decode cL_addTest 6 = .ok (.iload_n 3, 1) := by decide +kernel
theorem dL_addTest_7 : decode cL_addTest 7 = .ok (.iload 4, 2) := by decide +kernel
theorem dL_addTest_9 : decode cL_addTest 9 = .ok (.invokevirtual 37, 3) := by decide +kernel
theorem dL_addTest_12 : decode cL_addTest 12 = .ok (.i2l, 1) := by decide +kernel
theorem dL_addTest_13 : decode cL_addTest 13 = .ok (.lastore, 1) := by decide +kernel
theorem dL_addTest_14 : decode cL_addTest 14 = .ok (.goto 15, 3) := by decide +kernel
theorem dL_addTest_17 : decode cL_addTest 17 = .ok (.astore 6, 2) := by decide +kernel
theorem dL_addTest_19 : decode cL_addTest 19 = .ok (.iconst 1, 1) := by decide +kernel
theorem dL_addTest_20 : decode cL_addTest 20 = .ok (.ireturn, 1) := by decide +kernel
theorem dL_addTest_21 : decode cL_addTest 21 = .ok (.astore 6, 2) := by decide +kernel
theorem dL_addTest_23 : decode cL_addTest 23 = .ok (.iconst 2, 1) := by decide +kernel
theorem dL_addTest_24 : decode cL_addTest 24 = .ok (.ireturn, 1) := by decide +kernel
theorem dL_addTest_25 : decode cL_addTest 25 = .ok (.astore 6, 2) := by decide +kernel
theorem dL_addTest_27 : decode cL_addTest 27 = .ok (.iconst 3, 1) := by decide +kernel
theorem dL_addTest_28 : decode cL_addTest 28 = .ok (.ireturn, 1) := by decide +kernel
theorem dL_addTest_29 : decode cL_addTest 29 = .ok (.iconst 0, 1) := by decide +kernel
theorem dL_addTest_30 : decode cL_addTest 30 = .ok (.ireturn, 1) := by decide +kernel
theorem dL_addCount_0 : decode cL_addCount 0 = .ok (.aload 5, 2) := by decide +kernel
theorem dL_addCount_2 : decode cL_addCount 2 = .ok (.iconst 0, 1) := by decide +kernel
theorem dL_addCount_3 : decode cL_addCount 3 = .ok (.aload_n 0, 1) := by decide +kernel
theorem dL_addCount_4 : decode cL_addCount 4 = .ok (.iload_n 1, 1) := by decide +kernel
theorem dL_addCount_5 : decode cL_addCount 5 = .ok (.iload_n 2, 1) := by decide +kernel
theorem dL_addCount_6 : decode cL_addCount 6 = .ok (.iload_n 3, 1) := by decide +kernel
theorem dL_addCount_7 : decode cL_addCount 7 = .ok (.iload 4, 2) := by decide +kernel
theorem dL_addCount_9 : decode cL_addCount 9 = .ok (.invokevirtual 41, 3) := by decide +kernel
theorem dL_addCount_12 : decode cL_addCount 12 = .ok (.i2l, 1) := by decide +kernel
theorem dL_addCount_13 : decode cL_addCount 13 = .ok (.lastore, 1) := by decide +kernel
theorem dL_addCount_14 : decode cL_addCount 14 = .ok (.goto 15, 3) := by decide +kernel
theorem dL_addCount_17 : decode cL_addCount 17 = .ok (.astore 6, 2) := by decide +kernel
theorem dL_addCount_19 : decode cL_addCount 19 = .ok (.iconst 1, 1) := by decide +kernel
theorem dL_addCount_20 : decode cL_addCount 20 = .ok (.ireturn, 1) := by decide +kernel
theorem dL_addCount_21 : decode cL_addCount 21 = .ok (.astore 6, 2) := by decide +kernel
theorem dL_addCount_23 : decode cL_addCount 23 = .ok (.iconst 2, 1) := by decide +kernel
theorem dL_addCount_24 : decode cL_addCount 24 = .ok (.ireturn, 1) := by decide +kernel
theorem dL_addCount_25 : decode cL_addCount 25 = .ok (.astore 6, 2) := by decide +kernel
theorem dL_addCount_27 : decode cL_addCount 27 = .ok (.iconst 3, 1) := by decide +kernel
theorem dL_addCount_28 : decode cL_addCount 28 = .ok (.ireturn, 1) := by decide +kernel
theorem dL_addCount_29 : decode cL_addCount 29 = .ok (.iconst 0, 1) := by decide +kernel
theorem dL_addCount_30 : decode cL_addCount 30 = .ok (.ireturn, 1) := by decide +kernel
theorem dL_ground_0 : decode cL_ground 0 = .ok (.aload_n 3, 1) := by decide +kernel
theorem dL_ground_1 : decode cL_ground 1 = .ok (.iconst 0, 1) := by decide +kernel
theorem dL_ground_2 : decode cL_ground 2 = .ok (.aload_n 0, 1) := by decide +kernel
theorem dL_ground_3 : decode cL_ground 3 = .ok (.iload_n 1, 1) := by decide +kernel
theorem dL_ground_4 : decode cL_ground 4 = .ok (.iload_n 2, 1) := by decide +kernel
theorem dL_ground_5 : decode cL_ground 5 = .ok (.invokevirtual 44, 3) := by decide +kernel
theorem dL_ground_8 : decode cL_ground 8 = .ok (.i2l, 1) := by decide +kernel
theorem dL_ground_9 : decode cL_ground 9 = .ok (.lastore, 1) := by decide +kernel
theorem dL_ground_10 : decode cL_ground 10 = .ok (.goto 11, 3) := by decide +kernel
theorem dL_ground_13 : decode cL_ground 13 = .ok (.astore 4, 2) := by decide +kernel
theorem dL_ground_15 : decode cL_ground 15 = .ok (.iconst 1, 1) := by decide +kernel
theorem dL_ground_16 : decode cL_ground 16 = .ok (.ireturn, 1) := by decide +kernel
theorem dL_ground_17 : decode cL_ground 17 = .ok (.astore 4, 2) := by decide +kernel
theorem dL_ground_19 : decode cL_ground 19 = .ok (.iconst 2, 1) := by decide +kernel
theorem dL_ground_20 : decode cL_ground 20 = .ok (.ireturn, 1) := by decide +kernel
theorem dL_ground_21 : decode cL_ground 21 = .ok (.iconst 0, 1) := by decide +kernel
theorem dL_ground_22 : decode cL_ground 22 = .ok (.ireturn, 1) := by decide +kernel
def vs_k_L_addPredicate : List Cond := .codeWith yL_addPredicate cL_addPredicate 4 (some .int) [(0, 9, 12, 13), (0, 9, 15, 15)] :: ([.methodLink RL 7 yX10_addPredicate, .instanceMethod yX10_addPredicate, .selects RX10 yX10_addPredicate yX10_addPredicate, .initialized RX10, .classLink RL 13 "java/lang/IllegalArgumentException"] ++ (vs_k_X10_addPredicate))
set_option maxRecDepth 20000 in
theorem gv_k_L_addPredicate_0 : GoodIn vs_k_L_addPredicate (wsV RL 7 RX10 yX10_addPredicate vs_k_X10_addPredicate) := goodIn_app (goodIn_sub (by decide +kernel) (by decide +kernel)) (goodIn_sub (fun _ h => List.mem_cons_of_mem _ (List.mem_append_right _ (h))) (by decide +kernel))
set_option maxHeartbeats 4000000 in
set_option maxRecDepth 100000 in
theorem k_L_addPredicate (l : Launch) (hl9 : l.stackTraces = false) (D : va_G) (ty : Nat → ClassId) (td mi sz : Nat) (x0 : Nat) (x1 : Nat) (x8 : Nat) (x20 : Nat) (x39 : Nat) (x41 : Nat) (x43 : Nat) (x45 : Nat) (x2 : Nat) (x3 : Nat) (x4 : Nat) (x5 : Nat) (x6 : Nat) (x7 : Nat) (x9 : Nat) (x10 : Nat) (x12 : Nat) (x14 : Nat) (x15 : Nat) (x16 : Nat) (x17 : Nat) (x18 : Nat) (x19 : Nat) (x21 : Nat) (x28 : Nat) (x35 : Nat) (x36 : Nat) (x37 : Nat) (x38 : Nat) (x46 : Nat) (x47 : Nat) (o1 : Nat) (k1 : Int32) : vx_Met l yL_addPredicate vs_k_L_addPredicate { frames := 7, cells := 1, slots := 6, locals := 103 } (va_Pc [.ref x0, .int k1, .ref o1] (wq_P D ty td mi [(x0, .inr (15, [.ref x1, .ref x8, .ref x20, .ref x39, .ref x41, .ref x43, .ref x45])), (x1, .inr (11, [.ref x2, .int 0, .ref x3, .int 0, .ref x4, .ref x5, .int 1, .ref x6, .ref x7, .int 0])), (x2, .inl (ty 0, 6, .inl (fun _ => 0))), (x8, .inr (8, [.ref x1, .ref x9, .ref x10, .ref x12, .ref x14, .int 0, .ref x15, .ref x16, .ref x17, .int 0, .ref x18, .ref x19, .int 0, .int 0, .int 0, .int 0])), (x20, .inr (14, [.ref x1, .ref x8, .ref x21, .ref x28, .ref x35, .int 0, .ref x36, .ref x37, .ref x38, .int 0, .int 0, .int 0, .int 0, .int 0, .int 0, .int 0, .int 0])), (x45, .inr (5, [.ref x46, .ref x47, .int 0, .int 0])), (o1, .inl (ty 1, 1, .inr (.inl (fun _ => 0))))] sz)) (va_Qi (fun (r : Int32) (u : va_W) => (r = 1 ∧ (k1 < 0) ∧ (u = [(o1, .inl (ty 1, 1, .inr (.inl (fun _ => 0))))])) ∨ (r = 1 ∧ (¬ (k1 < 0)) ∧ (¬ (k1 ≤ 2)) ∧ (u = [(o1, .inl (ty 1, 1, .inr (.inl (fun _ => 0))))])) ∨ (r = 0 ∧ (¬ (k1 < 0)) ∧ (k1 ≤ 2) ∧ (u = [(o1, .inl (ty 1, 1, .inr (.inl (fun _ => 0))))]))) (wq_B D (va_A [(x0, .inr (15, [.ref x1, .ref x8, .ref x20, .ref x39, .ref x41, .ref x43, .ref x45])), (x1, .inr (11, [.ref x2, .int 0, .ref x3, .int 0, .ref x4, .ref x5, .int 1, .ref x6, .ref x7, .int 0])), (x2, .inl (ty 0, 6, .inl (fun _ => 0))), (x8, .inr (8, [.ref x1, .ref x9, .ref x10, .ref x12, .ref x14, .int 0, .ref x15, .ref x16, .ref x17, .int 0, .ref x18, .ref x19, .int 0, .int 0, .int 0, .int 0])), (x20, .inr (14, [.ref x1, .ref x8, .ref x21, .ref x28, .ref x35, .int 0, .ref x36, .ref x37, .ref x38, .int 0, .int 0, .int 0, .int 0, .int 0, .int 0, .int 0, .int 0])), (x45, .inr (5, [.ref x46, .ref x47, .int 0, .int 0])), (o1, .inl (ty 1, 1, .inr (.inl (fun _ => 0))))] sz)) (va_A [(x0, .inr (15, [.ref x1, .ref x8, .ref x20, .ref x39, .ref x41, .ref x43, .ref x45])), (x1, .inr (11, [.ref x2, .int 0, .ref x3, .int 0, .ref x4, .ref x5, .int 1, .ref x6, .ref x7, .int 0])), (x2, .inl (ty 0, 6, .inl (fun _ => 0))), (x8, .inr (8, [.ref x1, .ref x9, .ref x10, .ref x12, .ref x14, .int 0, .ref x15, .ref x16, .ref x17, .int 0, .ref x18, .ref x19, .int 0, .int 0, .int 0, .int 0])), (x20, .inr (14, [.ref x1, .ref x8, .ref x21, .ref x28, .ref x35, .int 0, .ref x36, .ref x37, .ref x38, .int 0, .int 0, .int 0, .int 0, .int 0, .int 0, .int 0, .int 0])), (x45, .inr (5, [.ref x46, .ref x47, .int 0, .int 0])), (o1, .inl (ty 1, 1, .inr (.inl (fun _ => 0))))] sz)) (vx_X (fun u : String × va_W => False) (wq_BX D (va_A [(x0, .inr (15, [.ref x1, .ref x8, .ref x20, .ref x39, .ref x41, .ref x43, .ref x45])), (x1, .inr (11, [.ref x2, .int 0, .ref x3, .int 0, .ref x4, .ref x5, .int 1, .ref x6, .ref x7, .int 0])), (x2, .inl (ty 0, 6, .inl (fun _ => 0))), (x8, .inr (8, [.ref x1, .ref x9, .ref x10, .ref x12, .ref x14, .int 0, .ref x15, .ref x16, .ref x17, .int 0, .ref x18, .ref x19, .int 0, .int 0, .int 0, .int 0])), (x20, .inr (14, [.ref x1, .ref x8, .ref x21, .ref x28, .ref x35, .int 0, .ref x36, .ref x37, .ref x38, .int 0, .int 0, .int 0, .int 0, .int 0, .int 0, .int 0, .int 0])), (x45, .inr (5, [.ref x46, .ref x47, .int 0, .int 0])), (o1, .inl (ty 1, 1, .inr (.inl (fun _ => 0))))] sz)) (va_A [(x0, .inr (15, [.ref x1, .ref x8, .ref x20, .ref x39, .ref x41, .ref x43, .ref x45])), (x1, .inr (11, [.ref x2, .int 0, .ref x3, .int 0, .ref x4, .ref x5, .int 1, .ref x6, .ref x7, .int 0])), (x2, .inl (ty 0, 6, .inl (fun _ => 0))), (x8, .inr (8, [.ref x1, .ref x9, .ref x10, .ref x12, .ref x14, .int 0, .ref x15, .ref x16, .ref x17, .int 0, .ref x18, .ref x19, .int 0, .int 0, .int 0, .int 0])), (x20, .inr (14, [.ref x1, .ref x8, .ref x21, .ref x28, .ref x35, .int 0, .ref x36, .ref x37, .ref x38, .int 0, .int 0, .int 0, .int 0, .int 0, .int 0, .int 0, .int 0])), (x45, .inr (5, [.ref x46, .ref x47, .int 0, .int 0])), (o1, .inl (ty 1, 1, .inr (.inl (fun _ => 0))))] sz)) 1 6 (va_A [(x0, .inr (15, [.ref x1, .ref x8, .ref x20, .ref x39, .ref x41, .ref x43, .ref x45])), (x1, .inr (11, [.ref x2, .int 0, .ref x3, .int 0, .ref x4, .ref x5, .int 1, .ref x6, .ref x7, .int 0])), (x2, .inl (ty 0, 6, .inl (fun _ => 0))), (x8, .inr (8, [.ref x1, .ref x9, .ref x10, .ref x12, .ref x14, .int 0, .ref x15, .ref x16, .ref x17, .int 0, .ref x18, .ref x19, .int 0, .int 0, .int 0, .int 0])), (x20, .inr (14, [.ref x1, .ref x8, .ref x21, .ref x28, .ref x35, .int 0, .ref x36, .ref x37, .ref x38, .int 0, .int 0, .int 0, .int 0, .int 0, .int 0, .int 0, .int 0])), (x45, .inr (5, [.ref x46, .ref x47, .int 0, .int 0])), (o1, .inl (ty 1, 1, .inr (.inl (fun _ => 0))))] sz) := by
  refine vx_ofWH (cc := cL_addPredicate) (maxL := 4) (ret := (some .int)) (hh := [(0, 9, 12, 13), (0, 9, 15, 15)]) (by decide) rfl ?_
  intro p e s m args below meth c s₁ B hml hv
  obtain ⟨rfl, hsz, hP, hK, hD0, hE⟩ := hv
  have hx := B.exec
  have hb := B.bytes
  have hr := B.returns
  have hts := atoms_spec (ws := vs_k_L_addPredicate) B.pre
  have hown : s.vm.findClass RL = some m.cls := findClass_of_methodNamed B.named
  have hlocks := B.notSynchronized
  have hTab := vx_table (x := yL_walk) B (hts _ List.mem_cons_self)
  subst hsz
  have hD := hD0.self (sz := s.heap.size)
  generalize hAe : va_A [(x0, .inr (15, [.ref x1, .ref x8, .ref x20, .ref x39, .ref x41, .ref x43, .ref x45])), (x1, .inr (11, [.ref x2, .int 0, .ref x3, .int 0, .ref x4, .ref x5, .int 1, .ref x6, .ref x7, .int 0])), (x2, .inl (ty 0, 6, .inl (fun _ => 0))), (x8, .inr (8, [.ref x1, .ref x9, .ref x10, .ref x12, .ref x14, .int 0, .ref x15, .ref x16, .ref x17, .int 0, .ref x18, .ref x19, .int 0, .int 0, .int 0, .int 0])), (x20, .inr (14, [.ref x1, .ref x8, .ref x21, .ref x28, .ref x35, .int 0, .ref x36, .ref x37, .ref x38, .int 0, .int 0, .int 0, .int 0, .int 0, .int 0, .int 0, .int 0])), (x45, .inr (5, [.ref x46, .ref x47, .int 0, .int 0])), (o1, .inl (ty 1, 1, .inr (.inl (fun _ => 0))))] s.heap.size = A at hD hE ⊢
  have hA : ∀ q : Nat, s.heap.size ≤ q → A q := fun q h => by rw [← hAe]; exact Or.inr h
  have hS : va_S A s.heap s.heap [] := va_S.rf
  have hP : va_P D vwCl [(x0, .inr (15, [.ref x1, .ref x8, .ref x20, .ref x39, .ref x41, .ref x43, .ref x45])), (x1, .inr (11, [.ref x2, .int 0, .ref x3, .int 0, .ref x4, .ref x5, .int 1, .ref x6, .ref x7, .int 0])), (x2, .inl (ty 0, 6, .inl (fun _ => 0))), (x8, .inr (8, [.ref x1, .ref x9, .ref x10, .ref x12, .ref x14, .int 0, .ref x15, .ref x16, .ref x17, .int 0, .ref x18, .ref x19, .int 0, .int 0, .int 0, .int 0])), (x20, .inr (14, [.ref x1, .ref x8, .ref x21, .ref x28, .ref x35, .int 0, .ref x36, .ref x37, .ref x38, .int 0, .int 0, .int 0, .int 0, .int 0, .int 0, .int 0, .int 0])), (x45, .inr (5, [.ref x46, .ref x47, .int 0, .int 0])), (o1, .inl (ty 1, 1, .inr (.inl (fun _ => 0))))] s.heap := hP
  have hl := lv_entry ([.ref x0, .int k1, .ref o1]) (n := 4) (Nat.le_of_ble_eq_true rfl)
  rw [lg_entry_eq]
  generalize (lg_sl ([.ref x0, .int k1, .ref o1]) ++ List.replicate (4 - (lg_sl ([.ref x0, .int k1, .ref o1])).length) Slot.unset).toArray = ls at hl ⊢
  have hl : lv_has ls 4 [(0, .ref x0), (1, .int k1), (2, .ref o1)] := hl
  refine lv_aload_n hx hb dL_addPredicate_0 rfl (lv_at hl 2 rfl) ?_
  refine lv_iconst (v := 0) hx hb dL_addPredicate_1 (by decide) ?_
  refine lv_aload_n hx hb dL_addPredicate_2 rfl (lv_at hl 0 rfl) ?_
  refine lv_iload_n hx hb dL_addPredicate_3 rfl (lv_at hl 1 rfl) ?_
  refine wq_xi (wc := [(x0, .inr (15, [.ref x1, .ref x8, .ref x20, .ref x39, .ref x41, .ref x43, .ref x45])), (x1, .inr (11, [.ref x2, .int 0, .ref x3, .int 0, .ref x4, .ref x5, .int 1, .ref x6, .ref x7, .int 0])), (x2, .inl (ty 0, 6, .inl (fun _ => 0))), (x8, .inr (8, [.ref x1, .ref x9, .ref x10, .ref x12, .ref x14, .int 0, .ref x15, .ref x16, .ref x17, .int 0, .ref x18, .ref x19, .int 0, .int 0, .int 0, .int 0])), (x20, .inr (14, [.ref x1, .ref x8, .ref x21, .ref x28, .ref x35, .int 0, .ref x36, .ref x37, .ref x38, .int 0, .int 0, .int 0, .int 0, .int 0, .int 0, .int 0, .int 0])), (x45, .inr (5, [.ref x46, .ref x47, .int 0, .int 0]))]) (wr := [(o1, .inl (ty 1, 1, .inr (.inl (fun _ => 0))))]) (vx_runV (As := [.int k1]) (rest := [.int 0, .ref o1]) ⟨hx, hb, hml, hown, hts⟩ (k_X10_addPredicate l hl9 D ty td mi s.heap.size x0 x1 x8 x20 x39 x41 x43 x45 x2 x3 x4 x5 x6 x7 x9 x10 x12 x14 x15 x16 x17 x18 x19 x21 x28 x35 x36 x37 x38 x46 x47 k1) (cwV 1 hts gv_k_L_addPredicate_0 rfl rfl rfl (by decide +kernel) ⟨(Nat.le_of_ble_eq_true rfl), (Nat.le_of_ble_eq_true rfl)⟩) (wq_preV hP hD hK hE hS hA [0, 1, 2, 3, 4, 5] rfl (by decide) 0 15 rfl rfl) rfl rfl hl.1 rfl (lv_room (Nat.le_of_ble_eq_true rfl)) dL_addPredicate_4 ⟨(Nat.le_of_ble_eq_true rfl), (Nat.le_of_ble_eq_true rfl)⟩) hS hA hP hD [0, 1, 2, 3, 4, 5] [6] rfl rfl (by decide) (by decide) (fun E9 u H locs q9 ce hw hP hD hS hce hcv hcl => ?_) (fun r u H locs hw hP hD hS => ?_)
  · rcases hw with ⟨hEq, c_1⟩ | ⟨hEq, c_2, c_3⟩
    · cases hEq
      have hP : va_P D vwCl [(o1, .inl (ty 1, 1, .inr (.inl (fun _ => 0))))] H := hP
      have hD : va_D A [(o1, .inl (ty 1, 1, .inr (.inl (fun _ => 0))))] := hD
      refine vx_widen (k := 1) (n := 6) (Nat.le_of_ble_eq_true rfl) (Nat.le_of_ble_eq_true rfl) ?_
      refine vx_catch (own := RL) (name := "java/lang/IllegalArgumentException") (E := "java/lang/IllegalArgumentException") hown [] ⟨0, 9, 12, 13⟩ [⟨0, 9, 15, 15⟩] (by rw [hTab]; rfl) (fun z hz => nomatch hz) (by decide) (by decide) (hts (.classLink RL 13 "java/lang/IllegalArgumentException") (by decide +kernel)) (va_Nw.use rfl (hE.ca "java/lang/IllegalArgumentException" "java/lang/IllegalArgumentException" (by decide +kernel))) hce hcv hcl ?_
      refine lv_astore_n (lv' := [(3, .ref q9), (0, .ref x0), (1, .int k1), (2, .ref o1)]) hx hb dL_addPredicate_12 rfl hl (by decide) rfl (fun ls hl => ?_)
      refine lv_iconst (v := 1) hx hb dL_addPredicate_13 (by decide) ?_
      have hP9 := hP.sub (ws' := [(o1, .inl (ty 1, 1, .inr (.inl (fun _ => 0))))]) [0] rfl
      have hD9 := hD.sub (ws' := [(o1, .inl (ty 1, 1, .inr (.inl (fun _ => 0))))]) [0] (by decide) rfl
      refine W.widen (k := 1) (n := 6) (Nat.le_of_ble_eq_true rfl) (Nat.le_of_ble_eq_true rfl) ?_
      refine vx_ret ?_
      exact W.iret (v := 1) hx hb hr (fun t ht hW => ⟨⟨1, [(o1, .inl (ty 1, 1, .inr (.inl (fun _ => 0))))], rfl, (Or.inl ⟨rfl, c_1, rfl⟩), wq_B.of ht hP9 hD9⟩, hS.F ht⟩) hS.2.2 dL_addPredicate_14
    · cases hEq
      have hP : va_P D vwCl [(o1, .inl (ty 1, 1, .inr (.inl (fun _ => 0))))] H := hP
      have hD : va_D A [(o1, .inl (ty 1, 1, .inr (.inl (fun _ => 0))))] := hD
      refine vx_widen (k := 1) (n := 6) (Nat.le_of_ble_eq_true rfl) (Nat.le_of_ble_eq_true rfl) ?_
      refine vx_catch (own := RL) (name := "java/lang/IllegalArgumentException") (E := "java/lang/IllegalArgumentException") hown [] ⟨0, 9, 12, 13⟩ [⟨0, 9, 15, 15⟩] (by rw [hTab]; rfl) (fun z hz => nomatch hz) (by decide) (by decide) (hts (.classLink RL 13 "java/lang/IllegalArgumentException") (by decide +kernel)) (va_Nw.use rfl (hE.ca "java/lang/IllegalArgumentException" "java/lang/IllegalArgumentException" (by decide +kernel))) hce hcv hcl ?_
      refine lv_astore_n (lv' := [(3, .ref q9), (0, .ref x0), (1, .int k1), (2, .ref o1)]) hx hb dL_addPredicate_12 rfl hl (by decide) rfl (fun ls hl => ?_)
      refine lv_iconst (v := 1) hx hb dL_addPredicate_13 (by decide) ?_
      have hP9 := hP.sub (ws' := [(o1, .inl (ty 1, 1, .inr (.inl (fun _ => 0))))]) [0] rfl
      have hD9 := hD.sub (ws' := [(o1, .inl (ty 1, 1, .inr (.inl (fun _ => 0))))]) [0] (by decide) rfl
      refine W.widen (k := 1) (n := 6) (Nat.le_of_ble_eq_true rfl) (Nat.le_of_ble_eq_true rfl) ?_
      refine vx_ret ?_
      exact W.iret (v := 1) hx hb hr (fun t ht hW => ⟨⟨1, [(o1, .inl (ty 1, 1, .inr (.inl (fun _ => 0))))], rfl, (Or.inr (Or.inl ⟨rfl, c_2, c_3, rfl⟩)), wq_B.of ht hP9 hD9⟩, hS.F ht⟩) hS.2.2 dL_addPredicate_14
  · obtain ⟨rfl, c_4, c_5, rfl⟩ := hw
    have hP : va_P D vwCl [(o1, .inl (ty 1, 1, .inr (.inl (fun _ => 0))))] H := hP
    have hD : va_D A [(o1, .inl (ty 1, 1, .inr (.inl (fun _ => 0))))] := hD
    refine W.widen (k := 1) (n := 6) (Nat.le_of_ble_eq_true rfl) (Nat.le_of_ble_eq_true rfl) ?_
    refine lv_i2l (v := 0) hx hb dL_addPredicate_7 (by decide) ?_
    refine va_last (D := D) hx hb hK hP hD hS 0 1 rfl rfl (vp_in_iff.mpr (by decide)) dL_addPredicate_8 (fun H locs hP hD hS => ?_)
    rw [wq_updL0] at hP hD
    have hP : va_P D vwCl [(o1, .inl (ty 1, 1, .inr (.inl (fun _ => 0))))] H := hP
    have hD : va_D A [(o1, .inl (ty 1, 1, .inr (.inl (fun _ => 0))))] := hD
    refine lv_goto (tgt := 18) hx hb dL_addPredicate_9 (by decide) ?_
    refine lv_iconst (v := 0) hx hb dL_addPredicate_18 (by decide) ?_
    have hP9 := hP.sub (ws' := [(o1, .inl (ty 1, 1, .inr (.inl (fun _ => 0))))]) [0] rfl
    have hD9 := hD.sub (ws' := [(o1, .inl (ty 1, 1, .inr (.inl (fun _ => 0))))]) [0] (by decide) rfl
    refine W.widen (k := 1) (n := 6) (Nat.le_of_ble_eq_true rfl) (Nat.le_of_ble_eq_true rfl) ?_
    refine vx_ret ?_
    exact W.iret (v := 0) hx hb hr (fun t ht hW => ⟨⟨0, [(o1, .inl (ty 1, 1, .inr (.inl (fun _ => 0))))], rfl, (Or.inr (Or.inr ⟨rfl, c_4, c_5, rfl⟩)), wq_B.of ht hP9 hD9⟩, hS.F ht⟩) hS.2.2 dL_addPredicate_19
def vs_k_L_addDisjunction : List Cond := .codeWith yL_addDisjunction cL_addDisjunction 4 (some .int) [(0, 9, 12, 13), (0, 9, 15, 15)] :: ([.methodLink RL 17 yX10_addDisjunction, .instanceMethod yX10_addDisjunction, .selects RX10 yX10_addDisjunction yX10_addDisjunction, .initialized RX10, .classLink RL 13 "java/lang/IllegalArgumentException"] ++ (vs_k_X10_addDisjunction))
set_option maxRecDepth 20000 in
theorem gv_k_L_addDisjunction_0 : GoodIn vs_k_L_addDisjunction (wsV RL 17 RX10 yX10_addDisjunction vs_k_X10_addDisjunction) := goodIn_app (goodIn_sub (by decide +kernel) (by decide +kernel)) (goodIn_sub (fun _ h => List.mem_cons_of_mem _ (List.mem_append_right _ (h))) (by decide +kernel))
set_option maxHeartbeats 4000000 in
set_option maxRecDepth 100000 in
theorem k_L_addDisjunction (l : Launch) (hl9 : l.stackTraces = false) (D : va_G) (ty : Nat → ClassId) (td mi sz : Nat) (x0 : Nat) (x1 : Nat) (x8 : Nat) (x20 : Nat) (x39 : Nat) (x41 : Nat) (x43 : Nat) (x45 : Nat) (x2 : Nat) (x3 : Nat) (x4 : Nat) (x5 : Nat) (x6 : Nat) (x7 : Nat) (x9 : Nat) (x10 : Nat) (x12 : Nat) (x14 : Nat) (x15 : Nat) (x16 : Nat) (x17 : Nat) (x18 : Nat) (x19 : Nat) (x21 : Nat) (x28 : Nat) (x35 : Nat) (x36 : Nat) (x37 : Nat) (x38 : Nat) (x46 : Nat) (x47 : Nat) (o1 : Nat) (k1 : Int32) : vx_Met l yL_addDisjunction vs_k_L_addDisjunction { frames := 8, cells := 4, slots := 24, locals := 124 } (va_Pc [.ref x0, .int k1, .ref o1] (wq_P D ty td mi [(x0, .inr (15, [.ref x1, .ref x8, .ref x20, .ref x39, .ref x41, .ref x43, .ref x45])), (x1, .inr (11, [.ref x2, .int 0, .ref x3, .int 0, .ref x4, .ref x5, .int 1, .ref x6, .ref x7, .int 0])), (x3, .inl (ty 4, 20, .inr (.inr (.inr (.inr (fun _ => none)))))), (x8, .inr (8, [.ref x1, .ref x9, .ref x10, .ref x12, .ref x14, .int 0, .ref x15, .ref x16, .ref x17, .int 0, .ref x18, .ref x19, .int 0, .int 0, .int 0, .int 0])), (x20, .inr (14, [.ref x1, .ref x8, .ref x21, .ref x28, .ref x35, .int 0, .ref x36, .ref x37, .ref x38, .int 0, .int 0, .int 0, .int 0, .int 0, .int 0, .int 0, .int 0])), (x45, .inr (5, [.ref x46, .ref x47, .int 0, .int 0])), (o1, .inl (ty 1, 1, .inr (.inl (fun _ => 0))))] sz)) (va_Qi (fun (r : Int32) (u : va_W) => (r = 1 ∧ (k1 < 0) ∧ (u = [(o1, .inl (ty 1, 1, .inr (.inl (fun _ => 0))))])) ∨ (r = 1 ∧ (¬ (k1 < 0)) ∧ (¬ (k1 ≤ 3)) ∧ (u = [(o1, .inl (ty 1, 1, .inr (.inl (fun _ => 0))))])) ∨ (r = 0 ∧ (¬ (k1 < 0)) ∧ (k1 ≤ 3) ∧ (u = [(o1, .inl (ty 1, 1, .inr (.inl (fun _ => 0))))]))) (wq_B D (va_A [(x0, .inr (15, [.ref x1, .ref x8, .ref x20, .ref x39, .ref x41, .ref x43, .ref x45])), (x1, .inr (11, [.ref x2, .int 0, .ref x3, .int 0, .ref x4, .ref x5, .int 1, .ref x6, .ref x7, .int 0])), (x3, .inl (ty 4, 20, .inr (.inr (.inr (.inr (fun _ => none)))))), (x8, .inr (8, [.ref x1, .ref x9, .ref x10, .ref x12, .ref x14, .int 0, .ref x15, .ref x16, .ref x17, .int 0, .ref x18, .ref x19, .int 0, .int 0, .int 0, .int 0])), (x20, .inr (14, [.ref x1, .ref x8, .ref x21, .ref x28, .ref x35, .int 0, .ref x36, .ref x37, .ref x38, .int 0, .int 0, .int 0, .int 0, .int 0, .int 0, .int 0, .int 0])), (x45, .inr (5, [.ref x46, .ref x47, .int 0, .int 0])), (o1, .inl (ty 1, 1, .inr (.inl (fun _ => 0))))] sz)) (va_A [(x0, .inr (15, [.ref x1, .ref x8, .ref x20, .ref x39, .ref x41, .ref x43, .ref x45])), (x1, .inr (11, [.ref x2, .int 0, .ref x3, .int 0, .ref x4, .ref x5, .int 1, .ref x6, .ref x7, .int 0])), (x3, .inl (ty 4, 20, .inr (.inr (.inr (.inr (fun _ => none)))))), (x8, .inr (8, [.ref x1, .ref x9, .ref x10, .ref x12, .ref x14, .int 0, .ref x15, .ref x16, .ref x17, .int 0, .ref x18, .ref x19, .int 0, .int 0, .int 0, .int 0])), (x20, .inr (14, [.ref x1, .ref x8, .ref x21, .ref x28, .ref x35, .int 0, .ref x36, .ref x37, .ref x38, .int 0, .int 0, .int 0, .int 0, .int 0, .int 0, .int 0, .int 0])), (x45, .inr (5, [.ref x46, .ref x47, .int 0, .int 0])), (o1, .inl (ty 1, 1, .inr (.inl (fun _ => 0))))] sz)) (vx_X (fun u : String × va_W => False) (wq_BX D (va_A [(x0, .inr (15, [.ref x1, .ref x8, .ref x20, .ref x39, .ref x41, .ref x43, .ref x45])), (x1, .inr (11, [.ref x2, .int 0, .ref x3, .int 0, .ref x4, .ref x5, .int 1, .ref x6, .ref x7, .int 0])), (x3, .inl (ty 4, 20, .inr (.inr (.inr (.inr (fun _ => none)))))), (x8, .inr (8, [.ref x1, .ref x9, .ref x10, .ref x12, .ref x14, .int 0, .ref x15, .ref x16, .ref x17, .int 0, .ref x18, .ref x19, .int 0, .int 0, .int 0, .int 0])), (x20, .inr (14, [.ref x1, .ref x8, .ref x21, .ref x28, .ref x35, .int 0, .ref x36, .ref x37, .ref x38, .int 0, .int 0, .int 0, .int 0, .int 0, .int 0, .int 0, .int 0])), (x45, .inr (5, [.ref x46, .ref x47, .int 0, .int 0])), (o1, .inl (ty 1, 1, .inr (.inl (fun _ => 0))))] sz)) (va_A [(x0, .inr (15, [.ref x1, .ref x8, .ref x20, .ref x39, .ref x41, .ref x43, .ref x45])), (x1, .inr (11, [.ref x2, .int 0, .ref x3, .int 0, .ref x4, .ref x5, .int 1, .ref x6, .ref x7, .int 0])), (x3, .inl (ty 4, 20, .inr (.inr (.inr (.inr (fun _ => none)))))), (x8, .inr (8, [.ref x1, .ref x9, .ref x10, .ref x12, .ref x14, .int 0, .ref x15, .ref x16, .ref x17, .int 0, .ref x18, .ref x19, .int 0, .int 0, .int 0, .int 0])), (x20, .inr (14, [.ref x1, .ref x8, .ref x21, .ref x28, .ref x35, .int 0, .ref x36, .ref x37, .ref x38, .int 0, .int 0, .int 0, .int 0, .int 0, .int 0, .int 0, .int 0])), (x45, .inr (5, [.ref x46, .ref x47, .int 0, .int 0])), (o1, .inl (ty 1, 1, .inr (.inl (fun _ => 0))))] sz)) 4 24 (va_A [(x0, .inr (15, [.ref x1, .ref x8, .ref x20, .ref x39, .ref x41, .ref x43, .ref x45])), (x1, .inr (11, [.ref x2, .int 0, .ref x3, .int 0, .ref x4, .ref x5, .int 1, .ref x6, .ref x7, .int 0])), (x3, .inl (ty 4, 20, .inr (.inr (.inr (.inr (fun _ => none)))))), (x8, .inr (8, [.ref x1, .ref x9, .ref x10, .ref x12, .ref x14, .int 0, .ref x15, .ref x16, .ref x17, .int 0, .ref x18, .ref x19, .int 0, .int 0, .int 0, .int 0])), (x20, .inr (14, [.ref x1, .ref x8, .ref x21, .ref x28, .ref x35, .int 0, .ref x36, .ref x37, .ref x38, .int 0, .int 0, .int 0, .int 0, .int 0, .int 0, .int 0, .int 0])), (x45, .inr (5, [.ref x46, .ref x47, .int 0, .int 0])), (o1, .inl (ty 1, 1, .inr (.inl (fun _ => 0))))] sz) := by
  refine vx_ofWH (cc := cL_addDisjunction) (maxL := 4) (ret := (some .int)) (hh := [(0, 9, 12, 13), (0, 9, 15, 15)]) (by decide) rfl ?_
  intro p e s m args below meth c s₁ B hml hv
  obtain ⟨rfl, hsz, hP, hK, hD0, hE⟩ := hv
  have hx := B.exec
  have hb := B.bytes
  have hr := B.returns
  have hts := atoms_spec (ws := vs_k_L_addDisjunction) B.pre
  have hown : s.vm.findClass RL = some m.cls := findClass_of_methodNamed B.named
  have hlocks := B.notSynchronized
  have hTab := vx_table (x := yL_walk) B (hts _ List.mem_cons_self)
  subst hsz
  have hD := hD0.self (sz := s.heap.size)
  generalize hAe : va_A [(x0, .inr (15, [.ref x1, .ref x8, .ref x20, .ref x39, .ref x41, .ref x43, .ref x45])), (x1, .inr (11, [.ref x2, .int 0, .ref x3, .int 0, .ref x4, .ref x5, .int 1, .ref x6, .ref x7, .int 0])), (x3, .inl (ty 4, 20, .inr (.inr (.inr (.inr (fun _ => none)))))), (x8, .inr (8, [.ref x1, .ref x9, .ref x10, .ref x12, .ref x14, .int 0, .ref x15, .ref x16, .ref x17, .int 0, .ref x18, .ref x19, .int 0, .int 0, .int 0, .int 0])), (x20, .inr (14, [.ref x1, .ref x8, .ref x21, .ref x28, .ref x35, .int 0, .ref x36, .ref x37, .ref x38, .int 0, .int 0, .int 0, .int 0, .int 0, .int 0, .int 0, .int 0])), (x45, .inr (5, [.ref x46, .ref x47, .int 0, .int 0])), (o1, .inl (ty 1, 1, .inr (.inl (fun _ => 0))))] s.heap.size = A at hD hE ⊢
  have hA : ∀ q : Nat, s.heap.size ≤ q → A q := fun q h => by rw [← hAe]; exact Or.inr h
  have hS : va_S A s.heap s.heap [] := va_S.rf
  have hP : va_P D vwCl [(x0, .inr (15, [.ref x1, .ref x8, .ref x20, .ref x39, .ref x41, .ref x43, .ref x45])), (x1, .inr (11, [.ref x2, .int 0, .ref x3, .int 0, .ref x4, .ref x5, .int 1, .ref x6, .ref x7, .int 0])), (x3, .inl (ty 4, 20, .inr (.inr (.inr (.inr (fun _ => none)))))), (x8, .inr (8, [.ref x1, .ref x9, .ref x10, .ref x12, .ref x14, .int 0, .ref x15, .ref x16, .ref x17, .int 0, .ref x18, .ref x19, .int 0, .int 0, .int 0, .int 0])), (x20, .inr (14, [.ref x1, .ref x8, .ref x21, .ref x28, .ref x35, .int 0, .ref x36, .ref x37, .ref x38, .int 0, .int 0, .int 0, .int 0, .int 0, .int 0, .int 0, .int 0])), (x45, .inr (5, [.ref x46, .ref x47, .int 0, .int 0])), (o1, .inl (ty 1, 1, .inr (.inl (fun _ => 0))))] s.heap := hP
  have hl := lv_entry ([.ref x0, .int k1, .ref o1]) (n := 4) (Nat.le_of_ble_eq_true rfl)
  rw [lg_entry_eq]
  generalize (lg_sl ([.ref x0, .int k1, .ref o1]) ++ List.replicate (4 - (lg_sl ([.ref x0, .int k1, .ref o1])).length) Slot.unset).toArray = ls at hl ⊢
  have hl : lv_has ls 4 [(0, .ref x0), (1, .int k1), (2, .ref o1)] := hl
  refine lv_aload_n hx hb dL_addDisjunction_0 rfl (lv_at hl 2 rfl) ?_
  refine lv_iconst (v := 0) hx hb dL_addDisjunction_1 (by decide) ?_
  refine lv_aload_n hx hb dL_addDisjunction_2 rfl (lv_at hl 0 rfl) ?_
  refine lv_iload_n hx hb dL_addDisjunction_3 rfl (lv_at hl 1 rfl) ?_
  refine wq_xi (wc := [(x0, .inr (15, [.ref x1, .ref x8, .ref x20, .ref x39, .ref x41, .ref x43, .ref x45])), (x1, .inr (11, [.ref x2, .int 0, .ref x3, .int 0, .ref x4, .ref x5, .int 1, .ref x6, .ref x7, .int 0])), (x3, .inl (ty 4, 20, .inr (.inr (.inr (.inr (fun _ => none)))))), (x8, .inr (8, [.ref x1, .ref x9, .ref x10, .ref x12, .ref x14, .int 0, .ref x15, .ref x16, .ref x17, .int 0, .ref x18, .ref x19, .int 0, .int 0, .int 0, .int 0])), (x20, .inr (14, [.ref x1, .ref x8, .ref x21, .ref x28, .ref x35, .int 0, .ref x36, .ref x37, .ref x38, .int 0, .int 0, .int 0, .int 0, .int 0, .int 0, .int 0, .int 0])), (x45, .inr (5, [.ref x46, .ref x47, .int 0, .int 0]))]) (wr := [(o1, .inl (ty 1, 1, .inr (.inl (fun _ => 0))))]) (vx_runV (As := [.int k1]) (rest := [.int 0, .ref o1]) ⟨hx, hb, hml, hown, hts⟩ (k_X10_addDisjunction l hl9 D ty td mi s.heap.size x0 x1 x8 x20 x39 x41 x43 x45 x2 x3 x4 x5 x6 x7 x9 x10 x12 x14 x15 x16 x17 x18 x19 x21 x28 x35 x36 x37 x38 x46 x47 k1) (cwV 1 hts gv_k_L_addDisjunction_0 rfl rfl rfl (by decide +kernel) ⟨(Nat.le_of_ble_eq_true rfl), (Nat.le_of_ble_eq_true rfl)⟩) (wq_preV hP hD hK hE hS hA [0, 1, 2, 3, 4, 5] rfl (by decide) 0 15 rfl rfl) rfl rfl hl.1 rfl (lv_room (Nat.le_of_ble_eq_true rfl)) dL_addDisjunction_4 ⟨(Nat.le_of_ble_eq_true rfl), (Nat.le_of_ble_eq_true rfl)⟩) hS hA hP hD [0, 1, 2, 3, 4, 5] [6] rfl rfl (by decide) (by decide) (fun E9 u H locs q9 ce hw hP hD hS hce hcv hcl => ?_) (fun r u H locs hw hP hD hS => ?_)
  · rcases hw with ⟨hEq, c_1⟩ | ⟨hEq, c_2, c_3⟩
    · cases hEq
      have hP : va_P D vwCl [(o1, .inl (ty 1, 1, .inr (.inl (fun _ => 0))))] H := hP
      have hD : va_D A [(o1, .inl (ty 1, 1, .inr (.inl (fun _ => 0))))] := hD
      refine vx_widen (k := 4) (n := 24) (Nat.le_of_ble_eq_true rfl) (Nat.le_of_ble_eq_true rfl) ?_
      refine vx_catch (own := RL) (name := "java/lang/IllegalArgumentException") (E := "java/lang/IllegalArgumentException") hown [] ⟨0, 9, 12, 13⟩ [⟨0, 9, 15, 15⟩] (by rw [hTab]; rfl) (fun z hz => nomatch hz) (by decide) (by decide) (hts (.classLink RL 13 "java/lang/IllegalArgumentException") (by decide +kernel)) (va_Nw.use rfl (hE.ca "java/lang/IllegalArgumentException" "java/lang/IllegalArgumentException" (by decide +kernel))) hce hcv hcl ?_
      refine lv_astore_n (lv' := [(3, .ref q9), (0, .ref x0), (1, .int k1), (2, .ref o1)]) hx hb dL_addDisjunction_12 rfl hl (by decide) rfl (fun ls hl => ?_)
      refine lv_iconst (v := 1) hx hb dL_addDisjunction_13 (by decide) ?_
      have hP9 := hP.sub (ws' := [(o1, .inl (ty 1, 1, .inr (.inl (fun _ => 0))))]) [0] rfl
      have hD9 := hD.sub (ws' := [(o1, .inl (ty 1, 1, .inr (.inl (fun _ => 0))))]) [0] (by decide) rfl
      refine W.widen (k := 4) (n := 24) (Nat.le_of_ble_eq_true rfl) (Nat.le_of_ble_eq_true rfl) ?_
      refine vx_ret ?_
      exact W.iret (v := 1) hx hb hr (fun t ht hW => ⟨⟨1, [(o1, .inl (ty 1, 1, .inr (.inl (fun _ => 0))))], rfl, (Or.inl ⟨rfl, c_1, rfl⟩), wq_B.of ht hP9 hD9⟩, hS.F ht⟩) hS.2.2 dL_addDisjunction_14
    · cases hEq
      have hP : va_P D vwCl [(o1, .inl (ty 1, 1, .inr (.inl (fun _ => 0))))] H := hP
      have hD : va_D A [(o1, .inl (ty 1, 1, .inr (.inl (fun _ => 0))))] := hD
      refine vx_widen (k := 4) (n := 24) (Nat.le_of_ble_eq_true rfl) (Nat.le_of_ble_eq_true rfl) ?_
      refine vx_catch (own := RL) (name := "java/lang/IllegalArgumentException") (E := "java/lang/IllegalArgumentException") hown [] ⟨0, 9, 12, 13⟩ [⟨0, 9, 15, 15⟩] (by rw [hTab]; rfl) (fun z hz => nomatch hz) (by decide) (by decide) (hts (.classLink RL 13 "java/lang/IllegalArgumentException") (by decide +kernel)) (va_Nw.use rfl (hE.ca "java/lang/IllegalArgumentException" "java/lang/IllegalArgumentException" (by decide +kernel))) hce hcv hcl ?_
      refine lv_astore_n (lv' := [(3, .ref q9), (0, .ref x0), (1, .int k1), (2, .ref o1)]) hx hb dL_addDisjunction_12 rfl hl (by decide) rfl (fun ls hl => ?_)
      refine lv_iconst (v := 1) hx hb dL_addDisjunction_13 (by decide) ?_
      have hP9 := hP.sub (ws' := [(o1, .inl (ty 1, 1, .inr (.inl (fun _ => 0))))]) [0] rfl
      have hD9 := hD.sub (ws' := [(o1, .inl (ty 1, 1, .inr (.inl (fun _ => 0))))]) [0] (by decide) rfl
      refine W.widen (k := 4) (n := 24) (Nat.le_of_ble_eq_true rfl) (Nat.le_of_ble_eq_true rfl) ?_
      refine vx_ret ?_
      exact W.iret (v := 1) hx hb hr (fun t ht hW => ⟨⟨1, [(o1, .inl (ty 1, 1, .inr (.inl (fun _ => 0))))], rfl, (Or.inr (Or.inl ⟨rfl, c_2, c_3, rfl⟩)), wq_B.of ht hP9 hD9⟩, hS.F ht⟩) hS.2.2 dL_addDisjunction_14
  · obtain ⟨rfl, c_4, c_5, rfl⟩ := hw
    have hP : va_P D vwCl [(o1, .inl (ty 1, 1, .inr (.inl (fun _ => 0))))] H := hP
    have hD : va_D A [(o1, .inl (ty 1, 1, .inr (.inl (fun _ => 0))))] := hD
    refine W.widen (k := 4) (n := 24) (Nat.le_of_ble_eq_true rfl) (Nat.le_of_ble_eq_true rfl) ?_
    refine lv_i2l (v := 0) hx hb dL_addDisjunction_7 (by decide) ?_
    refine va_last (D := D) hx hb hK hP hD hS 0 1 rfl rfl (vp_in_iff.mpr (by decide)) dL_addDisjunction_8 (fun H locs hP hD hS => ?_)
    rw [wq_updL0] at hP hD
    have hP : va_P D vwCl [(o1, .inl (ty 1, 1, .inr (.inl (fun _ => 0))))] H := hP
    have hD : va_D A [(o1, .inl (ty 1, 1, .inr (.inl (fun _ => 0))))] := hD
    refine lv_goto (tgt := 18) hx hb dL_addDisjunction_9 (by decide) ?_
    refine lv_iconst (v := 0) hx hb dL_addDisjunction_18 (by decide) ?_
    have hP9 := hP.sub (ws' := [(o1, .inl (ty 1, 1, .inr (.inl (fun _ => 0))))]) [0] rfl
    have hD9 := hD.sub (ws' := [(o1, .inl (ty 1, 1, .inr (.inl (fun _ => 0))))]) [0] (by decide) rfl
    refine W.widen (k := 4) (n := 24) (Nat.le_of_ble_eq_true rfl) (Nat.le_of_ble_eq_true rfl) ?_
    refine vx_ret ?_
    exact W.iret (v := 0) hx hb hr (fun t ht hW => ⟨⟨0, [(o1, .inl (ty 1, 1, .inr (.inl (fun _ => 0))))], rfl, (Or.inr (Or.inr ⟨rfl, c_4, c_5, rfl⟩)), wq_B.of ht hP9 hD9⟩, hS.F ht⟩) hS.2.2 dL_addDisjunction_19
def vs_k_L_addChoice : List Cond := .codeWith yL_addChoice cL_addChoice 7 (some .int) [(0, 14, 17, 13), (0, 14, 21, 15)] :: ([.methodLink RL 20 yX10_addChoice, .instanceMethod yX10_addChoice, .selects RX10 yX10_addChoice yX10_addChoice, .initialized RX10, .classLink RL 13 "java/lang/IllegalArgumentException"] ++ (vs_k_X10_addChoice))
set_option maxRecDepth 20000 in
theorem gv_k_L_addChoice_0 : GoodIn vs_k_L_addChoice (wsV RL 20 RX10 yX10_addChoice vs_k_X10_addChoice) := goodIn_app (goodIn_sub (by decide +kernel) (by decide +kernel)) (goodIn_sub (fun _ h => List.mem_cons_of_mem _ (List.mem_append_right _ (h))) (by decide +kernel))
set_option maxHeartbeats 4000000 in
set_option maxRecDepth 100000 in
theorem k_L_addChoice (l : Launch) (hl9 : l.stackTraces = false) (D : va_G) (ty : Nat → ClassId) (td mi sz : Nat) (x0 : Nat) (x1 : Nat) (x8 : Nat) (x20 : Nat) (x39 : Nat) (x41 : Nat) (x43 : Nat) (x45 : Nat) (x2 : Nat) (x3 : Nat) (x4 : Nat) (x5 : Nat) (x6 : Nat) (x7 : Nat) (x9 : Nat) (x10 : Nat) (x12 : Nat) (x14 : Nat) (x15 : Nat) (x16 : Nat) (x17 : Nat) (x18 : Nat) (x19 : Nat) (x21 : Nat) (x28 : Nat) (x35 : Nat) (x36 : Nat) (x37 : Nat) (x38 : Nat) (x46 : Nat) (x47 : Nat) (o1 : Nat) (k1 : Int32) (k2 : Int32) (k3 : Int32) (k4 : Int32) : vx_Met l yL_addChoice vs_k_L_addChoice { frames := 8, cells := 4, slots := 24, locals := 128 } (va_Pc [.ref x0, .int k1, .int k2, .int k3, .int k4, .ref o1] (wq_P D ty td mi [(x0, .inr (15, [.ref x1, .ref x8, .ref x20, .ref x39, .ref x41, .ref x43, .ref x45])), (x1, .inr (11, [.ref x2, .int 0, .ref x3, .int 0, .ref x4, .ref x5, .int 1, .ref x6, .ref x7, .int 0])), (x3, .inl (ty 4, 20, .inr (.inr (.inr (.inr (fun _ => none)))))), (x8, .inr (8, [.ref x1, .ref x9, .ref x10, .ref x12, .ref x14, .int 0, .ref x15, .ref x16, .ref x17, .int 0, .ref x18, .ref x19, .int 0, .int 0, .int 0, .int 0])), (x20, .inr (14, [.ref x1, .ref x8, .ref x21, .ref x28, .ref x35, .int 0, .ref x36, .ref x37, .ref x38, .int 0, .int 0, .int 0, .int 0, .int 0, .int 0, .int 0, .int 0])), (x45, .inr (5, [.ref x46, .ref x47, .int 0, .int 0])), (o1, .inl (ty 1, 1, .inr (.inl (fun _ => 0))))] sz)) (va_Qi (fun (r : Int32) (u : va_W) => (r = 1 ∧ (k1 < 0) ∧ (u = [(o1, .inl (ty 1, 1, .inr (.inl (fun _ => 0))))])) ∨ (r = 1 ∧ (¬ (k1 < 0)) ∧ (¬ (k1 ≤ 3)) ∧ (u = [(o1, .inl (ty 1, 1, .inr (.inl (fun _ => 0))))])) ∨ (r = 1 ∧ (¬ (k1 < 0)) ∧ (k1 ≤ 3) ∧ (k2 < 0) ∧ (u = [(o1, .inl (ty 1, 1, .inr (.inl (fun _ => 0))))])) ∨ (r = 1 ∧ (¬ (k1 < 0)) ∧ (k1 ≤ 3) ∧ (¬ (k2 < 0)) ∧ (k3 < k2) ∧ (u = [(o1, .inl (ty 1, 1, .inr (.inl (fun _ => 0))))])) ∨ (r = 1 ∧ (¬ (k1 < 0)) ∧ (k1 ≤ 3) ∧ (¬ (k2 < 0)) ∧ (¬ (k3 < k2)) ∧ (k3 ≤ 9) ∧ (¬ (k4 = (-1))) ∧ (u = [(o1, .inl (ty 1, 1, .inr (.inl (fun _ => 0))))])) ∨ (r = 1 ∧ (¬ (k1 < 0)) ∧ (k1 ≤ 3) ∧ (¬ (k2 < 0)) ∧ (¬ (k3 < k2)) ∧ (¬ (k3 ≤ 9)) ∧ (u = [(o1, .inl (ty 1, 1, .inr (.inl (fun _ => 0))))])) ∨ (r = 0 ∧ (¬ (k1 < 0)) ∧ (k1 ≤ 3) ∧ (¬ (k2 < 0)) ∧ (¬ (k3 < k2)) ∧ (k3 ≤ 9) ∧ (k4 = (-1)) ∧ (u = [(o1, .inl (ty 1, 1, .inr (.inl (fun _ => 0))))]))) (wq_B D (va_A [(x0, .inr (15, [.ref x1, .ref x8, .ref x20, .ref x39, .ref x41, .ref x43, .ref x45])), (x1, .inr (11, [.ref x2, .int 0, .ref x3, .int 0, .ref x4, .ref x5, .int 1, .ref x6, .ref x7, .int 0])), (x3, .inl (ty 4, 20, .inr (.inr (.inr (.inr (fun _ => none)))))), (x8, .inr (8, [.ref x1, .ref x9, .ref x10, .ref x12, .ref x14, .int 0, .ref x15, .ref x16, .ref x17, .int 0, .ref x18, .ref x19, .int 0, .int 0, .int 0, .int 0])), (x20, .inr (14, [.ref x1, .ref x8, .ref x21, .ref x28, .ref x35, .int 0, .ref x36, .ref x37, .ref x38, .int 0, .int 0, .int 0, .int 0, .int 0, .int 0, .int 0, .int 0])), (x45, .inr (5, [.ref x46, .ref x47, .int 0, .int 0])), (o1, .inl (ty 1, 1, .inr (.inl (fun _ => 0))))] sz)) (va_A [(x0, .inr (15, [.ref x1, .ref x8, .ref x20, .ref x39, .ref x41, .ref x43, .ref x45])), (x1, .inr (11, [.ref x2, .int 0, .ref x3, .int 0, .ref x4, .ref x5, .int 1, .ref x6, .ref x7, .int 0])), (x3, .inl (ty 4, 20, .inr (.inr (.inr (.inr (fun _ => none)))))), (x8, .inr (8, [.ref x1, .ref x9, .ref x10, .ref x12, .ref x14, .int 0, .ref x15, .ref x16, .ref x17, .int 0, .ref x18, .ref x19, .int 0, .int 0, .int 0, .int 0])), (x20, .inr (14, [.ref x1, .ref x8, .ref x21, .ref x28, .ref x35, .int 0, .ref x36, .ref x37, .ref x38, .int 0, .int 0, .int 0, .int 0, .int 0, .int 0, .int 0, .int 0])), (x45, .inr (5, [.ref x46, .ref x47, .int 0, .int 0])), (o1, .inl (ty 1, 1, .inr (.inl (fun _ => 0))))] sz)) (vx_X (fun u : String × va_W => False) (wq_BX D (va_A [(x0, .inr (15, [.ref x1, .ref x8, .ref x20, .ref x39, .ref x41, .ref x43, .ref x45])), (x1, .inr (11, [.ref x2, .int 0, .ref x3, .int 0, .ref x4, .ref x5, .int 1, .ref x6, .ref x7, .int 0])), (x3, .inl (ty 4, 20, .inr (.inr (.inr (.inr (fun _ => none)))))), (x8, .inr (8, [.ref x1, .ref x9, .ref x10, .ref x12, .ref x14, .int 0, .ref x15, .ref x16, .ref x17, .int 0, .ref x18, .ref x19, .int 0, .int 0, .int 0, .int 0])), (x20, .inr (14, [.ref x1, .ref x8, .ref x21, .ref x28, .ref x35, .int 0, .ref x36, .ref x37, .ref x38, .int 0, .int 0, .int 0, .int 0, .int 0, .int 0, .int 0, .int 0])), (x45, .inr (5, [.ref x46, .ref x47, .int 0, .int 0])), (o1, .inl (ty 1, 1, .inr (.inl (fun _ => 0))))] sz)) (va_A [(x0, .inr (15, [.ref x1, .ref x8, .ref x20, .ref x39, .ref x41, .ref x43, .ref x45])), (x1, .inr (11, [.ref x2, .int 0, .ref x3, .int 0, .ref x4, .ref x5, .int 1, .ref x6, .ref x7, .int 0])), (x3, .inl (ty 4, 20, .inr (.inr (.inr (.inr (fun _ => none)))))), (x8, .inr (8, [.ref x1, .ref x9, .ref x10, .ref x12, .ref x14, .int 0, .ref x15, .ref x16, .ref x17, .int 0, .ref x18, .ref x19, .int 0, .int 0, .int 0, .int 0])), (x20, .inr (14, [.ref x1, .ref x8, .ref x21, .ref x28, .ref x35, .int 0, .ref x36, .ref x37, .ref x38, .int 0, .int 0, .int 0, .int 0, .int 0, .int 0, .int 0, .int 0])), (x45, .inr (5, [.ref x46, .ref x47, .int 0, .int 0])), (o1, .inl (ty 1, 1, .inr (.inl (fun _ => 0))))] sz)) 4 24 (va_A [(x0, .inr (15, [.ref x1, .ref x8, .ref x20, .ref x39, .ref x41, .ref x43, .ref x45])), (x1, .inr (11, [.ref x2, .int 0, .ref x3, .int 0, .ref x4, .ref x5, .int 1, .ref x6, .ref x7, .int 0])), (x3, .inl (ty 4, 20, .inr (.inr (.inr (.inr (fun _ => none)))))), (x8, .inr (8, [.ref x1, .ref x9, .ref x10, .ref x12, .ref x14, .int 0, .ref x15, .ref x16, .ref x17, .int 0, .ref x18, .ref x19, .int 0, .int 0, .int 0, .int 0])), (x20, .inr (14, [.ref x1, .ref x8, .ref x21, .ref x28, .ref x35, .int 0, .ref x36, .ref x37, .ref x38, .int 0, .int 0, .int 0, .int 0, .int 0, .int 0, .int 0, .int 0])), (x45, .inr (5, [.ref x46, .ref x47, .int 0, .int 0])), (o1, .inl (ty 1, 1, .inr (.inl (fun _ => 0))))] sz) := by
  refine vx_ofWH (cc := cL_addChoice) (maxL := 7) (ret := (some .int)) (hh := [(0, 14, 17, 13), (0, 14, 21, 15)]) (by decide) rfl ?_
  intro p e s m args below meth c s₁ B hml hv
  obtain ⟨rfl, hsz, hP, hK, hD0, hE⟩ := hv
  have hx := B.exec
  have hb := B.bytes
  have hr := B.returns
  have hts := atoms_spec (ws := vs_k_L_addChoice) B.pre
  have hown : s.vm.findClass RL = some m.cls := findClass_of_methodNamed B.named
  have hlocks := B.notSynchronized
  have hTab := vx_table (x := yL_walk) B (hts _ List.mem_cons_self)
  subst hsz
  have hD := hD0.self (sz := s.heap.size)
  generalize hAe : va_A [(x0, .inr (15, [.ref x1, .ref x8, .ref x20, .ref x39, .ref x41, .ref x43, .ref x45])), (x1, .inr (11, [.ref x2, .int 0, .ref x3, .int 0, .ref x4, .ref x5, .int 1, .ref x6, .ref x7, .int 0])), (x3, .inl (ty 4, 20, .inr (.inr (.inr (.inr (fun _ => none)))))), (x8, .inr (8, [.ref x1, .ref x9, .ref x10, .ref x12, .ref x14, .int 0, .ref x15, .ref x16, .ref x17, .int 0, .ref x18, .ref x19, .int 0, .int 0, .int 0, .int 0])), (x20, .inr (14, [.ref x1, .ref x8, .ref x21, .ref x28, .ref x35, .int 0, .ref x36, .ref x37, .ref x38, .int 0, .int 0, .int 0, .int 0, .int 0, .int 0, .int 0, .int 0])), (x45, .inr (5, [.ref x46, .ref x47, .int 0, .int 0])), (o1, .inl (ty 1, 1, .inr (.inl (fun _ => 0))))] s.heap.size = A at hD hE ⊢
  have hA : ∀ q : Nat, s.heap.size ≤ q → A q := fun q h => by rw [← hAe]; exact Or.inr h
  have hS : va_S A s.heap s.heap [] := va_S.rf
  have hP : va_P D vwCl [(x0, .inr (15, [.ref x1, .ref x8, .ref x20, .ref x39, .ref x41, .ref x43, .ref x45])), (x1, .inr (11, [.ref x2, .int 0, .ref x3, .int 0, .ref x4, .ref x5, .int 1, .ref x6, .ref x7, .int 0])), (x3, .inl (ty 4, 20, .inr (.inr (.inr (.inr (fun _ => none)))))), (x8, .inr (8, [.ref x1, .ref x9, .ref x10, .ref x12, .ref x14, .int 0, .ref x15, .ref x16, .ref x17, .int 0, .ref x18, .ref x19, .int 0, .int 0, .int 0, .int 0])), (x20, .inr (14, [.ref x1, .ref x8, .ref x21, .ref x28, .ref x35, .int 0, .ref x36, .ref x37, .ref x38, .int 0, .int 0, .int 0, .int 0, .int 0, .int 0, .int 0, .int 0])), (x45, .inr (5, [.ref x46, .ref x47, .int 0, .int 0])), (o1, .inl (ty 1, 1, .inr (.inl (fun _ => 0))))] s.heap := hP
  have hl := lv_entry ([.ref x0, .int k1, .int k2, .int k3, .int k4, .ref o1]) (n := 7) (Nat.le_of_ble_eq_true rfl)
  rw [lg_entry_eq]
  generalize (lg_sl ([.ref x0, .int k1, .int k2, .int k3, .int k4, .ref o1]) ++ List.replicate (7 - (lg_sl ([.ref x0, .int k1, .int k2, .int k3, .int k4, .ref o1])).length) Slot.unset).toArray = ls at hl ⊢
  have hl : lv_has ls 7 [(0, .ref x0), (1, .int k1), (2, .int k2), (3, .int k3), (4, .int k4), (5, .ref o1)] := hl
  refine lv_aload hx hb dL_addChoice_0 (lv_at hl 5 rfl) ?_
  refine lv_iconst (v := 0) hx hb dL_addChoice_2 (by decide) ?_
  refine lv_aload_n hx hb dL_addChoice_3 rfl (lv_at hl 0 rfl) ?_
  refine lv_iload_n hx hb dL_addChoice_4 rfl (lv_at hl 1 rfl) ?_
  refine lv_iload_n hx hb dL_addChoice_5 rfl (lv_at hl 2 rfl) ?_
  refine lv_iload_n hx hb dL_addChoice_6 rfl (lv_at hl 3 rfl) ?_
  refine lv_iload hx hb dL_addChoice_7 (lv_at hl 4 rfl) ?_
  refine wq_xi (wc := [(x0, .inr (15, [.ref x1, .ref x8, .ref x20, .ref x39, .ref x41, .ref x43, .ref x45])), (x1, .inr (11, [.ref x2, .int 0, .ref x3, .int 0, .ref x4, .ref x5, .int 1, .ref x6, .ref x7, .int 0])), (x3, .inl (ty 4, 20, .inr (.inr (.inr (.inr (fun _ => none)))))), (x8, .inr (8, [.ref x1, .ref x9, .ref x10, .ref x12, .ref x14, .int 0, .ref x15, .ref x16, .ref x17, .int 0, .ref x18, .ref x19, .int 0, .int 0, .int 0, .int 0])), (x20, .inr (14, [.ref x1, .ref x8, .ref x21, .ref x28, .ref x35, .int 0, .ref x36, .ref x37, .ref x38, .int 0, .int 0, .int 0, .int 0, .int 0, .int 0, .int 0, .int 0])), (x45, .inr (5, [.ref x46, .ref x47, .int 0, .int 0]))]) (wr := [(o1, .inl (ty 1, 1, .inr (.inl (fun _ => 0))))]) (vx_runV (As := [.int k1, .int k2, .int k3, .int k4]) (rest := [.int 0, .ref o1]) ⟨hx, hb, hml, hown, hts⟩ (k_X10_addChoice l hl9 D ty td mi s.heap.size x0 x1 x8 x20 x39 x41 x43 x45 x2 x3 x4 x5 x6 x7 x9 x10 x12 x14 x15 x16 x17 x18 x19 x21 x28 x35 x36 x37 x38 x46 x47 k1 k2 k3 k4) (cwV 4 hts gv_k_L_addChoice_0 rfl rfl rfl (by decide +kernel) ⟨(Nat.le_of_ble_eq_true rfl), (Nat.le_of_ble_eq_true rfl)⟩) (wq_preV hP hD hK hE hS hA [0, 1, 2, 3, 4, 5] rfl (by decide) 0 15 rfl rfl) rfl rfl hl.1 rfl (lv_room (Nat.le_of_ble_eq_true rfl)) dL_addChoice_9 ⟨(Nat.le_of_ble_eq_true rfl), (Nat.le_of_ble_eq_true rfl)⟩) hS hA hP hD [0, 1, 2, 3, 4, 5] [6] rfl rfl (by decide) (by decide) (fun E9 u H locs q9 ce hw hP hD hS hce hcv hcl => ?_) (fun r u H locs hw hP hD hS => ?_)
  · rcases hw with ⟨hEq, c_1⟩ | ⟨hEq, c_2, c_3⟩ | ⟨hEq, c_4, c_5, c_6⟩ | ⟨hEq, c_7, c_8, c_9, c_10⟩ | ⟨hEq, c_11, c_12, c_13, c_14, c_15, c_16⟩ | ⟨hEq, c_17, c_18, c_19, c_20, c_21⟩
    · cases hEq
      have hP : va_P D vwCl [(o1, .inl (ty 1, 1, .inr (.inl (fun _ => 0))))] H := hP
      have hD : va_D A [(o1, .inl (ty 1, 1, .inr (.inl (fun _ => 0))))] := hD
      refine vx_widen (k := 4) (n := 24) (Nat.le_of_ble_eq_true rfl) (Nat.le_of_ble_eq_true rfl) ?_
      refine vx_catch (own := RL) (name := "java/lang/IllegalArgumentException") (E := "java/lang/IllegalArgumentException") hown [] ⟨0, 14, 17, 13⟩ [⟨0, 14, 21, 15⟩] (by rw [hTab]; rfl) (fun z hz => nomatch hz) (by decide) (by decide) (hts (.classLink RL 13 "java/lang/IllegalArgumentException") (by decide +kernel)) (va_Nw.use rfl (hE.ca "java/lang/IllegalArgumentException" "java/lang/IllegalArgumentException" (by decide +kernel))) hce hcv hcl ?_
      refine lv_astore (lv' := [(6, .ref q9), (0, .ref x0), (1, .int k1), (2, .int k2), (3, .int k3), (4, .int k4), (5, .ref o1)]) hx hb dL_addChoice_17 hl (by decide) rfl (fun ls hl => ?_)
      refine lv_iconst (v := 1) hx hb dL_addChoice_19 (by decide) ?_
      have hP9 := hP.sub (ws' := [(o1, .inl (ty 1, 1, .inr (.inl (fun _ => 0))))]) [0] rfl
      have hD9 := hD.sub (ws' := [(o1, .inl (ty 1, 1, .inr (.inl (fun _ => 0))))]) [0] (by decide) rfl
      refine W.widen (k := 4) (n := 24) (Nat.le_of_ble_eq_true rfl) (Nat.le_of_ble_eq_true rfl) ?_
      refine vx_ret ?_
      exact W.iret (v := 1) hx hb hr (fun t ht hW => ⟨⟨1, [(o1, .inl (ty 1, 1, .inr (.inl (fun _ => 0))))], rfl, (Or.inl ⟨rfl, c_1, rfl⟩), wq_B.of ht hP9 hD9⟩, hS.F ht⟩) hS.2.2 dL_addChoice_20
    · cases hEq
      have hP : va_P D vwCl [(o1, .inl (ty 1, 1, .inr (.inl (fun _ => 0))))] H := hP
      have hD : va_D A [(o1, .inl (ty 1, 1, .inr (.inl (fun _ => 0))))] := hD
      refine vx_widen (k := 4) (n := 24) (Nat.le_of_ble_eq_true rfl) (Nat.le_of_ble_eq_true rfl) ?_
      refine vx_catch (own := RL) (name := "java/lang/IllegalArgumentException") (E := "java/lang/IllegalArgumentException") hown [] ⟨0, 14, 17, 13⟩ [⟨0, 14, 21, 15⟩] (by rw [hTab]; rfl) (fun z hz => nomatch hz) (by decide) (by decide) (hts (.classLink RL 13 "java/lang/IllegalArgumentException") (by decide +kernel)) (va_Nw.use rfl (hE.ca "java/lang/IllegalArgumentException" "java/lang/IllegalArgumentException" (by decide +kernel))) hce hcv hcl ?_
      refine lv_astore (lv' := [(6, .ref q9), (0, .ref x0), (1, .int k1), (2, .int k2), (3, .int k3), (4, .int k4), (5, .ref o1)]) hx hb dL_addChoice_17 hl (by decide) rfl (fun ls hl => ?_)
      refine lv_iconst (v := 1) hx hb dL_addChoice_19 (by decide) ?_
      have hP9 := hP.sub (ws' := [(o1, .inl (ty 1, 1, .inr (.inl (fun _ => 0))))]) [0] rfl
      have hD9 := hD.sub (ws' := [(o1, .inl (ty 1, 1, .inr (.inl (fun _ => 0))))]) [0] (by decide) rfl
      refine W.widen (k := 4) (n := 24) (Nat.le_of_ble_eq_true rfl) (Nat.le_of_ble_eq_true rfl) ?_
      refine vx_ret ?_
      exact W.iret (v := 1) hx hb hr (fun t ht hW => ⟨⟨1, [(o1, .inl (ty 1, 1, .inr (.inl (fun _ => 0))))], rfl, (Or.inr (Or.inl ⟨rfl, c_2, c_3, rfl⟩)), wq_B.of ht hP9 hD9⟩, hS.F ht⟩) hS.2.2 dL_addChoice_20
    · cases hEq
      have hP : va_P D vwCl [(o1, .inl (ty 1, 1, .inr (.inl (fun _ => 0))))] H := hP
      have hD : va_D A [(o1, .inl (ty 1, 1, .inr (.inl (fun _ => 0))))] := hD
      refine vx_widen (k := 4) (n := 24) (Nat.le_of_ble_eq_true rfl) (Nat.le_of_ble_eq_true rfl) ?_
      refine vx_catch (own := RL) (name := "java/lang/IllegalArgumentException") (E := "java/lang/IllegalArgumentException") hown [] ⟨0, 14, 17, 13⟩ [⟨0, 14, 21, 15⟩] (by rw [hTab]; rfl) (fun z hz => nomatch hz) (by decide) (by decide) (hts (.classLink RL 13 "java/lang/IllegalArgumentException") (by decide +kernel)) (va_Nw.use rfl (hE.ca "java/lang/IllegalArgumentException" "java/lang/IllegalArgumentException" (by decide +kernel))) hce hcv hcl ?_
      refine lv_astore (lv' := [(6, .ref q9), (0, .ref x0), (1, .int k1), (2, .int k2), (3, .int k3), (4, .int k4), (5, .ref o1)]) hx hb dL_addChoice_17 hl (by decide) rfl (fun ls hl => ?_)
      refine lv_iconst (v := 1) hx hb dL_addChoice_19 (by decide) ?_
      have hP9 := hP.sub (ws' := [(o1, .inl (ty 1, 1, .inr (.inl (fun _ => 0))))]) [0] rfl
      have hD9 := hD.sub (ws' := [(o1, .inl (ty 1, 1, .inr (.inl (fun _ => 0))))]) [0] (by decide) rfl
      refine W.widen (k := 4) (n := 24) (Nat.le_of_ble_eq_true rfl) (Nat.le_of_ble_eq_true rfl) ?_
      refine vx_ret ?_
      exact W.iret (v := 1) hx hb hr (fun t ht hW => ⟨⟨1, [(o1, .inl (ty 1, 1, .inr (.inl (fun _ => 0))))], rfl, (Or.inr (Or.inr (Or.inl ⟨rfl, c_4, c_5, c_6, rfl⟩))), wq_B.of ht hP9 hD9⟩, hS.F ht⟩) hS.2.2 dL_addChoice_20
    · cases hEq
      have hP : va_P D vwCl [(o1, .inl (ty 1, 1, .inr (.inl (fun _ => 0))))] H := hP
      have hD : va_D A [(o1, .inl (ty 1, 1, .inr (.inl (fun _ => 0))))] := hD
      refine vx_widen (k := 4) (n := 24) (Nat.le_of_ble_eq_true rfl) (Nat.le_of_ble_eq_true rfl) ?_
      refine vx_catch (own := RL) (name := "java/lang/IllegalArgumentException") (E := "java/lang/IllegalArgumentException") hown [] ⟨0, 14, 17, 13⟩ [⟨0, 14, 21, 15⟩] (by rw [hTab]; rfl) (fun z hz => nomatch hz) (by decide) (by decide) (hts (.classLink RL 13 "java/lang/IllegalArgumentException") (by decide +kernel)) (va_Nw.use rfl (hE.ca "java/lang/IllegalArgumentException" "java/lang/IllegalArgumentException" (by decide +kernel))) hce hcv hcl ?_
      refine lv_astore (lv' := [(6, .ref q9), (0, .ref x0), (1, .int k1), (2, .int k2), (3, .int k3), (4, .int k4), (5, .ref o1)]) hx hb dL_addChoice_17 hl (by decide) rfl (fun ls hl => ?_)
      refine lv_iconst (v := 1) hx hb dL_addChoice_19 (by decide) ?_
      have hP9 := hP.sub (ws' := [(o1, .inl (ty 1, 1, .inr (.inl (fun _ => 0))))]) [0] rfl
      have hD9 := hD.sub (ws' := [(o1, .inl (ty 1, 1, .inr (.inl (fun _ => 0))))]) [0] (by decide) rfl
      refine W.widen (k := 4) (n := 24) (Nat.le_of_ble_eq_true rfl) (Nat.le_of_ble_eq_true rfl) ?_
      refine vx_ret ?_
      exact W.iret (v := 1) hx hb hr (fun t ht hW => ⟨⟨1, [(o1, .inl (ty 1, 1, .inr (.inl (fun _ => 0))))], rfl, (Or.inr (Or.inr (Or.inr (Or.inl ⟨rfl, c_7, c_8, c_9, c_10, rfl⟩)))), wq_B.of ht hP9 hD9⟩, hS.F ht⟩) hS.2.2 dL_addChoice_20
    · cases hEq
      have hP : va_P D vwCl [(o1, .inl (ty 1, 1, .inr (.inl (fun _ => 0))))] H := hP
      have hD : va_D A [(o1, .inl (ty 1, 1, .inr (.inl (fun _ => 0))))] := hD
      refine vx_widen (k := 4) (n := 24) (Nat.le_of_ble_eq_true rfl) (Nat.le_of_ble_eq_true rfl) ?_
      refine vx_catch (own := RL) (name := "java/lang/IllegalArgumentException") (E := "java/lang/IllegalArgumentException") hown [] ⟨0, 14, 17, 13⟩ [⟨0, 14, 21, 15⟩] (by rw [hTab]; rfl) (fun z hz => nomatch hz) (by decide) (by decide) (hts (.classLink RL 13 "java/lang/IllegalArgumentException") (by decide +kernel)) (va_Nw.use rfl (hE.ca "java/lang/IllegalArgumentException" "java/lang/IllegalArgumentException" (by decide +kernel))) hce hcv hcl ?_
      refine lv_astore (lv' := [(6, .ref q9), (0, .ref x0), (1, .int k1), (2, .int k2), (3, .int k3), (4, .int k4), (5, .ref o1)]) hx hb dL_addChoice_17 hl (by decide) rfl (fun ls hl => ?_)
      refine lv_iconst (v := 1) hx hb dL_addChoice_19 (by decide) ?_
      have hP9 := hP.sub (ws' := [(o1, .inl (ty 1, 1, .inr (.inl (fun _ => 0))))]) [0] rfl
      have hD9 := hD.sub (ws' := [(o1, .inl (ty 1, 1, .inr (.inl (fun _ => 0))))]) [0] (by decide) rfl
      refine W.widen (k := 4) (n := 24) (Nat.le_of_ble_eq_true rfl) (Nat.le_of_ble_eq_true rfl) ?_
      refine vx_ret ?_
      exact W.iret (v := 1) hx hb hr (fun t ht hW => ⟨⟨1, [(o1, .inl (ty 1, 1, .inr (.inl (fun _ => 0))))], rfl, (Or.inr (Or.inr (Or.inr (Or.inr (Or.inl ⟨rfl, c_11, c_12, c_13, c_14, c_15, c_16, rfl⟩))))), wq_B.of ht hP9 hD9⟩, hS.F ht⟩) hS.2.2 dL_addChoice_20
    · cases hEq
      have hP : va_P D vwCl [(o1, .inl (ty 1, 1, .inr (.inl (fun _ => 0))))] H := hP
      have hD : va_D A [(o1, .inl (ty 1, 1, .inr (.inl (fun _ => 0))))] := hD
      refine vx_widen (k := 4) (n := 24) (Nat.le_of_ble_eq_true rfl) (Nat.le_of_ble_eq_true rfl) ?_
      refine vx_catch (own := RL) (name := "java/lang/IllegalArgumentException") (E := "java/lang/IllegalArgumentException") hown [] ⟨0, 14, 17, 13⟩ [⟨0, 14, 21, 15⟩] (by rw [hTab]; rfl) (fun z hz => nomatch hz) (by decide) (by decide) (hts (.classLink RL 13 "java/lang/IllegalArgumentException") (by decide +kernel)) (va_Nw.use rfl (hE.ca "java/lang/IllegalArgumentException" "java/lang/IllegalArgumentException" (by decide +kernel))) hce hcv hcl ?_
      refine lv_astore (lv' := [(6, .ref q9), (0, .ref x0), (1, .int k1), (2, .int k2), (3, .int k3), (4, .int k4), (5, .ref o1)]) hx hb dL_addChoice_17 hl (by decide) rfl (fun ls hl => ?_)
      refine lv_iconst (v := 1) hx hb dL_addChoice_19 (by decide) ?_
      have hP9 := hP.sub (ws' := [(o1, .inl (ty 1, 1, .inr (.inl (fun _ => 0))))]) [0] rfl
      have hD9 := hD.sub (ws' := [(o1, .inl (ty 1, 1, .inr (.inl (fun _ => 0))))]) [0] (by decide) rfl
      refine W.widen (k := 4) (n := 24) (Nat.le_of_ble_eq_true rfl) (Nat.le_of_ble_eq_true rfl) ?_
      refine vx_ret ?_
      exact W.iret (v := 1) hx hb hr (fun t ht hW => ⟨⟨1, [(o1, .inl (ty 1, 1, .inr (.inl (fun _ => 0))))], rfl, (Or.inr (Or.inr (Or.inr (Or.inr (Or.inr (Or.inl ⟨rfl, c_17, c_18, c_19, c_20, c_21, rfl⟩)))))), wq_B.of ht hP9 hD9⟩, hS.F ht⟩) hS.2.2 dL_addChoice_20
  · obtain ⟨rfl, c_22, c_23, c_24, c_25, c_26, c_27, rfl⟩ := hw
    have hP : va_P D vwCl [(o1, .inl (ty 1, 1, .inr (.inl (fun _ => 0))))] H := hP
    have hD : va_D A [(o1, .inl (ty 1, 1, .inr (.inl (fun _ => 0))))] := hD
    refine W.widen (k := 4) (n := 24) (Nat.le_of_ble_eq_true rfl) (Nat.le_of_ble_eq_true rfl) ?_
    refine lv_i2l (v := 0) hx hb dL_addChoice_12 (by decide) ?_
    refine va_last (D := D) hx hb hK hP hD hS 0 1 rfl rfl (vp_in_iff.mpr (by decide)) dL_addChoice_13 (fun H locs hP hD hS => ?_)
    rw [wq_updL0] at hP hD
    have hP : va_P D vwCl [(o1, .inl (ty 1, 1, .inr (.inl (fun _ => 0))))] H := hP
    have hD : va_D A [(o1, .inl (ty 1, 1, .inr (.inl (fun _ => 0))))] := hD
    refine lv_goto (tgt := 25) hx hb dL_addChoice_14 (by decide) ?_
    refine lv_iconst (v := 0) hx hb dL_addChoice_25 (by decide) ?_
    have hP9 := hP.sub (ws' := [(o1, .inl (ty 1, 1, .inr (.inl (fun _ => 0))))]) [0] rfl
    have hD9 := hD.sub (ws' := [(o1, .inl (ty 1, 1, .inr (.inl (fun _ => 0))))]) [0] (by decide) rfl
    refine W.widen (k := 4) (n := 24) (Nat.le_of_ble_eq_true rfl) (Nat.le_of_ble_eq_true rfl) ?_
    refine vx_ret ?_
    exact W.iret (v := 0) hx hb hr (fun t ht hW => ⟨⟨0, [(o1, .inl (ty 1, 1, .inr (.inl (fun _ => 0))))], rfl, (Or.inr (Or.inr (Or.inr (Or.inr (Or.inr (Or.inr ⟨rfl, c_22, c_23, c_24, c_25, c_26, c_27, rfl⟩)))))), wq_B.of ht hP9 hD9⟩, hS.F ht⟩) hS.2.2 dL_addChoice_26
def vs_k_L_addWeak : List Cond := .codeWith yL_addWeak cL_addWeak 6 (some .int) [(0, 12, 15, 13), (0, 12, 19, 15)] :: ([.methodLink RL 24 yX10_addWeak, .instanceMethod yX10_addWeak, .selects RX10 yX10_addWeak yX10_addWeak, .initialized RX10, .classLink RL 13 "java/lang/IllegalArgumentException"] ++ (vs_k_X10_addWeak))
set_option maxRecDepth 20000 in
theorem gv_k_L_addWeak_0 : GoodIn vs_k_L_addWeak (wsV RL 24 RX10 yX10_addWeak vs_k_X10_addWeak) := goodIn_app (goodIn_sub (by decide +kernel) (by decide +kernel)) (goodIn_sub (fun _ h => List.mem_cons_of_mem _ (List.mem_append_right _ (h))) (by decide +kernel))
set_option maxHeartbeats 4000000 in
set_option maxRecDepth 100000 in
theorem k_L_addWeak (l : Launch) (hl9 : l.stackTraces = false) (D : va_G) (ty : Nat → ClassId) (td mi sz : Nat) (x0 : Nat) (x1 : Nat) (x8 : Nat) (x20 : Nat) (x39 : Nat) (x41 : Nat) (x43 : Nat) (x45 : Nat) (x2 : Nat) (x3 : Nat) (x4 : Nat) (x5 : Nat) (x6 : Nat) (x7 : Nat) (x9 : Nat) (x10 : Nat) (x12 : Nat) (x14 : Nat) (x15 : Nat) (x16 : Nat) (x17 : Nat) (x18 : Nat) (x19 : Nat) (x21 : Nat) (x28 : Nat) (x35 : Nat) (x36 : Nat) (x37 : Nat) (x38 : Nat) (x46 : Nat) (x47 : Nat) (o1 : Nat) (k1 : Int32) (k2 : Int32) (k3 : Int32) : vx_Met l yL_addWeak vs_k_L_addWeak { frames := 8, cells := 5, slots := 30, locals := 127 } (va_Pc [.ref x0, .int k1, .int k2, .int k3, .ref o1] (wq_P D ty td mi [(x0, .inr (15, [.ref x1, .ref x8, .ref x20, .ref x39, .ref x41, .ref x43, .ref x45])), (x1, .inr (11, [.ref x2, .int 0, .ref x3, .int 0, .ref x4, .ref x5, .int 1, .ref x6, .ref x7, .int 0])), (x3, .inl (ty 4, 20, .inr (.inr (.inr (.inr (fun _ => none)))))), (x8, .inr (8, [.ref x1, .ref x9, .ref x10, .ref x12, .ref x14, .int 0, .ref x15, .ref x16, .ref x17, .int 0, .ref x18, .ref x19, .int 0, .int 0, .int 0, .int 0])), (x20, .inr (14, [.ref x1, .ref x8, .ref x21, .ref x28, .ref x35, .int 0, .ref x36, .ref x37, .ref x38, .int 0, .int 0, .int 0, .int 0, .int 0, .int 0, .int 0, .int 0])), (x45, .inr (5, [.ref x46, .ref x47, .int 0, .int 0])), (o1, .inl (ty 1, 1, .inr (.inl (fun _ => 0))))] sz)) (va_Qi (fun (r : Int32) (u : va_W) => (r = 1 ∧ (k1 < 0) ∧ (u = [(o1, .inl (ty 1, 1, .inr (.inl (fun _ => 0))))])) ∨ (r = 1 ∧ (¬ (k1 < 0)) ∧ (¬ (k1 ≤ 3)) ∧ (u = [(o1, .inl (ty 1, 1, .inr (.inl (fun _ => 0))))])) ∨ (r = 1 ∧ (¬ (k1 < 0)) ∧ (k1 ≤ 3) ∧ (k2 < (-99)) ∧ (u = [(o1, .inl (ty 1, 1, .inr (.inl (fun _ => 0))))])) ∨ (r = 1 ∧ (¬ (k1 < 0)) ∧ (k1 ≤ 3) ∧ (¬ (k2 < (-99))) ∧ (k2 ≤ 99) ∧ (k3 < 1) ∧ (u = [(o1, .inl (ty 1, 1, .inr (.inl (fun _ => 0))))])) ∨ (r = 1 ∧ (¬ (k1 < 0)) ∧ (k1 ≤ 3) ∧ (¬ (k2 < (-99))) ∧ (k2 ≤ 99) ∧ (¬ (k3 < 1)) ∧ (¬ (k3 ≤ 3)) ∧ (u = [(o1, .inl (ty 1, 1, .inr (.inl (fun _ => 0))))])) ∨ (r = 1 ∧ (¬ (k1 < 0)) ∧ (k1 ≤ 3) ∧ (¬ (k2 < (-99))) ∧ (¬ (k2 ≤ 99)) ∧ (u = [(o1, .inl (ty 1, 1, .inr (.inl (fun _ => 0))))])) ∨ (r = 0 ∧ (¬ (k1 < 0)) ∧ (k1 ≤ 3) ∧ (¬ (k2 < (-99))) ∧ (k2 ≤ 99) ∧ (¬ (k3 < 1)) ∧ (k3 ≤ 3) ∧ (u = [(o1, .inl (ty 1, 1, .inr (.inl (fun _ => 0))))]))) (wq_B D (va_A [(x0, .inr (15, [.ref x1, .ref x8, .ref x20, .ref x39, .ref x41, .ref x43, .ref x45])), (x1, .inr (11, [.ref x2, .int 0, .ref x3, .int 0, .ref x4, .ref x5, .int 1, .ref x6, .ref x7, .int 0])), (x3, .inl (ty 4, 20, .inr (.inr (.inr (.inr (fun _ => none)))))), (x8, .inr (8, [.ref x1, .ref x9, .ref x10, .ref x12, .ref x14, .int 0, .ref x15, .ref x16, .ref x17, .int 0, .ref x18, .ref x19, .int 0, .int 0, .int 0, .int 0])), (x20, .inr (14, [.ref x1, .ref x8, .ref x21, .ref x28, .ref x35, .int 0, .ref x36, .ref x37, .ref x38, .int 0, .int 0, .int 0, .int 0, .int 0, .int 0, .int 0, .int 0])), (x45, .inr (5, [.ref x46, .ref x47, .int 0, .int 0])), (o1, .inl (ty 1, 1, .inr (.inl (fun _ => 0))))] sz)) (va_A [(x0, .inr (15, [.ref x1, .ref x8, .ref x20, .ref x39, .ref x41, .ref x43, .ref x45])), (x1, .inr (11, [.ref x2, .int 0, .ref x3, .int 0, .ref x4, .ref x5, .int 1, .ref x6, .ref x7, .int 0])), (x3, .inl (ty 4, 20, .inr (.inr (.inr (.inr (fun _ => none)))))), (x8, .inr (8, [.ref x1, .ref x9, .ref x10, .ref x12, .ref x14, .int 0, .ref x15, .ref x16, .ref x17, .int 0, .ref x18, .ref x19, .int 0, .int 0, .int 0, .int 0])), (x20, .inr (14, [.ref x1, .ref x8, .ref x21, .ref x28, .ref x35, .int 0, .ref x36, .ref x37, .ref x38, .int 0, .int 0, .int 0, .int 0, .int 0, .int 0, .int 0, .int 0])), (x45, .inr (5, [.ref x46, .ref x47, .int 0, .int 0])), (o1, .inl (ty 1, 1, .inr (.inl (fun _ => 0))))] sz)) (vx_X (fun u : String × va_W => False) (wq_BX D (va_A [(x0, .inr (15, [.ref x1, .ref x8, .ref x20, .ref x39, .ref x41, .ref x43, .ref x45])), (x1, .inr (11, [.ref x2, .int 0, .ref x3, .int 0, .ref x4, .ref x5, .int 1, .ref x6, .ref x7, .int 0])), (x3, .inl (ty 4, 20, .inr (.inr (.inr (.inr (fun _ => none)))))), (x8, .inr (8, [.ref x1, .ref x9, .ref x10, .ref x12, .ref x14, .int 0, .ref x15, .ref x16, .ref x17, .int 0, .ref x18, .ref x19, .int 0, .int 0, .int 0, .int 0])), (x20, .inr (14, [.ref x1, .ref x8, .ref x21, .ref x28, .ref x35, .int 0, .ref x36, .ref x37, .ref x38, .int 0, .int 0, .int 0, .int 0, .int 0, .int 0, .int 0, .int 0])), (x45, .inr (5, [.ref x46, .ref x47, .int 0, .int 0])), (o1, .inl (ty 1, 1, .inr (.inl (fun _ => 0))))] sz)) (va_A [(x0, .inr (15, [.ref x1, .ref x8, .ref x20, .ref x39, .ref x41, .ref x43, .ref x45])), (x1, .inr (11, [.ref x2, .int 0, .ref x3, .int 0, .ref x4, .ref x5, .int 1, .ref x6, .ref x7, .int 0])), (x3, .inl (ty 4, 20, .inr (.inr (.inr (.inr (fun _ => none)))))), (x8, .inr (8, [.ref x1, .ref x9, .ref x10, .ref x12, .ref x14, .int 0, .ref x15, .ref x16, .ref x17, .int 0, .ref x18, .ref x19, .int 0, .int 0, .int 0, .int 0])), (x20, .inr (14, [.ref x1, .ref x8, .ref x21, .ref x28, .ref x35, .int 0, .ref x36, .ref x37, .ref x38, .int 0, .int 0, .int 0, .int 0, .int 0, .int 0, .int 0, .int 0])), (x45, .inr (5, [.ref x46, .ref x47, .int 0, .int 0])), (o1, .inl (ty 1, 1, .inr (.inl (fun _ => 0))))] sz)) 5 30 (va_A [(x0, .inr (15, [.ref x1, .ref x8, .ref x20, .ref x39, .ref x41, .ref x43, .ref x45])), (x1, .inr (11, [.ref x2, .int 0, .ref x3, .int 0, .ref x4, .ref x5, .int 1, .ref x6, .ref x7, .int 0])), (x3, .inl (ty 4, 20, .inr (.inr (.inr (.inr (fun _ => none)))))), (x8, .inr (8, [.ref x1, .ref x9, .ref x10, .ref x12, .ref x14, .int 0, .ref x15, .ref x16, .ref x17, .int 0, .ref x18, .ref x19, .int 0, .int 0, .int 0, .int 0])), (x20, .inr (14, [.ref x1, .ref x8, .ref x21, .ref x28, .ref x35, .int 0, .ref x36, .ref x37, .ref x38, .int 0, .int 0, .int 0, .int 0, .int 0, .int 0, .int 0, .int 0])), (x45, .inr (5, [.ref x46, .ref x47, .int 0, .int 0])), (o1, .inl (ty 1, 1, .inr (.inl (fun _ => 0))))] sz) := by
  refine vx_ofWH (cc := cL_addWeak) (maxL := 6) (ret := (some .int)) (hh := [(0, 12, 15, 13), (0, 12, 19, 15)]) (by decide) rfl ?_
  intro p e s m args below meth c s₁ B hml hv
  obtain ⟨rfl, hsz, hP, hK, hD0, hE⟩ := hv
  have hx := B.exec
  have hb := B.bytes
  have hr := B.returns
  have hts := atoms_spec (ws := vs_k_L_addWeak) B.pre
  have hown : s.vm.findClass RL = some m.cls := findClass_of_methodNamed B.named
  have hlocks := B.notSynchronized
  have hTab := vx_table (x := yL_walk) B (hts _ List.mem_cons_self)
  subst hsz
  have hD := hD0.self (sz := s.heap.size)
  generalize hAe : va_A [(x0, .inr (15, [.ref x1, .ref x8, .ref x20, .ref x39, .ref x41, .ref x43, .ref x45])), (x1, .inr (11, [.ref x2, .int 0, .ref x3, .int 0, .ref x4, .ref x5, .int 1, .ref x6, .ref x7, .int 0])), (x3, .inl (ty 4, 20, .inr (.inr (.inr (.inr (fun _ => none)))))), (x8, .inr (8, [.ref x1, .ref x9, .ref x10, .ref x12, .ref x14, .int 0, .ref x15, .ref x16, .ref x17, .int 0, .ref x18, .ref x19, .int 0, .int 0, .int 0, .int 0])), (x20, .inr (14, [.ref x1, .ref x8, .ref x21, .ref x28, .ref x35, .int 0, .ref x36, .ref x37, .ref x38, .int 0, .int 0, .int 0, .int 0, .int 0, .int 0, .int 0, .int 0])), (x45, .inr (5, [.ref x46, .ref x47, .int 0, .int 0])), (o1, .inl (ty 1, 1, .inr (.inl (fun _ => 0))))] s.heap.size = A at hD hE ⊢
  have hA : ∀ q : Nat, s.heap.size ≤ q → A q := fun q h => by rw [← hAe]; exact Or.inr h
  have hS : va_S A s.heap s.heap [] := va_S.rf
  have hP : va_P D vwCl [(x0, .inr (15, [.ref x1, .ref x8, .ref x20, .ref x39, .ref x41, .ref x43, .ref x45])), (x1, .inr (11, [.ref x2, .int 0, .ref x3, .int 0, .ref x4, .ref x5, .int 1, .ref x6, .ref x7, .int 0])), (x3, .inl (ty 4, 20, .inr (.inr (.inr (.inr (fun _ => none)))))), (x8, .inr (8, [.ref x1, .ref x9, .ref x10, .ref x12, .ref x14, .int 0, .ref x15, .ref x16, .ref x17, .int 0, .ref x18, .ref x19, .int 0, .int 0, .int 0, .int 0])), (x20, .inr (14, [.ref x1, .ref x8, .ref x21, .ref x28, .ref x35, .int 0, .ref x36, .ref x37, .ref x38, .int 0, .int 0, .int 0, .int 0, .int 0, .int 0, .int 0, .int 0])), (x45, .inr (5, [.ref x46, .ref x47, .int 0, .int 0])), (o1, .inl (ty 1, 1, .inr (.inl (fun _ => 0))))] s.heap := hP
  have hl := lv_entry ([.ref x0, .int k1, .int k2, .int k3, .ref o1]) (n := 6) (Nat.le_of_ble_eq_true rfl)
  rw [lg_entry_eq]
  generalize (lg_sl ([.ref x0, .int k1, .int k2, .int k3, .ref o1]) ++ List.replicate (6 - (lg_sl ([.ref x0, .int k1, .int k2, .int k3, .ref o1])).length) Slot.unset).toArray = ls at hl ⊢
  have hl : lv_has ls 6 [(0, .ref x0), (1, .int k1), (2, .int k2), (3, .int k3), (4, .ref o1)] := hl
  refine lv_aload hx hb dL_addWeak_0 (lv_at hl 4 rfl) ?_
  refine lv_iconst (v := 0) hx hb dL_addWeak_2 (by decide) ?_
  refine lv_aload_n hx hb dL_addWeak_3 rfl (lv_at hl 0 rfl) ?_
  refine lv_iload_n hx hb dL_addWeak_4 rfl (lv_at hl 1 rfl) ?_
  refine lv_iload_n hx hb dL_addWeak_5 rfl (lv_at hl 2 rfl) ?_
  refine lv_iload_n hx hb dL_addWeak_6 rfl (lv_at hl 3 rfl) ?_
  refine wq_xi (wc := [(x0, .inr (15, [.ref x1, .ref x8, .ref x20, .ref x39, .ref x41, .ref x43, .ref x45])), (x1, .inr (11, [.ref x2, .int 0, .ref x3, .int 0, .ref x4, .ref x5, .int 1, .ref x6, .ref x7, .int 0])), (x3, .inl (ty 4, 20, .inr (.inr (.inr (.inr (fun _ => none)))))), (x8, .inr (8, [.ref x1, .ref x9, .ref x10, .ref x12, .ref x14, .int 0, .ref x15, .ref x16, .ref x17, .int 0, .ref x18, .ref x19, .int 0, .int 0, .int 0, .int 0])), (x20, .inr (14, [.ref x1, .ref x8, .ref x21, .ref x28, .ref x35, .int 0, .ref x36, .ref x37, .ref x38, .int 0, .int 0, .int 0, .int 0, .int 0, .int 0, .int 0, .int 0])), (x45, .inr (5, [.ref x46, .ref x47, .int 0, .int 0]))]) (wr := [(o1, .inl (ty 1, 1, .inr (.inl (fun _ => 0))))]) (vx_runV (As := [.int k1, .int k2, .int k3]) (rest := [.int 0, .ref o1]) ⟨hx, hb, hml, hown, hts⟩ (k_X10_addWeak l hl9 D ty td mi s.heap.size x0 x1 x8 x20 x39 x41 x43 x45 x2 x3 x4 x5 x6 x7 x9 x10 x12 x14 x15 x16 x17 x18 x19 x21 x28 x35 x36 x37 x38 x46 x47 k1 k2 k3) (cwV 3 hts gv_k_L_addWeak_0 rfl rfl rfl (by decide +kernel) ⟨(Nat.le_of_ble_eq_true rfl), (Nat.le_of_ble_eq_true rfl)⟩) (wq_preV hP hD hK hE hS hA [0, 1, 2, 3, 4, 5] rfl (by decide) 0 15 rfl rfl) rfl rfl hl.1 rfl (lv_room (Nat.le_of_ble_eq_true rfl)) dL_addWeak_7 ⟨(Nat.le_of_ble_eq_true rfl), (Nat.le_of_ble_eq_true rfl)⟩) hS hA hP hD [0, 1, 2, 3, 4, 5] [6] rfl rfl (by decide) (by decide) (fun E9 u H locs q9 ce hw hP hD hS hce hcv hcl => ?_) (fun r u H locs hw hP hD hS => ?_)
  · rcases hw with ⟨hEq, c_1⟩ | ⟨hEq, c_2, c_3⟩ | ⟨hEq, c_4, c_5, c_6⟩ | ⟨hEq, c_7, c_8, c_9, c_10, c_11⟩ | ⟨hEq, c_12, c_13, c_14, c_15, c_16, c_17⟩ | ⟨hEq, c_18, c_19, c_20, c_21⟩
    · cases hEq
      have hP : va_P D vwCl [(o1, .inl (ty 1, 1, .inr (.inl (fun _ => 0))))] H := hP
      have hD : va_D A [(o1, .inl (ty 1, 1, .inr (.inl (fun _ => 0))))] := hD
      refine vx_widen (k := 5) (n := 30) (Nat.le_of_ble_eq_true rfl) (Nat.le_of_ble_eq_true rfl) ?_
      refine vx_catch (own := RL) (name := "java/lang/IllegalArgumentException") (E := "java/lang/IllegalArgumentException") hown [] ⟨0, 12, 15, 13⟩ [⟨0, 12, 19, 15⟩] (by rw [hTab]; rfl) (fun z hz => nomatch hz) (by decide) (by decide) (hts (.classLink RL 13 "java/lang/IllegalArgumentException") (by decide +kernel)) (va_Nw.use rfl (hE.ca "java/lang/IllegalArgumentException" "java/lang/IllegalArgumentException" (by decide +kernel))) hce hcv hcl ?_
      refine lv_astore (lv' := [(5, .ref q9), (0, .ref x0), (1, .int k1), (2, .int k2), (3, .int k3), (4, .ref o1)]) hx hb dL_addWeak_15 hl (by decide) rfl (fun ls hl => ?_)
      refine lv_iconst (v := 1) hx hb dL_addWeak_17 (by decide) ?_
      have hP9 := hP.sub (ws' := [(o1, .inl (ty 1, 1, .inr (.inl (fun _ => 0))))]) [0] rfl
      have hD9 := hD.sub (ws' := [(o1, .inl (ty 1, 1, .inr (.inl (fun _ => 0))))]) [0] (by decide) rfl
      refine W.widen (k := 5) (n := 30) (Nat.le_of_ble_eq_true rfl) (Nat.le_of_ble_eq_true rfl) ?_
      refine vx_ret ?_
      exact W.iret (v := 1) hx hb hr (fun t ht hW => ⟨⟨1, [(o1, .inl (ty 1, 1, .inr (.inl (fun _ => 0))))], rfl, (Or.inl ⟨rfl, c_1, rfl⟩), wq_B.of ht hP9 hD9⟩, hS.F ht⟩) hS.2.2 dL_addWeak_18
    · cases hEq
      have hP : va_P D vwCl [(o1, .inl (ty 1, 1, .inr (.inl (fun _ => 0))))] H := hP
      have hD : va_D A [(o1, .inl (ty 1, 1, .inr (.inl (fun _ => 0))))] := hD
      refine vx_widen (k := 5) (n := 30) (Nat.le_of_ble_eq_true rfl) (Nat.le_of_ble_eq_true rfl) ?_
      refine vx_catch (own := RL) (name := "java/lang/IllegalArgumentException") (E := "java/lang/IllegalArgumentException") hown [] ⟨0, 12, 15, 13⟩ [⟨0, 12, 19, 15⟩] (by rw [hTab]; rfl) (fun z hz => nomatch hz) (by decide) (by decide) (hts (.classLink RL 13 "java/lang/IllegalArgumentException") (by decide +kernel)) (va_Nw.use rfl (hE.ca "java/lang/IllegalArgumentException" "java/lang/IllegalArgumentException" (by decide +kernel))) hce hcv hcl ?_
      refine lv_astore (lv' := [(5, .ref q9), (0, .ref x0), (1, .int k1), (2, .int k2), (3, .int k3), (4, .ref o1)]) hx hb dL_addWeak_15 hl (by decide) rfl (fun ls hl => ?_)
      refine lv_iconst (v := 1) hx hb dL_addWeak_17 (by decide) ?_
      have hP9 := hP.sub (ws' := [(o1, .inl (ty 1, 1, .inr (.inl (fun _ => 0))))]) [0] rfl
      have hD9 := hD.sub (ws' := [(o1, .inl (ty 1, 1, .inr (.inl (fun _ => 0))))]) [0] (by decide) rfl
      refine W.widen (k := 5) (n := 30) (Nat.le_of_ble_eq_true rfl) (Nat.le_of_ble_eq_true rfl) ?_
      refine vx_ret ?_
      exact W.iret (v := 1) hx hb hr (fun t ht hW => ⟨⟨1, [(o1, .inl (ty 1, 1, .inr (.inl (fun _ => 0))))], rfl, (Or.inr (Or.inl ⟨rfl, c_2, c_3, rfl⟩)), wq_B.of ht hP9 hD9⟩, hS.F ht⟩) hS.2.2 dL_addWeak_18
    · cases hEq
      have hP : va_P D vwCl [(o1, .inl (ty 1, 1, .inr (.inl (fun _ => 0))))] H := hP
      have hD : va_D A [(o1, .inl (ty 1, 1, .inr (.inl (fun _ => 0))))] := hD
      refine vx_widen (k := 5) (n := 30) (Nat.le_of_ble_eq_true rfl) (Nat.le_of_ble_eq_true rfl) ?_
      refine vx_catch (own := RL) (name := "java/lang/IllegalArgumentException") (E := "java/lang/IllegalArgumentException") hown [] ⟨0, 12, 15, 13⟩ [⟨0, 12, 19, 15⟩] (by rw [hTab]; rfl) (fun z hz => nomatch hz) (by decide) (by decide) (hts (.classLink RL 13 "java/lang/IllegalArgumentException") (by decide +kernel)) (va_Nw.use rfl (hE.ca "java/lang/IllegalArgumentException" "java/lang/IllegalArgumentException" (by decide +kernel))) hce hcv hcl ?_
      refine lv_astore (lv' := [(5, .ref q9), (0, .ref x0), (1, .int k1), (2, .int k2), (3, .int k3), (4, .ref o1)]) hx hb dL_addWeak_15 hl (by decide) rfl (fun ls hl => ?_)
      refine lv_iconst (v := 1) hx hb dL_addWeak_17 (by decide) ?_
      have hP9 := hP.sub (ws' := [(o1, .inl (ty 1, 1, .inr (.inl (fun _ => 0))))]) [0] rfl
      have hD9 := hD.sub (ws' := [(o1, .inl (ty 1, 1, .inr (.inl (fun _ => 0))))]) [0] (by decide) rfl
      refine W.widen (k := 5) (n := 30) (Nat.le_of_ble_eq_true rfl) (Nat.le_of_ble_eq_true rfl) ?_
      refine vx_ret ?_
      exact W.iret (v := 1) hx hb hr (fun t ht hW => ⟨⟨1, [(o1, .inl (ty 1, 1, .inr (.inl (fun _ => 0))))], rfl, (Or.inr (Or.inr (Or.inl ⟨rfl, c_4, c_5, c_6, rfl⟩))), wq_B.of ht hP9 hD9⟩, hS.F ht⟩) hS.2.2 dL_addWeak_18
    · cases hEq
      have hP : va_P D vwCl [(o1, .inl (ty 1, 1, .inr (.inl (fun _ => 0))))] H := hP
      have hD : va_D A [(o1, .inl (ty 1, 1, .inr (.inl (fun _ => 0))))] := hD
      refine vx_widen (k := 5) (n := 30) (Nat.le_of_ble_eq_true rfl) (Nat.le_of_ble_eq_true rfl) ?_
      refine vx_catch (own := RL) (name := "java/lang/IllegalArgumentException") (E := "java/lang/IllegalArgumentException") hown [] ⟨0, 12, 15, 13⟩ [⟨0, 12, 19, 15⟩] (by rw [hTab]; rfl) (fun z hz => nomatch hz) (by decide) (by decide) (hts (.classLink RL 13 "java/lang/IllegalArgumentException") (by decide +kernel)) (va_Nw.use rfl (hE.ca "java/lang/IllegalArgumentException" "java/lang/IllegalArgumentException" (by decide +kernel))) hce hcv hcl ?_
      refine lv_astore (lv' := [(5, .ref q9), (0, .ref x0), (1, .int k1), (2, .int k2), (3, .int k3), (4, .ref o1)]) hx hb dL_addWeak_15 hl (by decide) rfl (fun ls hl => ?_)
      refine lv_iconst (v := 1) hx hb dL_addWeak_17 (by decide) ?_
      have hP9 := hP.sub (ws' := [(o1, .inl (ty 1, 1, .inr (.inl (fun _ => 0))))]) [0] rfl
      have hD9 := hD.sub (ws' := [(o1, .inl (ty 1, 1, .inr (.inl (fun _ => 0))))]) [0] (by decide) rfl
      refine W.widen (k := 5) (n := 30) (Nat.le_of_ble_eq_true rfl) (Nat.le_of_ble_eq_true rfl) ?_
      refine vx_ret ?_
      exact W.iret (v := 1) hx hb hr (fun t ht hW => ⟨⟨1, [(o1, .inl (ty 1, 1, .inr (.inl (fun _ => 0))))], rfl, (Or.inr (Or.inr (Or.inr (Or.inl ⟨rfl, c_7, c_8, c_9, c_10, c_11, rfl⟩)))), wq_B.of ht hP9 hD9⟩, hS.F ht⟩) hS.2.2 dL_addWeak_18
    · cases hEq
      have hP : va_P D vwCl [(o1, .inl (ty 1, 1, .inr (.inl (fun _ => 0))))] H := hP
      have hD : va_D A [(o1, .inl (ty 1, 1, .inr (.inl (fun _ => 0))))] := hD
      refine vx_widen (k := 5) (n := 30) (Nat.le_of_ble_eq_true rfl) (Nat.le_of_ble_eq_true rfl) ?_
      refine vx_catch (own := RL) (name := "java/lang/IllegalArgumentException") (E := "java/lang/IllegalArgumentException") hown [] ⟨0, 12, 15, 13⟩ [⟨0, 12, 19, 15⟩] (by rw [hTab]; rfl) (fun z hz => nomatch hz) (by decide) (by decide) (hts (.classLink RL 13 "java/lang/IllegalArgumentException") (by decide +kernel)) (va_Nw.use rfl (hE.ca "java/lang/IllegalArgumentException" "java/lang/IllegalArgumentException" (by decide +kernel))) hce hcv hcl ?_
      refine lv_astore (lv' := [(5, .ref q9), (0, .ref x0), (1, .int k1), (2, .int k2), (3, .int k3), (4, .ref o1)]) hx hb dL_addWeak_15 hl (by decide) rfl (fun ls hl => ?_)
      refine lv_iconst (v := 1) hx hb dL_addWeak_17 (by decide) ?_
      have hP9 := hP.sub (ws' := [(o1, .inl (ty 1, 1, .inr (.inl (fun _ => 0))))]) [0] rfl
      have hD9 := hD.sub (ws' := [(o1, .inl (ty 1, 1, .inr (.inl (fun _ => 0))))]) [0] (by decide) rfl
      refine W.widen (k := 5) (n := 30) (Nat.le_of_ble_eq_true rfl) (Nat.le_of_ble_eq_true rfl) ?_
      refine vx_ret ?_
      exact W.iret (v := 1) hx hb hr (fun t ht hW => ⟨⟨1, [(o1, .inl (ty 1, 1, .inr (.inl (fun _ => 0))))], rfl, (Or.inr (Or.inr (Or.inr (Or.inr (Or.inl ⟨rfl, c_12, c_13, c_14, c_15, c_16, c_17, rfl⟩))))), wq_B.of ht hP9 hD9⟩, hS.F ht⟩) hS.2.2 dL_addWeak_18
    · cases hEq
      have hP : va_P D vwCl [(o1, .inl (ty 1, 1, .inr (.inl (fun _ => 0))))] H := hP
      have hD : va_D A [(o1, .inl (ty 1, 1, .inr (.inl (fun _ => 0))))] := hD
      refine vx_widen (k := 5) (n := 30) (Nat.le_of_ble_eq_true rfl) (Nat.le_of_ble_eq_true rfl) ?_
      refine vx_catch (own := RL) (name := "java/lang/IllegalArgumentException") (E := "java/lang/IllegalArgumentException") hown [] ⟨0, 12, 15, 13⟩ [⟨0, 12, 19, 15⟩] (by rw [hTab]; rfl) (fun z hz => nomatch hz) (by decide) (by decide) (hts (.classLink RL 13 "java/lang/IllegalArgumentException") (by decide +kernel)) (va_Nw.use rfl (hE.ca "java/lang/IllegalArgumentException" "java/lang/IllegalArgumentException" (by decide +kernel))) hce hcv hcl ?_
      refine lv_astore (lv' := [(5, .ref q9), (0, .ref x0), (1, .int k1), (2, .int k2), (3, .int k3), (4, .ref o1)]) hx hb dL_addWeak_15 hl (by decide) rfl (fun ls hl => ?_)
      refine lv_iconst (v := 1) hx hb dL_addWeak_17 (by decide) ?_
      have hP9 := hP.sub (ws' := [(o1, .inl (ty 1, 1, .inr (.inl (fun _ => 0))))]) [0] rfl
      have hD9 := hD.sub (ws' := [(o1, .inl (ty 1, 1, .inr (.inl (fun _ => 0))))]) [0] (by decide) rfl
      refine W.widen (k := 5) (n := 30) (Nat.le_of_ble_eq_true rfl) (Nat.le_of_ble_eq_true rfl) ?_
      refine vx_ret ?_
      exact W.iret (v := 1) hx hb hr (fun t ht hW => ⟨⟨1, [(o1, .inl (ty 1, 1, .inr (.inl (fun _ => 0))))], rfl, (Or.inr (Or.inr (Or.inr (Or.inr (Or.inr (Or.inl ⟨rfl, c_18, c_19, c_20, c_21, rfl⟩)))))), wq_B.of ht hP9 hD9⟩, hS.F ht⟩) hS.2.2 dL_addWeak_18
  · obtain ⟨rfl, c_22, c_23, c_24, c_25, c_26, c_27, rfl⟩ := hw
    have hP : va_P D vwCl [(o1, .inl (ty 1, 1, .inr (.inl (fun _ => 0))))] H := hP
    have hD : va_D A [(o1, .inl (ty 1, 1, .inr (.inl (fun _ => 0))))] := hD
    refine W.widen (k := 5) (n := 30) (Nat.le_of_ble_eq_true rfl) (Nat.le_of_ble_eq_true rfl) ?_
    refine lv_i2l (v := 0) hx hb dL_addWeak_10 (by decide) ?_
    refine va_last (D := D) hx hb hK hP hD hS 0 1 rfl rfl (vp_in_iff.mpr (by decide)) dL_addWeak_11 (fun H locs hP hD hS => ?_)
    rw [wq_updL0] at hP hD
    have hP : va_P D vwCl [(o1, .inl (ty 1, 1, .inr (.inl (fun _ => 0))))] H := hP
    have hD : va_D A [(o1, .inl (ty 1, 1, .inr (.inl (fun _ => 0))))] := hD
    refine lv_goto (tgt := 23) hx hb dL_addWeak_12 (by decide) ?_
    refine lv_iconst (v := 0) hx hb dL_addWeak_23 (by decide) ?_
    have hP9 := hP.sub (ws' := [(o1, .inl (ty 1, 1, .inr (.inl (fun _ => 0))))]) [0] rfl
    have hD9 := hD.sub (ws' := [(o1, .inl (ty 1, 1, .inr (.inl (fun _ => 0))))]) [0] (by decide) rfl
    refine W.widen (k := 5) (n := 30) (Nat.le_of_ble_eq_true rfl) (Nat.le_of_ble_eq_true rfl) ?_
    refine vx_ret ?_
    exact W.iret (v := 0) hx hb hr (fun t ht hW => ⟨⟨0, [(o1, .inl (ty 1, 1, .inr (.inl (fun _ => 0))))], rfl, (Or.inr (Or.inr (Or.inr (Or.inr (Or.inr (Or.inr ⟨rfl, c_22, c_23, c_24, c_25, c_26, c_27, rfl⟩)))))), wq_B.of ht hP9 hD9⟩, hS.F ht⟩) hS.2.2 dL_addWeak_24
def vs_k_L_addHead : List Cond := .codeWith yL_addHead cL_addHead 7 (some .int) [(0, 14, 17, 31), (0, 14, 21, 13), (0, 14, 25, 15)] :: ([.methodLink RL 28 yX10_addHead, .instanceMethod yX10_addHead, .selects RX10 yX10_addHead yX10_addHead, .initialized RX10, .classLink RL 31 "java/lang/IndexOutOfBoundsException"] ++ (vs_k_X10_addHead))
set_option maxRecDepth 20000 in
theorem gv_k_L_addHead_0 : GoodIn vs_k_L_addHead (wsV RL 28 RX10 yX10_addHead vs_k_X10_addHead) := goodIn_app (goodIn_sub (by decide +kernel) (by decide +kernel)) (goodIn_sub (fun _ h => List.mem_cons_of_mem _ (List.mem_append_right _ (h))) (by decide +kernel))
set_option maxHeartbeats 4000000 in
set_option maxRecDepth 100000 in
theorem k_L_addHead (l : Launch) (hl9 : l.stackTraces = false) (D : va_G) (ty : Nat → ClassId) (td mi sz : Nat) (x0 : Nat) (x1 : Nat) (x8 : Nat) (x20 : Nat) (x39 : Nat) (x41 : Nat) (x43 : Nat) (x45 : Nat) (x2 : Nat) (x3 : Nat) (x4 : Nat) (x5 : Nat) (x6 : Nat) (x7 : Nat) (o1 : Nat) (k1 : Int32) (k2 : Int32) (k3 : Int32) (k4 : Int32) : vx_Met l yL_addHead vs_k_L_addHead { frames := 7, cells := 1, slots := 6, locals := 108 } (va_Pc [.ref x0, .int k1, .int k2, .int k3, .int k4, .ref o1] (wq_P D ty td mi [(x0, .inr (15, [.ref x1, .ref x8, .ref x20, .ref x39, .ref x41, .ref x43, .ref x45])), (x1, .inr (11, [.ref x2, .int 0, .ref x3, .int 0, .ref x4, .ref x5, .int 1, .ref x6, .ref x7, .int 0])), (o1, .inl (ty 1, 1, .inr (.inl (fun _ => 0))))] sz)) (va_Qi (fun (r : Int32) (u : va_W) => (r = 1 ∧ (u = [(o1, .inl (ty 1, 1, .inr (.inl (fun _ => 0))))]))) (wq_B D (va_A [(x0, .inr (15, [.ref x1, .ref x8, .ref x20, .ref x39, .ref x41, .ref x43, .ref x45])), (x1, .inr (11, [.ref x2, .int 0, .ref x3, .int 0, .ref x4, .ref x5, .int 1, .ref x6, .ref x7, .int 0])), (o1, .inl (ty 1, 1, .inr (.inl (fun _ => 0))))] sz)) (va_A [(x0, .inr (15, [.ref x1, .ref x8, .ref x20, .ref x39, .ref x41, .ref x43, .ref x45])), (x1, .inr (11, [.ref x2, .int 0, .ref x3, .int 0, .ref x4, .ref x5, .int 1, .ref x6, .ref x7, .int 0])), (o1, .inl (ty 1, 1, .inr (.inl (fun _ => 0))))] sz)) (vx_X (fun u : String × va_W => False) (wq_BX D (va_A [(x0, .inr (15, [.ref x1, .ref x8, .ref x20, .ref x39, .ref x41, .ref x43, .ref x45])), (x1, .inr (11, [.ref x2, .int 0, .ref x3, .int 0, .ref x4, .ref x5, .int 1, .ref x6, .ref x7, .int 0])), (o1, .inl (ty 1, 1, .inr (.inl (fun _ => 0))))] sz)) (va_A [(x0, .inr (15, [.ref x1, .ref x8, .ref x20, .ref x39, .ref x41, .ref x43, .ref x45])), (x1, .inr (11, [.ref x2, .int 0, .ref x3, .int 0, .ref x4, .ref x5, .int 1, .ref x6, .ref x7, .int 0])), (o1, .inl (ty 1, 1, .inr (.inl (fun _ => 0))))] sz)) 1 6 (va_A [(x0, .inr (15, [.ref x1, .ref x8, .ref x20, .ref x39, .ref x41, .ref x43, .ref x45])), (x1, .inr (11, [.ref x2, .int 0, .ref x3, .int 0, .ref x4, .ref x5, .int 1, .ref x6, .ref x7, .int 0])), (o1, .inl (ty 1, 1, .inr (.inl (fun _ => 0))))] sz) := by
  refine vx_ofWH (cc := cL_addHead) (maxL := 7) (ret := (some .int)) (hh := [(0, 14, 17, 31), (0, 14, 21, 13), (0, 14, 25, 15)]) (by decide) rfl ?_
  intro p e s m args below meth c s₁ B hml hv
  obtain ⟨rfl, hsz, hP, hK, hD0, hE⟩ := hv
  have hx := B.exec
  have hb := B.bytes
  have hr := B.returns
  have hts := atoms_spec (ws := vs_k_L_addHead) B.pre
  have hown : s.vm.findClass RL = some m.cls := findClass_of_methodNamed B.named
  have hlocks := B.notSynchronized
  have hTab := vx_table (x := yL_walk) B (hts _ List.mem_cons_self)
  subst hsz
  have hD := hD0.self (sz := s.heap.size)
  generalize hAe : va_A [(x0, .inr (15, [.ref x1, .ref x8, .ref x20, .ref x39, .ref x41, .ref x43, .ref x45])), (x1, .inr (11, [.ref x2, .int 0, .ref x3, .int 0, .ref x4, .ref x5, .int 1, .ref x6, .ref x7, .int 0])), (o1, .inl (ty 1, 1, .inr (.inl (fun _ => 0))))] s.heap.size = A at hD hE ⊢
  have hA : ∀ q : Nat, s.heap.size ≤ q → A q := fun q h => by rw [← hAe]; exact Or.inr h
  have hS : va_S A s.heap s.heap [] := va_S.rf
  have hP : va_P D vwCl [(x0, .inr (15, [.ref x1, .ref x8, .ref x20, .ref x39, .ref x41, .ref x43, .ref x45])), (x1, .inr (11, [.ref x2, .int 0, .ref x3, .int 0, .ref x4, .ref x5, .int 1, .ref x6, .ref x7, .int 0])), (o1, .inl (ty 1, 1, .inr (.inl (fun _ => 0))))] s.heap := hP
  have hl := lv_entry ([.ref x0, .int k1, .int k2, .int k3, .int k4, .ref o1]) (n := 7) (Nat.le_of_ble_eq_true rfl)
  rw [lg_entry_eq]
  generalize (lg_sl ([.ref x0, .int k1, .int k2, .int k3, .int k4, .ref o1]) ++ List.replicate (7 - (lg_sl ([.ref x0, .int k1, .int k2, .int k3, .int k4, .ref o1])).length) Slot.unset).toArray = ls at hl ⊢
  have hl : lv_has ls 7 [(0, .ref x0), (1, .int k1), (2, .int k2), (3, .int k3), (4, .int k4), (5, .ref o1)] := hl
  refine lv_aload hx hb dL_addHead_0 (lv_at hl 5 rfl) ?_
  refine lv_iconst (v := 0) hx hb dL_addHead_2 (by decide) ?_
  refine lv_aload_n hx hb dL_addHead_3 rfl (lv_at hl 0 rfl) ?_
  refine lv_iload_n hx hb dL_addHead_4 rfl (lv_at hl 1 rfl) ?_
  refine lv_iload_n hx hb dL_addHead_5 rfl (lv_at hl 2 rfl) ?_
  refine lv_iload_n hx hb dL_addHead_6 rfl (lv_at hl 3 rfl) ?_
  refine lv_iload hx hb dL_addHead_7 (lv_at hl 4 rfl) ?_
  refine wq_xi (wc := [(x0, .inr (15, [.ref x1, .ref x8, .ref x20, .ref x39, .ref x41, .ref x43, .ref x45])), (x1, .inr (11, [.ref x2, .int 0, .ref x3, .int 0, .ref x4, .ref x5, .int 1, .ref x6, .ref x7, .int 0]))]) (wr := [(o1, .inl (ty 1, 1, .inr (.inl (fun _ => 0))))]) (vx_runV (As := [.int k1, .int k2, .int k3, .int k4]) (rest := [.int 0, .ref o1]) ⟨hx, hb, hml, hown, hts⟩ (k_X10_addHead l hl9 D ty td mi s.heap.size x0 x1 x8 x20 x39 x41 x43 x45 x2 x3 x4 x5 x6 x7 k1 k2 k3 k4) (cwV 4 hts gv_k_L_addHead_0 rfl rfl rfl (by decide +kernel) ⟨(Nat.le_of_ble_eq_true rfl), (Nat.le_of_ble_eq_true rfl)⟩) (wq_preV hP hD hK hE hS hA [0, 1] rfl (by decide) 0 15 rfl rfl) rfl rfl hl.1 rfl (lv_room (Nat.le_of_ble_eq_true rfl)) dL_addHead_9 ⟨(Nat.le_of_ble_eq_true rfl), (Nat.le_of_ble_eq_true rfl)⟩) hS hA hP hD [0, 1] [2] rfl rfl (by decide) (by decide) (fun E9 u H locs q9 ce hw hP hD hS hce hcv hcl => ?_) (fun r u H locs hw hP hD hS => ?_)
  · have hEq := hw
    cases hEq
    have hP : va_P D vwCl [(o1, .inl (ty 1, 1, .inr (.inl (fun _ => 0))))] H := hP
    have hD : va_D A [(o1, .inl (ty 1, 1, .inr (.inl (fun _ => 0))))] := hD
    refine vx_widen (k := 1) (n := 6) (Nat.le_of_ble_eq_true rfl) (Nat.le_of_ble_eq_true rfl) ?_
    refine vx_catch (own := RL) (name := "java/lang/IndexOutOfBoundsException") (E := "java/lang/IndexOutOfBoundsException") hown [] ⟨0, 14, 17, 31⟩ [⟨0, 14, 21, 13⟩, ⟨0, 14, 25, 15⟩] (by rw [hTab]; rfl) (fun z hz => nomatch hz) (by decide) (by decide) (hts (.classLink RL 31 "java/lang/IndexOutOfBoundsException") (by decide +kernel)) (va_Nw.use rfl (hE.ca "java/lang/IndexOutOfBoundsException" "java/lang/IndexOutOfBoundsException" (by decide +kernel))) hce hcv hcl ?_
    refine lv_astore (lv' := [(6, .ref q9), (0, .ref x0), (1, .int k1), (2, .int k2), (3, .int k3), (4, .int k4), (5, .ref o1)]) hx hb dL_addHead_17 hl (by decide) rfl (fun ls hl => ?_)
    refine lv_iconst (v := 1) hx hb dL_addHead_19 (by decide) ?_
    have hP9 := hP.sub (ws' := [(o1, .inl (ty 1, 1, .inr (.inl (fun _ => 0))))]) [0] rfl
    have hD9 := hD.sub (ws' := [(o1, .inl (ty 1, 1, .inr (.inl (fun _ => 0))))]) [0] (by decide) rfl
    refine W.widen (k := 1) (n := 6) (Nat.le_of_ble_eq_true rfl) (Nat.le_of_ble_eq_true rfl) ?_
    refine vx_ret ?_
    exact W.iret (v := 1) hx hb hr (fun t ht hW => ⟨⟨1, [(o1, .inl (ty 1, 1, .inr (.inl (fun _ => 0))))], rfl, ⟨rfl, rfl⟩, wq_B.of ht hP9 hD9⟩, hS.F ht⟩) hS.2.2 dL_addHead_20
  · exact hw.elim
def vs_k_L_addAtom : List Cond := .codeWith yL_addAtom cL_addAtom 8 (some .int) [(0, 16, 19, 31), (0, 16, 23, 13), (0, 16, 27, 15)] :: ([.methodLink RL 33 yX10_addAtom, .instanceMethod yX10_addAtom, .selects RX10 yX10_addAtom yX10_addAtom, .initialized RX10, .classLink RL 31 "java/lang/IndexOutOfBoundsException"] ++ (vs_k_X10_addAtom))
set_option maxRecDepth 20000 in
theorem gv_k_L_addAtom_0 : GoodIn vs_k_L_addAtom (wsV RL 33 RX10 yX10_addAtom vs_k_X10_addAtom) := goodIn_app (goodIn_sub (by decide +kernel) (by decide +kernel)) (goodIn_sub (fun _ h => List.mem_cons_of_mem _ (List.mem_append_right _ (h))) (by decide +kernel))
set_option maxHeartbeats 4000000 in
set_option maxRecDepth 100000 in
theorem k_L_addAtom (l : Launch) (hl9 : l.stackTraces = false) (D : va_G) (ty : Nat → ClassId) (td mi sz : Nat) (x0 : Nat) (x1 : Nat) (x8 : Nat) (x20 : Nat) (x39 : Nat) (x41 : Nat) (x43 : Nat) (x45 : Nat) (x2 : Nat) (x3 : Nat) (x4 : Nat) (x5 : Nat) (x6 : Nat) (x7 : Nat) (o1 : Nat) (k1 : Int32) (k2 : Int32) (k3 : Int32) (k4 : Int32) (k5 : Int32) : vx_Met l yL_addAtom vs_k_L_addAtom { frames := 7, cells := 1, slots := 6, locals := 109 } (va_Pc [.ref x0, .int k1, .int k2, .int k3, .int k4, .int k5, .ref o1] (wq_P D ty td mi [(x0, .inr (15, [.ref x1, .ref x8, .ref x20, .ref x39, .ref x41, .ref x43, .ref x45])), (x1, .inr (11, [.ref x2, .int 0, .ref x3, .int 0, .ref x4, .ref x5, .int 1, .ref x6, .ref x7, .int 0])), (o1, .inl (ty 1, 1, .inr (.inl (fun _ => 0))))] sz)) (va_Qi (fun (r : Int32) (u : va_W) => (r = 1 ∧ (u = [(o1, .inl (ty 1, 1, .inr (.inl (fun _ => 0))))]))) (wq_B D (va_A [(x0, .inr (15, [.ref x1, .ref x8, .ref x20, .ref x39, .ref x41, .ref x43, .ref x45])), (x1, .inr (11, [.ref x2, .int 0, .ref x3, .int 0, .ref x4, .ref x5, .int 1, .ref x6, .ref x7, .int 0])), (o1, .inl (ty 1, 1, .inr (.inl (fun _ => 0))))] sz)) (va_A [(x0, .inr (15, [.ref x1, .ref x8, .ref x20, .ref x39, .ref x41, .ref x43, .ref x45])), (x1, .inr (11, [.ref x2, .int 0, .ref x3, .int 0, .ref x4, .ref x5, .int 1, .ref x6, .ref x7, .int 0])), (o1, .inl (ty 1, 1, .inr (.inl (fun _ => 0))))] sz)) (vx_X (fun u : String × va_W => False) (wq_BX D (va_A [(x0, .inr (15, [.ref x1, .ref x8, .ref x20, .ref x39, .ref x41, .ref x43, .ref x45])), (x1, .inr (11, [.ref x2, .int 0, .ref x3, .int 0, .ref x4, .ref x5, .int 1, .ref x6, .ref x7, .int 0])), (o1, .inl (ty 1, 1, .inr (.inl (fun _ => 0))))] sz)) (va_A [(x0, .inr (15, [.ref x1, .ref x8, .ref x20, .ref x39, .ref x41, .ref x43, .ref x45])), (x1, .inr (11, [.ref x2, .int 0, .ref x3, .int 0, .ref x4, .ref x5, .int 1, .ref x6, .ref x7, .int 0])), (o1, .inl (ty 1, 1, .inr (.inl (fun _ => 0))))] sz)) 1 6 (va_A [(x0, .inr (15, [.ref x1, .ref x8, .ref x20, .ref x39, .ref x41, .ref x43, .ref x45])), (x1, .inr (11, [.ref x2, .int 0, .ref x3, .int 0, .ref x4, .ref x5, .int 1, .ref x6, .ref x7, .int 0])), (o1, .inl (ty 1, 1, .inr (.inl (fun _ => 0))))] sz) := by
  refine vx_ofWH (cc := cL_addAtom) (maxL := 8) (ret := (some .int)) (hh := [(0, 16, 19, 31), (0, 16, 23, 13), (0, 16, 27, 15)]) (by decide) rfl ?_
  intro p e s m args below meth c s₁ B hml hv
  obtain ⟨rfl, hsz, hP, hK, hD0, hE⟩ := hv
  have hx := B.exec
  have hb := B.bytes
  have hr := B.returns
  have hts := atoms_spec (ws := vs_k_L_addAtom) B.pre
  have hown : s.vm.findClass RL = some m.cls := findClass_of_methodNamed B.named
  have hlocks := B.notSynchronized
  have hTab := vx_table (x := yL_walk) B (hts _ List.mem_cons_self)
  subst hsz
  have hD := hD0.self (sz := s.heap.size)
  generalize hAe : va_A [(x0, .inr (15, [.ref x1, .ref x8, .ref x20, .ref x39, .ref x41, .ref x43, .ref x45])), (x1, .inr (11, [.ref x2, .int 0, .ref x3, .int 0, .ref x4, .ref x5, .int 1, .ref x6, .ref x7, .int 0])), (o1, .inl (ty 1, 1, .inr (.inl (fun _ => 0))))] s.heap.size = A at hD hE ⊢
  have hA : ∀ q : Nat, s.heap.size ≤ q → A q := fun q h => by rw [← hAe]; exact Or.inr h
  have hS : va_S A s.heap s.heap [] := va_S.rf
  have hP : va_P D vwCl [(x0, .inr (15, [.ref x1, .ref x8, .ref x20, .ref x39, .ref x41, .ref x43, .ref x45])), (x1, .inr (11, [.ref x2, .int 0, .ref x3, .int 0, .ref x4, .ref x5, .int 1, .ref x6, .ref x7, .int 0])), (o1, .inl (ty 1, 1, .inr (.inl (fun _ => 0))))] s.heap := hP
  have hl := lv_entry ([.ref x0, .int k1, .int k2, .int k3, .int k4, .int k5, .ref o1]) (n := 8) (Nat.le_of_ble_eq_true rfl)
  rw [lg_entry_eq]
  generalize (lg_sl ([.ref x0, .int k1, .int k2, .int k3, .int k4, .int k5, .ref o1]) ++ List.replicate (8 - (lg_sl ([.ref x0, .int k1, .int k2, .int k3, .int k4, .int k5, .ref o1])).length) Slot.unset).toArray = ls at hl ⊢
  have hl : lv_has ls 8 [(0, .ref x0), (1, .int k1), (2, .int k2), (3, .int k3), (4, .int k4), (5, .int k5), (6, .ref o1)] := hl
  refine lv_aload hx hb dL_addAtom_0 (lv_at hl 6 rfl) ?_
  refine lv_iconst (v := 0) hx hb dL_addAtom_2 (by decide) ?_
  refine lv_aload_n hx hb dL_addAtom_3 rfl (lv_at hl 0 rfl) ?_
  refine lv_iload_n hx hb dL_addAtom_4 rfl (lv_at hl 1 rfl) ?_
  refine lv_iload_n hx hb dL_addAtom_5 rfl (lv_at hl 2 rfl) ?_
  refine lv_iload_n hx hb dL_addAtom_6 rfl (lv_at hl 3 rfl) ?_
  refine lv_iload hx hb dL_addAtom_7 (lv_at hl 4 rfl) ?_
  refine lv_iload hx hb dL_addAtom_9 (lv_at hl 5 rfl) ?_
  refine wq_xi (wc := [(x0, .inr (15, [.ref x1, .ref x8, .ref x20, .ref x39, .ref x41, .ref x43, .ref x45])), (x1, .inr (11, [.ref x2, .int 0, .ref x3, .int 0, .ref x4, .ref x5, .int 1, .ref x6, .ref x7, .int 0]))]) (wr := [(o1, .inl (ty 1, 1, .inr (.inl (fun _ => 0))))]) (vx_runV (As := [.int k1, .int k2, .int k3, .int k4, .int k5]) (rest := [.int 0, .ref o1]) ⟨hx, hb, hml, hown, hts⟩ (k_X10_addAtom l hl9 D ty td mi s.heap.size x0 x1 x8 x20 x39 x41 x43 x45 x2 x3 x4 x5 x6 x7 k1 k2 k3 k4 k5) (cwV 5 hts gv_k_L_addAtom_0 rfl rfl rfl (by decide +kernel) ⟨(Nat.le_of_ble_eq_true rfl), (Nat.le_of_ble_eq_true rfl)⟩) (wq_preV hP hD hK hE hS hA [0, 1] rfl (by decide) 0 15 rfl rfl) rfl rfl hl.1 rfl (lv_room (Nat.le_of_ble_eq_true rfl)) dL_addAtom_11 ⟨(Nat.le_of_ble_eq_true rfl), (Nat.le_of_ble_eq_true rfl)⟩) hS hA hP hD [0, 1] [2] rfl rfl (by decide) (by decide) (fun E9 u H locs q9 ce hw hP hD hS hce hcv hcl => ?_) (fun r u H locs hw hP hD hS => ?_)
  · have hEq := hw
    cases hEq
    have hP : va_P D vwCl [(o1, .inl (ty 1, 1, .inr (.inl (fun _ => 0))))] H := hP
    have hD : va_D A [(o1, .inl (ty 1, 1, .inr (.inl (fun _ => 0))))] := hD
    refine vx_widen (k := 1) (n := 6) (Nat.le_of_ble_eq_true rfl) (Nat.le_of_ble_eq_true rfl) ?_
    refine vx_catch (own := RL) (name := "java/lang/IndexOutOfBoundsException") (E := "java/lang/IndexOutOfBoundsException") hown [] ⟨0, 16, 19, 31⟩ [⟨0, 16, 23, 13⟩, ⟨0, 16, 27, 15⟩] (by rw [hTab]; rfl) (fun z hz => nomatch hz) (by decide) (by decide) (hts (.classLink RL 31 "java/lang/IndexOutOfBoundsException") (by decide +kernel)) (va_Nw.use rfl (hE.ca "java/lang/IndexOutOfBoundsException" "java/lang/IndexOutOfBoundsException" (by decide +kernel))) hce hcv hcl ?_
    refine lv_astore (lv' := [(7, .ref q9), (0, .ref x0), (1, .int k1), (2, .int k2), (3, .int k3), (4, .int k4), (5, .int k5), (6, .ref o1)]) hx hb dL_addAtom_19 hl (by decide) rfl (fun ls hl => ?_)
    refine lv_iconst (v := 1) hx hb dL_addAtom_21 (by decide) ?_
    have hP9 := hP.sub (ws' := [(o1, .inl (ty 1, 1, .inr (.inl (fun _ => 0))))]) [0] rfl
    have hD9 := hD.sub (ws' := [(o1, .inl (ty 1, 1, .inr (.inl (fun _ => 0))))]) [0] (by decide) rfl
    refine W.widen (k := 1) (n := 6) (Nat.le_of_ble_eq_true rfl) (Nat.le_of_ble_eq_true rfl) ?_
    refine vx_ret ?_
    exact W.iret (v := 1) hx hb hr (fun t ht hW => ⟨⟨1, [(o1, .inl (ty 1, 1, .inr (.inl (fun _ => 0))))], rfl, ⟨rfl, rfl⟩, wq_B.of ht hP9 hD9⟩, hS.F ht⟩) hS.2.2 dL_addAtom_22
  · exact hw.elim
def vs_k_L_addTest : List Cond := .codeWith yL_addTest cL_addTest 7 (some .int) [(0, 14, 17, 31), (0, 14, 21, 13), (0, 14, 25, 15)] :: ([.methodLink RL 37 yX10_addTest, .instanceMethod yX10_addTest, .selects RX10 yX10_addTest yX10_addTest, .initialized RX10, .classLink RL 31 "java/lang/IndexOutOfBoundsException"] ++ (vs_k_X10_addTest))
set_option maxRecDepth 20000 in
theorem gv_k_L_addTest_0 : GoodIn vs_k_L_addTest (wsV RL 37 RX10 yX10_addTest vs_k_X10_addTest) := goodIn_app (goodIn_sub (by decide +kernel) (by decide +kernel)) (goodIn_sub (fun _ h => List.mem_cons_of_mem _ (List.mem_append_right _ (h))) (by decide +kernel))
set_option maxHeartbeats 4000000 in
set_option maxRecDepth 100000 in
theorem k_L_addTest (l : Launch) (hl9 : l.stackTraces = false) (D : va_G) (ty : Nat → ClassId) (td mi sz : Nat) (x0 : Nat) (x1 : Nat) (x8 : Nat) (x20 : Nat) (x39 : Nat) (x41 : Nat) (x43 : Nat) (x45 : Nat) (x2 : Nat) (x3 : Nat) (x4 : Nat) (x5 : Nat) (x6 : Nat) (x7 : Nat) (o1 : Nat) (k1 : Int32) (k2 : Int32) (k3 : Int32) (k4 : Int32) : vx_Met l yL_addTest vs_k_L_addTest { frames := 7, cells := 1, slots := 6, locals := 107 } (va_Pc [.ref x0, .int k1, .int k2, .int k3, .int k4, .ref o1] (wq_P D ty td mi [(x0, .inr (15, [.ref x1, .ref x8, .ref x20, .ref x39, .ref x41, .ref x43, .ref x45])), (x1, .inr (11, [.ref x2, .int 0, .ref x3, .int 0, .ref x4, .ref x5, .int 1, .ref x6, .ref x7, .int 0])), (o1, .inl (ty 1, 1, .inr (.inl (fun _ => 0))))] sz)) (va_Qi (fun (r : Int32) (u : va_W) => (r = 1 ∧ (u = [(o1, .inl (ty 1, 1, .inr (.inl (fun _ => 0))))]))) (wq_B D (va_A [(x0, .inr (15, [.ref x1, .ref x8, .ref x20, .ref x39, .ref x41, .ref x43, .ref x45])), (x1, .inr (11, [.ref x2, .int 0, .ref x3, .int 0, .ref x4, .ref x5, .int 1, .ref x6, .ref x7, .int 0])), (o1, .inl (ty 1, 1, .inr (.inl (fun _ => 0))))] sz)) (va_A [(x0, .inr (15, [.ref x1, .ref x8, .ref x20, .ref x39, .ref x41, .ref x43, .ref x45])), (x1, .inr (11, [.ref x2, .int 0, .ref x3, .int 0, .ref x4, .ref x5, .int 1, .ref x6, .ref x7, .int 0])), (o1, .inl (ty 1, 1, .inr (.inl (fun _ => 0))))] sz)) (vx_X (fun u : String × va_W => False) (wq_BX D (va_A [(x0, .inr (15, [.ref x1, .ref x8, .ref x20, .ref x39, .ref x41, .ref x43, .ref x45])), (x1, .inr (11, [.ref x2, .int 0, .ref x3, .int 0, .ref x4, .ref x5, .int 1, .ref x6, .ref x7, .int 0])), (o1, .inl (ty 1, 1, .inr (.inl (fun _ => 0))))] sz)) (va_A [(x0, .inr (15, [.ref x1, .ref x8, .ref x20, .ref x39, .ref x41, .ref x43, .ref x45])), (x1, .inr (11, [.ref x2, .int 0, .ref x3, .int 0, .ref x4, .ref x5, .int 1, .ref x6, .ref x7, .int 0])), (o1, .inl (ty 1, 1, .inr (.inl (fun _ => 0))))] sz)) 1 6 (va_A [(x0, .inr (15, [.ref x1, .ref x8, .ref x20, .ref x39, .ref x41, .ref x43, .ref x45])), (x1, .inr (11, [.ref x2, .int 0, .ref x3, .int 0, .ref x4, .ref x5, .int 1, .ref x6, .ref x7, .int 0])), (o1, .inl (ty 1, 1, .inr (.inl (fun _ => 0))))] sz) := by
  refine vx_ofWH (cc := cL_addTest) (maxL := 7) (ret := (some .int)) (hh := [(0, 14, 17, 31), (0, 14, 21, 13), (0, 14, 25, 15)]) (by decide) rfl ?_
  intro p e s m args below meth c s₁ B hml hv
  obtain ⟨rfl, hsz, hP, hK, hD0, hE⟩ := hv
  have hx := B.exec
  have hb := B.bytes
  have hr := B.returns
  have hts := atoms_spec (ws := vs_k_L_addTest) B.pre
  have hown : s.vm.findClass RL = some m.cls := findClass_of_methodNamed B.named
  have hlocks := B.notSynchronized
  have hTab := vx_table (x := yL_walk) B (hts _ List.mem_cons_self)
  subst hsz
  have hD := hD0.self (sz := s.heap.size)
  generalize hAe : va_A [(x0, .inr (15, [.ref x1, .ref x8, .ref x20, .ref x39, .ref x41, .ref x43, .ref x45])), (x1, .inr (11, [.ref x2, .int 0, .ref x3, .int 0, .ref x4, .ref x5, .int 1, .ref x6, .ref x7, .int 0])), (o1, .inl (ty 1, 1, .inr (.inl (fun _ => 0))))] s.heap.size = A at hD hE ⊢
  have hA : ∀ q : Nat, s.heap.size ≤ q → A q := fun q h => by rw [← hAe]; exact Or.inr h
  have hS : va_S A s.heap s.heap [] := va_S.rf
  have hP : va_P D vwCl [(x0, .inr (15, [.ref x1, .ref x8, .ref x20, .ref x39, .ref x41, .ref x43, .ref x45])), (x1, .inr (11, [.ref x2, .int 0, .ref x3, .int 0, .ref x4, .ref x5, .int 1, .ref x6, .ref x7, .int 0])), (o1, .inl (ty 1, 1, .inr (.inl (fun _ => 0))))] s.heap := hP
  have hl := lv_entry ([.ref x0, .int k1, .int k2, .int k3, .int k4, .ref o1]) (n := 7) (Nat.le_of_ble_eq_true rfl)
  rw [lg_entry_eq]
  generalize (lg_sl ([.ref x0, .int k1, .int k2, .int k3, .int k4, .ref o1]) ++ List.replicate (7 - (lg_sl ([.ref x0, .int k1, .int k2, .int k3, .int k4, .ref o1])).length) Slot.unset).toArray = ls at hl ⊢
  have hl : lv_has ls 7 [(0, .ref x0), (1, .int k1), (2, .int k2), (3, .int k3), (4, .int k4), (5, .ref o1)] := hl
  refine lv_aload hx hb dL_addTest_0 (lv_at hl 5 rfl) ?_
  refine lv_iconst (v := 0) hx hb dL_addTest_2 (by decide) ?_
  refine lv_aload_n hx hb dL_addTest_3 rfl (lv_at hl 0 rfl) ?_
  refine lv_iload_n hx hb dL_addTest_4 rfl (lv_at hl 1 rfl) ?_
  refine lv_iload_n hx hb dL_addTest_5 rfl (lv_at hl 2 rfl) ?_
  refine lv_iload_n hx hb dL_addTest_6 rfl (lv_at hl 3 rfl) ?_
  refine lv_iload hx hb dL_addTest_7 (lv_at hl 4 rfl) ?_
  refine wq_xi (wc := [(x0, .inr (15, [.ref x1, .ref x8, .ref x20, .ref x39, .ref x41, .ref x43, .ref x45])), (x1, .inr (11, [.ref x2, .int 0, .ref x3, .int 0, .ref x4, .ref x5, .int 1, .ref x6, .ref x7, .int 0]))]) (wr := [(o1, .inl (ty 1, 1, .inr (.inl (fun _ => 0))))]) (vx_runV (As := [.int k1, .int k2, .int k3, .int k4]) (rest := [.int 0, .ref o1]) ⟨hx, hb, hml, hown, hts⟩ (k_X10_addTest l hl9 D ty td mi s.heap.size x0 x1 x8 x20 x39 x41 x43 x45 x2 x3 x4 x5 x6 x7 k1 k2 k3 k4) (cwV 4 hts gv_k_L_addTest_0 rfl rfl rfl (by decide +kernel) ⟨(Nat.le_of_ble_eq_true rfl), (Nat.le_of_ble_eq_true rfl)⟩) (wq_preV hP hD hK hE hS hA [0, 1] rfl (by decide) 0 15 rfl rfl) rfl rfl hl.1 rfl (lv_room (Nat.le_of_ble_eq_true rfl)) dL_addTest_9 ⟨(Nat.le_of_ble_eq_true rfl), (Nat.le_of_ble_eq_true rfl)⟩) hS hA hP hD [0, 1] [2] rfl rfl (by decide) (by decide) (fun E9 u H locs q9 ce hw hP hD hS hce hcv hcl => ?_) (fun r u H locs hw hP hD hS => ?_)
  · have hEq := hw
    cases hEq
    have hP : va_P D vwCl [(o1, .inl (ty 1, 1, .inr (.inl (fun _ => 0))))] H := hP
    have hD : va_D A [(o1, .inl (ty 1, 1, .inr (.inl (fun _ => 0))))] := hD
    refine vx_widen (k := 1) (n := 6) (Nat.le_of_ble_eq_true rfl) (Nat.le_of_ble_eq_true rfl) ?_
    refine vx_catch (own := RL) (name := "java/lang/IndexOutOfBoundsException") (E := "java/lang/IndexOutOfBoundsException") hown [] ⟨0, 14, 17, 31⟩ [⟨0, 14, 21, 13⟩, ⟨0, 14, 25, 15⟩] (by rw [hTab]; rfl) (fun z hz => nomatch hz) (by decide) (by decide) (hts (.classLink RL 31 "java/lang/IndexOutOfBoundsException") (by decide +kernel)) (va_Nw.use rfl (hE.ca "java/lang/IndexOutOfBoundsException" "java/lang/IndexOutOfBoundsException" (by decide +kernel))) hce hcv hcl ?_
    refine lv_astore (lv' := [(6, .ref q9), (0, .ref x0), (1, .int k1), (2, .int k2), (3, .int k3), (4, .int k4), (5, .ref o1)]) hx hb dL_addTest_17 hl (by decide) rfl (fun ls hl => ?_)
    refine lv_iconst (v := 1) hx hb dL_addTest_19 (by decide) ?_
    have hP9 := hP.sub (ws' := [(o1, .inl (ty 1, 1, .inr (.inl (fun _ => 0))))]) [0] rfl
    have hD9 := hD.sub (ws' := [(o1, .inl (ty 1, 1, .inr (.inl (fun _ => 0))))]) [0] (by decide) rfl
    refine W.widen (k := 1) (n := 6) (Nat.le_of_ble_eq_true rfl) (Nat.le_of_ble_eq_true rfl) ?_
    refine vx_ret ?_
    exact W.iret (v := 1) hx hb hr (fun t ht hW => ⟨⟨1, [(o1, .inl (ty 1, 1, .inr (.inl (fun _ => 0))))], rfl, ⟨rfl, rfl⟩, wq_B.of ht hP9 hD9⟩, hS.F ht⟩) hS.2.2 dL_addTest_20
  · exact hw.elim
def vs_k_L_addCount : List Cond := .codeWith yL_addCount cL_addCount 7 (some .int) [(0, 14, 17, 31), (0, 14, 21, 13), (0, 14, 25, 15)] :: ([.methodLink RL 41 yX10_addCount, .instanceMethod yX10_addCount, .selects RX10 yX10_addCount yX10_addCount, .initialized RX10, .classLink RL 31 "java/lang/IndexOutOfBoundsException"] ++ (vs_k_X10_addCount))
set_option maxRecDepth 20000 in
theorem gv_k_L_addCount_0 : GoodIn vs_k_L_addCount (wsV RL 41 RX10 yX10_addCount vs_k_X10_addCount) := goodIn_app (goodIn_sub (by decide +kernel) (by decide +kernel)) (goodIn_sub (fun _ h => List.mem_cons_of_mem _ (List.mem_append_right _ (h))) (by decide +kernel))
set_option maxHeartbeats 4000000 in
set_option maxRecDepth 100000 in
theorem k_L_addCount (l : Launch) (hl9 : l.stackTraces = false) (D : va_G) (ty : Nat → ClassId) (td mi sz : Nat) (x0 : Nat) (x1 : Nat) (x8 : Nat) (x20 : Nat) (x39 : Nat) (x41 : Nat) (x43 : Nat) (x45 : Nat) (x2 : Nat) (x3 : Nat) (x4 : Nat) (x5 : Nat) (x6 : Nat) (x7 : Nat) (o1 : Nat) (k1 : Int32) (k2 : Int32) (k3 : Int32) (k4 : Int32) : vx_Met l yL_addCount vs_k_L_addCount { frames := 7, cells := 1, slots := 6, locals := 107 } (va_Pc [.ref x0, .int k1, .int k2, .int k3, .int k4, .ref o1] (wq_P D ty td mi [(x0, .inr (15, [.ref x1, .ref x8, .ref x20, .ref x39, .ref x41, .ref x43, .ref x45])), (x1, .inr (11, [.ref x2, .int 0, .ref x3, .int 0, .ref x4, .ref x5, .int 1, .ref x6, .ref x7, .int 0])), (o1, .inl (ty 1, 1, .inr (.inl (fun _ => 0))))] sz)) (va_Qi (fun (r : Int32) (u : va_W) => (r = 1 ∧ (u = [(o1, .inl (ty 1, 1, .inr (.inl (fun _ => 0))))]))) (wq_B D (va_A [(x0, .inr (15, [.ref x1, .ref x8, .ref x20, .ref x39, .ref x41, .ref x43, .ref x45])), (x1, .inr (11, [.ref x2, .int 0, .ref x3, .int 0, .ref x4, .ref x5, .int 1, .ref x6, .ref x7, .int 0])), (o1, .inl (ty 1, 1, .inr (.inl (fun _ => 0))))] sz)) (va_A [(x0, .inr (15, [.ref x1, .ref x8, .ref x20, .ref x39, .ref x41, .ref x43, .ref x45])), (x1, .inr (11, [.ref x2, .int 0, .ref x3, .int 0, .ref x4, .ref x5, .int 1, .ref x6, .ref x7, .int 0])), (o1, .inl (ty 1, 1, .inr (.inl (fun _ => 0))))] sz)) (vx_X (fun u : String × va_W => False) (wq_BX D (va_A [(x0, .inr (15, [.ref x1, .ref x8, .ref x20, .ref x39, .ref x41, .ref x43, .ref x45])), (x1, .inr (11, [.ref x2, .int 0, .ref x3, .int 0, .ref x4, .ref x5, .int 1, .ref x6, .ref x7, .int 0])), (o1, .inl (ty 1, 1, .inr (.inl (fun _ => 0))))] sz)) (va_A [(x0, .inr (15, [.ref x1, .ref x8, .ref x20, .ref x39, .ref x41, .ref x43, .ref x45])), (x1, .inr (11, [.ref x2, .int 0, .ref x3, .int 0, .ref x4, .ref x5, .int 1, .ref x6, .ref x7, .int 0])), (o1, .inl (ty 1, 1, .inr (.inl (fun _ => 0))))] sz)) 1 6 (va_A [(x0, .inr (15, [.ref x1, .ref x8, .ref x20, .ref x39, .ref x41, .ref x43, .ref x45])), (x1, .inr (11, [.ref x2, .int 0, .ref x3, .int 0, .ref x4, .ref x5, .int 1, .ref x6, .ref x7, .int 0])), (o1, .inl (ty 1, 1, .inr (.inl (fun _ => 0))))] sz) := by
  refine vx_ofWH (cc := cL_addCount) (maxL := 7) (ret := (some .int)) (hh := [(0, 14, 17, 31), (0, 14, 21, 13), (0, 14, 25, 15)]) (by decide) rfl ?_
  intro p e s m args below meth c s₁ B hml hv
  obtain ⟨rfl, hsz, hP, hK, hD0, hE⟩ := hv
  have hx := B.exec
  have hb := B.bytes
  have hr := B.returns
  have hts := atoms_spec (ws := vs_k_L_addCount) B.pre
  have hown : s.vm.findClass RL = some m.cls := findClass_of_methodNamed B.named
  have hlocks := B.notSynchronized
  have hTab := vx_table (x := yL_walk) B (hts _ List.mem_cons_self)
  subst hsz
  have hD := hD0.self (sz := s.heap.size)
  generalize hAe : va_A [(x0, .inr (15, [.ref x1, .ref x8, .ref x20, .ref x39, .ref x41, .ref x43, .ref x45])), (x1, .inr (11, [.ref x2, .int 0, .ref x3, .int 0, .ref x4, .ref x5, .int 1, .ref x6, .ref x7, .int 0])), (o1, .inl (ty 1, 1, .inr (.inl (fun _ => 0))))] s.heap.size = A at hD hE ⊢
  have hA : ∀ q : Nat, s.heap.size ≤ q → A q := fun q h => by rw [← hAe]; exact Or.inr h
  have hS : va_S A s.heap s.heap [] := va_S.rf
  have hP : va_P D vwCl [(x0, .inr (15, [.ref x1, .ref x8, .ref x20, .ref x39, .ref x41, .ref x43, .ref x45])), (x1, .inr (11, [.ref x2, .int 0, .ref x3, .int 0, .ref x4, .ref x5, .int 1, .ref x6, .ref x7, .int 0])), (o1, .inl (ty 1, 1, .inr (.inl (fun _ => 0))))] s.heap := hP
  have hl := lv_entry ([.ref x0, .int k1, .int k2, .int k3, .int k4, .ref o1]) (n := 7) (Nat.le_of_ble_eq_true rfl)
  rw [lg_entry_eq]
  generalize (lg_sl ([.ref x0, .int k1, .int k2, .int k3, .int k4, .ref o1]) ++ List.replicate (7 - (lg_sl ([.ref x0, .int k1, .int k2, .int k3, .int k4, .ref o1])).length) Slot.unset).toArray = ls at hl ⊢
  have hl : lv_has ls 7 [(0, .ref x0), (1, .int k1), (2, .int k2), (3, .int k3), (4, .int k4), (5, .ref o1)] := hl
  refine lv_aload hx hb dL_addCount_0 (lv_at hl 5 rfl) ?_
  refine lv_iconst (v := 0) hx hb dL_addCount_2 (by decide) ?_
  refine lv_aload_n hx hb dL_addCount_3 rfl (lv_at hl 0 rfl) ?_
  refine lv_iload_n hx hb dL_addCount_4 rfl (lv_at hl 1 rfl) ?_
  refine lv_iload_n hx hb dL_addCount_5 rfl (lv_at hl 2 rfl) ?_
  refine lv_iload_n hx hb dL_addCount_6 rfl (lv_at hl 3 rfl) ?_
  refine lv_iload hx hb dL_addCount_7 (lv_at hl 4 rfl) ?_
  refine wq_xi (wc := [(x0, .inr (15, [.ref x1, .ref x8, .ref x20, .ref x39, .ref x41, .ref x43, .ref x45])), (x1, .inr (11, [.ref x2, .int 0, .ref x3, .int 0, .ref x4, .ref x5, .int 1, .ref x6, .ref x7, .int 0]))]) (wr := [(o1, .inl (ty 1, 1, .inr (.inl (fun _ => 0))))]) (vx_runV (As := [.int k1, .int k2, .int k3, .int k4]) (rest := [.int 0, .ref o1]) ⟨hx, hb, hml, hown, hts⟩ (k_X10_addCount l hl9 D ty td mi s.heap.size x0 x1 x8 x20 x39 x41 x43 x45 x2 x3 x4 x5 x6 x7 k1 k2 k3 k4) (cwV 4 hts gv_k_L_addCount_0 rfl rfl rfl (by decide +kernel) ⟨(Nat.le_of_ble_eq_true rfl), (Nat.le_of_ble_eq_true rfl)⟩) (wq_preV hP hD hK hE hS hA [0, 1] rfl (by decide) 0 15 rfl rfl) rfl rfl hl.1 rfl (lv_room (Nat.le_of_ble_eq_true rfl)) dL_addCount_9 ⟨(Nat.le_of_ble_eq_true rfl), (Nat.le_of_ble_eq_true rfl)⟩) hS hA hP hD [0, 1] [2] rfl rfl (by decide) (by decide) (fun E9 u H locs q9 ce hw hP hD hS hce hcv hcl => ?_) (fun r u H locs hw hP hD hS => ?_)
  · have hEq := hw
    cases hEq
    have hP : va_P D vwCl [(o1, .inl (ty 1, 1, .inr (.inl (fun _ => 0))))] H := hP
    have hD : va_D A [(o1, .inl (ty 1, 1, .inr (.inl (fun _ => 0))))] := hD
    refine vx_widen (k := 1) (n := 6) (Nat.le_of_ble_eq_true rfl) (Nat.le_of_ble_eq_true rfl) ?_
    refine vx_catch (own := RL) (name := "java/lang/IndexOutOfBoundsException") (E := "java/lang/IndexOutOfBoundsException") hown [] ⟨0, 14, 17, 31⟩ [⟨0, 14, 21, 13⟩, ⟨0, 14, 25, 15⟩] (by rw [hTab]; rfl) (fun z hz => nomatch hz) (by decide) (by decide) (hts (.classLink RL 31 "java/lang/IndexOutOfBoundsException") (by decide +kernel)) (va_Nw.use rfl (hE.ca "java/lang/IndexOutOfBoundsException" "java/lang/IndexOutOfBoundsException" (by decide +kernel))) hce hcv hcl ?_
    refine lv_astore (lv' := [(6, .ref q9), (0, .ref x0), (1, .int k1), (2, .int k2), (3, .int k3), (4, .int k4), (5, .ref o1)]) hx hb dL_addCount_17 hl (by decide) rfl (fun ls hl => ?_)
    refine lv_iconst (v := 1) hx hb dL_addCount_19 (by decide) ?_
    have hP9 := hP.sub (ws' := [(o1, .inl (ty 1, 1, .inr (.inl (fun _ => 0))))]) [0] rfl
    have hD9 := hD.sub (ws' := [(o1, .inl (ty 1, 1, .inr (.inl (fun _ => 0))))]) [0] (by decide) rfl
    refine W.widen (k := 1) (n := 6) (Nat.le_of_ble_eq_true rfl) (Nat.le_of_ble_eq_true rfl) ?_
    refine vx_ret ?_
    exact W.iret (v := 1) hx hb hr (fun t ht hW => ⟨⟨1, [(o1, .inl (ty 1, 1, .inr (.inl (fun _ => 0))))], rfl, ⟨rfl, rfl⟩, wq_B.of ht hP9 hD9⟩, hS.F ht⟩) hS.2.2 dL_addCount_20
  · exact hw.elim
def vs_k_L_ground : List Cond := .codeWith yL_ground cL_ground 5 (some .int) [(0, 10, 13, 13), (0, 10, 17, 15)] :: ([.methodLink RL 44 yX10_ground, .instanceMethod yX10_ground, .selects RX10 yX10_ground yX10_ground, .initialized RX10, .classLink RL 13 "java/lang/IllegalArgumentException", .classLink RL 15 "java/lang/IllegalStateException"] ++ (vs_k_X10_ground))
set_option maxRecDepth 20000 in
theorem gv_k_L_ground_0 : GoodIn vs_k_L_ground (wsV RL 44 RX10 yX10_ground vs_k_X10_ground) := goodIn_app (goodIn_sub (by decide +kernel) (by decide +kernel)) (goodIn_sub (fun _ h => List.mem_cons_of_mem _ (List.mem_append_right _ (h))) (by decide +kernel))
set_option maxHeartbeats 4000000 in
set_option maxRecDepth 100000 in
theorem k_L_ground (l : Launch) (hl9 : l.stackTraces = false) (D : va_G) (ty : Nat → ClassId) (td mi sz : Nat) (x0 : Nat) (x1 : Nat) (x8 : Nat) (x20 : Nat) (x39 : Nat) (x41 : Nat) (x43 : Nat) (x45 : Nat) (x2 : Nat) (x3 : Nat) (x4 : Nat) (x5 : Nat) (x6 : Nat) (x7 : Nat) (x9 : Nat) (x10 : Nat) (x12 : Nat) (x14 : Nat) (x15 : Nat) (x16 : Nat) (x17 : Nat) (x18 : Nat) (x19 : Nat) (x21 : Nat) (x28 : Nat) (x35 : Nat) (x36 : Nat) (x37 : Nat) (x38 : Nat) (x46 : Nat) (x47 : Nat) (o1 : Nat) (k1 : Int32) (k2 : Int32) : vx_Met l yL_ground vs_k_L_ground { frames := 7, cells := 1, slots := 6, locals := 104 } (va_Pc [.ref x0, .int k1, .int k2, .ref o1] (wq_P D ty td mi [(x0, .inr (15, [.ref x1, .ref x8, .ref x20, .ref x39, .ref x41, .ref x43, .ref x45])), (x1, .inr (11, [.ref x2, .int 0, .ref x3, .int 0, .ref x4, .ref x5, .int 1, .ref x6, .ref x7, .int 0])), (x4, .inl (ty 0, 7, .inl (fun _ => 0))), (x5, .inl (ty 0, 7, .inl (fun _ => 0))), (x8, .inr (8, [.ref x1, .ref x9, .ref x10, .ref x12, .ref x14, .int 0, .ref x15, .ref x16, .ref x17, .int 0, .ref x18, .ref x19, .int 0, .int 0, .int 0, .int 0])), (x20, .inr (14, [.ref x1, .ref x8, .ref x21, .ref x28, .ref x35, .int 0, .ref x36, .ref x37, .ref x38, .int 0, .int 0, .int 0, .int 0, .int 0, .int 0, .int 0, .int 0])), (x45, .inr (5, [.ref x46, .ref x47, .int 0, .int 0])), (o1, .inl (ty 1, 1, .inr (.inl (fun _ => 0))))] sz)) (va_Qi (fun (r : Int32) (u : va_W) => (r = 1 ∧ (k1 < 1) ∧ (u = [(o1, .inl (ty 1, 1, .inr (.inl (fun _ => 0))))])) ∨ (r = 1 ∧ (¬ (k1 < 1)) ∧ (3 < k1) ∧ (u = [(o1, .inl (ty 1, 1, .inr (.inl (fun _ => 0))))])) ∨ (r = 1 ∧ (¬ (k1 < 1)) ∧ (¬ (3 < k1)) ∧ (k2 < 0) ∧ (u = [(o1, .inl (ty 1, 1, .inr (.inl (fun _ => 0))))])) ∨ (r = 1 ∧ (¬ (k1 < 1)) ∧ (¬ (3 < k1)) ∧ (¬ (k2 < 0)) ∧ (8 ≤ k2) ∧ (u = [(o1, .inl (ty 1, 1, .inr (.inl (fun _ => 0))))])) ∨ (r = 2 ∧ (¬ (k1 < 1)) ∧ (¬ (3 < k1)) ∧ (¬ (k2 < 0)) ∧ (¬ (8 ≤ k2)) ∧ (¬ (0 = k1)) ∧ ((-1) = k2) ∧ (u = [(o1, .inl (ty 1, 1, .inr (.inl (fun _ => 0))))])) ∨ (r = 2 ∧ (¬ (k1 < 1)) ∧ (¬ (3 < k1)) ∧ (¬ (k2 < 0)) ∧ (¬ (8 ≤ k2)) ∧ (0 = k1) ∧ (0 = k2) ∧ (u = [(o1, .inl (ty 1, 1, .inr (.inl (fun _ => 0))))])) ∨ (r = 0 ∧ (¬ (k1 < 1)) ∧ (¬ (3 < k1)) ∧ (¬ (k2 < 0)) ∧ (¬ (8 ≤ k2)) ∧ (¬ (0 = k1)) ∧ (¬ ((-1) = k2)) ∧ (u = [(o1, .inl (ty 1, 1, .inr (.inl (vp_updL (fun _ => 0) (0 : Int32).toNatClampNeg 1))))])) ∨ (r = 0 ∧ (¬ (k1 < 1)) ∧ (¬ (3 < k1)) ∧ (¬ (k2 < 0)) ∧ (¬ (8 ≤ k2)) ∧ (0 = k1) ∧ (¬ (0 = k2)) ∧ (u = [(o1, .inl (ty 1, 1, .inr (.inl (vp_updL (fun _ => 0) (0 : Int32).toNatClampNeg 1))))]))) (wq_B D (va_A [(x0, .inr (15, [.ref x1, .ref x8, .ref x20, .ref x39, .ref x41, .ref x43, .ref x45])), (x1, .inr (11, [.ref x2, .int 0, .ref x3, .int 0, .ref x4, .ref x5, .int 1, .ref x6, .ref x7, .int 0])), (x4, .inl (ty 0, 7, .inl (fun _ => 0))), (x5, .inl (ty 0, 7, .inl (fun _ => 0))), (x8, .inr (8, [.ref x1, .ref x9, .ref x10, .ref x12, .ref x14, .int 0, .ref x15, .ref x16, .ref x17, .int 0, .ref x18, .ref x19, .int 0, .int 0, .int 0, .int 0])), (x20, .inr (14, [.ref x1, .ref x8, .ref x21, .ref x28, .ref x35, .int 0, .ref x36, .ref x37, .ref x38, .int 0, .int 0, .int 0, .int 0, .int 0, .int 0, .int 0, .int 0])), (x45, .inr (5, [.ref x46, .ref x47, .int 0, .int 0])), (o1, .inl (ty 1, 1, .inr (.inl (fun _ => 0))))] sz)) (va_A [(x0, .inr (15, [.ref x1, .ref x8, .ref x20, .ref x39, .ref x41, .ref x43, .ref x45])), (x1, .inr (11, [.ref x2, .int 0, .ref x3, .int 0, .ref x4, .ref x5, .int 1, .ref x6, .ref x7, .int 0])), (x4, .inl (ty 0, 7, .inl (fun _ => 0))), (x5, .inl (ty 0, 7, .inl (fun _ => 0))), (x8, .inr (8, [.ref x1, .ref x9, .ref x10, .ref x12, .ref x14, .int 0, .ref x15, .ref x16, .ref x17, .int 0, .ref x18, .ref x19, .int 0, .int 0, .int 0, .int 0])), (x20, .inr (14, [.ref x1, .ref x8, .ref x21, .ref x28, .ref x35, .int 0, .ref x36, .ref x37, .ref x38, .int 0, .int 0, .int 0, .int 0, .int 0, .int 0, .int 0, .int 0])), (x45, .inr (5, [.ref x46, .ref x47, .int 0, .int 0])), (o1, .inl (ty 1, 1, .inr (.inl (fun _ => 0))))] sz)) (vx_X (fun u : String × va_W => False) (wq_BX D (va_A [(x0, .inr (15, [.ref x1, .ref x8, .ref x20, .ref x39, .ref x41, .ref x43, .ref x45])), (x1, .inr (11, [.ref x2, .int 0, .ref x3, .int 0, .ref x4, .ref x5, .int 1, .ref x6, .ref x7, .int 0])), (x4, .inl (ty 0, 7, .inl (fun _ => 0))), (x5, .inl (ty 0, 7, .inl (fun _ => 0))), (x8, .inr (8, [.ref x1, .ref x9, .ref x10, .ref x12, .ref x14, .int 0, .ref x15, .ref x16, .ref x17, .int 0, .ref x18, .ref x19, .int 0, .int 0, .int 0, .int 0])), (x20, .inr (14, [.ref x1, .ref x8, .ref x21, .ref x28, .ref x35, .int 0, .ref x36, .ref x37, .ref x38, .int 0, .int 0, .int 0, .int 0, .int 0, .int 0, .int 0, .int 0])), (x45, .inr (5, [.ref x46, .ref x47, .int 0, .int 0])), (o1, .inl (ty 1, 1, .inr (.inl (fun _ => 0))))] sz)) (va_A [(x0, .inr (15, [.ref x1, .ref x8, .ref x20, .ref x39, .ref x41, .ref x43, .ref x45])), (x1, .inr (11, [.ref x2, .int 0, .ref x3, .int 0, .ref x4, .ref x5, .int 1, .ref x6, .ref x7, .int 0])), (x4, .inl (ty 0, 7, .inl (fun _ => 0))), (x5, .inl (ty 0, 7, .inl (fun _ => 0))), (x8, .inr (8, [.ref x1, .ref x9, .ref x10, .ref x12, .ref x14, .int 0, .ref x15, .ref x16, .ref x17, .int 0, .ref x18, .ref x19, .int 0, .int 0, .int 0, .int 0])), (x20, .inr (14, [.ref x1, .ref x8, .ref x21, .ref x28, .ref x35, .int 0, .ref x36, .ref x37, .ref x38, .int 0, .int 0, .int 0, .int 0, .int 0, .int 0, .int 0, .int 0])), (x45, .inr (5, [.ref x46, .ref x47, .int 0, .int 0])), (o1, .inl (ty 1, 1, .inr (.inl (fun _ => 0))))] sz)) 1 6 (va_A [(x0, .inr (15, [.ref x1, .ref x8, .ref x20, .ref x39, .ref x41, .ref x43, .ref x45])), (x1, .inr (11, [.ref x2, .int 0, .ref x3, .int 0, .ref x4, .ref x5, .int 1, .ref x6, .ref x7, .int 0])), (x4, .inl (ty 0, 7, .inl (fun _ => 0))), (x5, .inl (ty 0, 7, .inl (fun _ => 0))), (x8, .inr (8, [.ref x1, .ref x9, .ref x10, .ref x12, .ref x14, .int 0, .ref x15, .ref x16, .ref x17, .int 0, .ref x18, .ref x19, .int 0, .int 0, .int 0, .int 0])), (x20, .inr (14, [.ref x1, .ref x8, .ref x21, .ref x28, .ref x35, .int 0, .ref x36, .ref x37, .ref x38, .int 0, .int 0, .int 0, .int 0, .int 0, .int 0, .int 0, .int 0])), (x45, .inr (5, [.ref x46, .ref x47, .int 0, .int 0])), (o1, .inl (ty 1, 1, .inr (.inl (fun _ => 0))))] sz) := by
  refine vx_ofWH (cc := cL_ground) (maxL := 5) (ret := (some .int)) (hh := [(0, 10, 13, 13), (0, 10, 17, 15)]) (by decide) rfl ?_
  intro p e s m args below meth c s₁ B hml hv
  obtain ⟨rfl, hsz, hP, hK, hD0, hE⟩ := hv
  have hx := B.exec
  have hb := B.bytes
  have hr := B.returns
  have hts := atoms_spec (ws := vs_k_L_ground) B.pre
  have hown : s.vm.findClass RL = some m.cls := findClass_of_methodNamed B.named
  have hlocks := B.notSynchronized
  have hTab := vx_table (x := yL_walk) B (hts _ List.mem_cons_self)
  subst hsz
  have hD := hD0.self (sz := s.heap.size)
  generalize hAe : va_A [(x0, .inr (15, [.ref x1, .ref x8, .ref x20, .ref x39, .ref x41, .ref x43, .ref x45])), (x1, .inr (11, [.ref x2, .int 0, .ref x3, .int 0, .ref x4, .ref x5, .int 1, .ref x6, .ref x7, .int 0])), (x4, .inl (ty 0, 7, .inl (fun _ => 0))), (x5, .inl (ty 0, 7, .inl (fun _ => 0))), (x8, .inr (8, [.ref x1, .ref x9, .ref x10, .ref x12, .ref x14, .int 0, .ref x15, .ref x16, .ref x17, .int 0, .ref x18, .ref x19, .int 0, .int 0, .int 0, .int 0])), (x20, .inr (14, [.ref x1, .ref x8, .ref x21, .ref x28, .ref x35, .int 0, .ref x36, .ref x37, .ref x38, .int 0, .int 0, .int 0, .int 0, .int 0, .int 0, .int 0, .int 0])), (x45, .inr (5, [.ref x46, .ref x47, .int 0, .int 0])), (o1, .inl (ty 1, 1, .inr (.inl (fun _ => 0))))] s.heap.size = A at hD hE ⊢
  have hA : ∀ q : Nat, s.heap.size ≤ q → A q := fun q h => by rw [← hAe]; exact Or.inr h
  have hS : va_S A s.heap s.heap [] := va_S.rf
  have hP : va_P D vwCl [(x0, .inr (15, [.ref x1, .ref x8, .ref x20, .ref x39, .ref x41, .ref x43, .ref x45])), (x1, .inr (11, [.ref x2, .int 0, .ref x3, .int 0, .ref x4, .ref x5, .int 1, .ref x6, .ref x7, .int 0])), (x4, .inl (ty 0, 7, .inl (fun _ => 0))), (x5, .inl (ty 0, 7, .inl (fun _ => 0))), (x8, .inr (8, [.ref x1, .ref x9, .ref x10, .ref x12, .ref x14, .int 0, .ref x15, .ref x16, .ref x17, .int 0, .ref x18, .ref x19, .int 0, .int 0, .int 0, .int 0])), (x20, .inr (14, [.ref x1, .ref x8, .ref x21, .ref x28, .ref x35, .int 0, .ref x36, .ref x37, .ref x38, .int 0, .int 0, .int 0, .int 0, .int 0, .int 0, .int 0, .int 0])), (x45, .inr (5, [.ref x46, .ref x47, .int 0, .int 0])), (o1, .inl (ty 1, 1, .inr (.inl (fun _ => 0))))] s.heap := hP
  have hl := lv_entry ([.ref x0, .int k1, .int k2, .ref o1]) (n := 5) (Nat.le_of_ble_eq_true rfl)
  rw [lg_entry_eq]
  generalize (lg_sl ([.ref x0, .int k1, .int k2, .ref o1]) ++ List.replicate (5 - (lg_sl ([.ref x0, .int k1, .int k2, .ref o1])).length) Slot.unset).toArray = ls at hl ⊢
  have hl : lv_has ls 5 [(0, .ref x0), (1, .int k1), (2, .int k2), (3, .ref o1)] := hl
  refine lv_aload_n hx hb dL_ground_0 rfl (lv_at hl 3 rfl) ?_
  refine lv_iconst (v := 0) hx hb dL_ground_1 (by decide) ?_
  refine lv_aload_n hx hb dL_ground_2 rfl (lv_at hl 0 rfl) ?_
  refine lv_iload_n hx hb dL_ground_3 rfl (lv_at hl 1 rfl) ?_
  refine lv_iload_n hx hb dL_ground_4 rfl (lv_at hl 2 rfl) ?_
  refine wq_xi (wc := [(x0, .inr (15, [.ref x1, .ref x8, .ref x20, .ref x39, .ref x41, .ref x43, .ref x45])), (x1, .inr (11, [.ref x2, .int 0, .ref x3, .int 0, .ref x4, .ref x5, .int 1, .ref x6, .ref x7, .int 0])), (x4, .inl (ty 0, 7, .inl (fun _ => 0))), (x5, .inl (ty 0, 7, .inl (fun _ => 0))), (x8, .inr (8, [.ref x1, .ref x9, .ref x10, .ref x12, .ref x14, .int 0, .ref x15, .ref x16, .ref x17, .int 0, .ref x18, .ref x19, .int 0, .int 0, .int 0, .int 0])), (x20, .inr (14, [.ref x1, .ref x8, .ref x21, .ref x28, .ref x35, .int 0, .ref x36, .ref x37, .ref x38, .int 0, .int 0, .int 0, .int 0, .int 0, .int 0, .int 0, .int 0])), (x45, .inr (5, [.ref x46, .ref x47, .int 0, .int 0]))]) (wr := [(o1, .inl (ty 1, 1, .inr (.inl (fun _ => 0))))]) (vx_runV (As := [.int k1, .int k2]) (rest := [.int 0, .ref o1]) ⟨hx, hb, hml, hown, hts⟩ (k_X10_ground l hl9 D ty td mi s.heap.size x0 x1 x8 x20 x39 x41 x43 x45 x2 x3 x4 x5 x6 x7 x9 x10 x12 x14 x15 x16 x17 x18 x19 x21 x28 x35 x36 x37 x38 x46 x47 k1 k2) (cwV 2 hts gv_k_L_ground_0 rfl rfl rfl (by decide +kernel) ⟨(Nat.le_of_ble_eq_true rfl), (Nat.le_of_ble_eq_true rfl)⟩) (wq_preV hP hD hK hE hS hA [0, 1, 2, 3, 4, 5, 6] rfl (by decide) 0 15 rfl rfl) rfl rfl hl.1 rfl (lv_room (Nat.le_of_ble_eq_true rfl)) dL_ground_5 ⟨(Nat.le_of_ble_eq_true rfl), (Nat.le_of_ble_eq_true rfl)⟩) hS hA hP hD [0, 1, 2, 3, 4, 5, 6] [7] rfl rfl (by decide) (by decide) (fun E9 u H locs q9 ce hw hP hD hS hce hcv hcl => ?_) (fun r u H locs hw hP hD hS => ?_)
  · rcases hw with ⟨hEq, c_1⟩ | ⟨hEq, c_2, c_3⟩ | ⟨hEq, c_4, c_5, c_6⟩ | ⟨hEq, c_7, c_8, c_9, c_10⟩ | ⟨hEq, c_11, c_12, c_13, c_14, c_15, c_16⟩ | ⟨hEq, c_17, c_18, c_19, c_20, c_21, c_22⟩
    · cases hEq
      have hP : va_P D vwCl [(o1, .inl (ty 1, 1, .inr (.inl (fun _ => 0))))] H := hP
      have hD : va_D A [(o1, .inl (ty 1, 1, .inr (.inl (fun _ => 0))))] := hD
      refine vx_widen (k := 1) (n := 6) (Nat.le_of_ble_eq_true rfl) (Nat.le_of_ble_eq_true rfl) ?_
      refine vx_catch (own := RL) (name := "java/lang/IllegalArgumentException") (E := "java/lang/IllegalArgumentException") hown [] ⟨0, 10, 13, 13⟩ [⟨0, 10, 17, 15⟩] (by rw [hTab]; rfl) (fun z hz => nomatch hz) (by decide) (by decide) (hts (.classLink RL 13 "java/lang/IllegalArgumentException") (by decide +kernel)) (va_Nw.use rfl (hE.ca "java/lang/IllegalArgumentException" "java/lang/IllegalArgumentException" (by decide +kernel))) hce hcv hcl ?_
      refine lv_astore (lv' := [(4, .ref q9), (0, .ref x0), (1, .int k1), (2, .int k2), (3, .ref o1)]) hx hb dL_ground_13 hl (by decide) rfl (fun ls hl => ?_)
      refine lv_iconst (v := 1) hx hb dL_ground_15 (by decide) ?_
      have hP9 := hP.sub (ws' := [(o1, .inl (ty 1, 1, .inr (.inl (fun _ => 0))))]) [0] rfl
      have hD9 := hD.sub (ws' := [(o1, .inl (ty 1, 1, .inr (.inl (fun _ => 0))))]) [0] (by decide) rfl
      refine W.widen (k := 1) (n := 6) (Nat.le_of_ble_eq_true rfl) (Nat.le_of_ble_eq_true rfl) ?_
      refine vx_ret ?_
      exact W.iret (v := 1) hx hb hr (fun t ht hW => ⟨⟨1, [(o1, .inl (ty 1, 1, .inr (.inl (fun _ => 0))))], rfl, (Or.inl ⟨rfl, c_1, rfl⟩), wq_B.of ht hP9 hD9⟩, hS.F ht⟩) hS.2.2 dL_ground_16
    · cases hEq
      have hP : va_P D vwCl [(o1, .inl (ty 1, 1, .inr (.inl (fun _ => 0))))] H := hP
      have hD : va_D A [(o1, .inl (ty 1, 1, .inr (.inl (fun _ => 0))))] := hD
      refine vx_widen (k := 1) (n := 6) (Nat.le_of_ble_eq_true rfl) (Nat.le_of_ble_eq_true rfl) ?_
      refine vx_catch (own := RL) (name := "java/lang/IllegalArgumentException") (E := "java/lang/IllegalArgumentException") hown [] ⟨0, 10, 13, 13⟩ [⟨0, 10, 17, 15⟩] (by rw [hTab]; rfl) (fun z hz => nomatch hz) (by decide) (by decide) (hts (.classLink RL 13 "java/lang/IllegalArgumentException") (by decide +kernel)) (va_Nw.use rfl (hE.ca "java/lang/IllegalArgumentException" "java/lang/IllegalArgumentException" (by decide +kernel))) hce hcv hcl ?_
      refine lv_astore (lv' := [(4, .ref q9), (0, .ref x0), (1, .int k1), (2, .int k2), (3, .ref o1)]) hx hb dL_ground_13 hl (by decide) rfl (fun ls hl => ?_)
      refine lv_iconst (v := 1) hx hb dL_ground_15 (by decide) ?_
      have hP9 := hP.sub (ws' := [(o1, .inl (ty 1, 1, .inr (.inl (fun _ => 0))))]) [0] rfl
      have hD9 := hD.sub (ws' := [(o1, .inl (ty 1, 1, .inr (.inl (fun _ => 0))))]) [0] (by decide) rfl
      refine W.widen (k := 1) (n := 6) (Nat.le_of_ble_eq_true rfl) (Nat.le_of_ble_eq_true rfl) ?_
      refine vx_ret ?_
      exact W.iret (v := 1) hx hb hr (fun t ht hW => ⟨⟨1, [(o1, .inl (ty 1, 1, .inr (.inl (fun _ => 0))))], rfl, (Or.inr (Or.inl ⟨rfl, c_2, c_3, rfl⟩)), wq_B.of ht hP9 hD9⟩, hS.F ht⟩) hS.2.2 dL_ground_16
    · cases hEq
      have hP : va_P D vwCl [(o1, .inl (ty 1, 1, .inr (.inl (fun _ => 0))))] H := hP
      have hD : va_D A [(o1, .inl (ty 1, 1, .inr (.inl (fun _ => 0))))] := hD
      refine vx_widen (k := 1) (n := 6) (Nat.le_of_ble_eq_true rfl) (Nat.le_of_ble_eq_true rfl) ?_
      refine vx_catch (own := RL) (name := "java/lang/IllegalArgumentException") (E := "java/lang/IllegalArgumentException") hown [] ⟨0, 10, 13, 13⟩ [⟨0, 10, 17, 15⟩] (by rw [hTab]; rfl) (fun z hz => nomatch hz) (by decide) (by decide) (hts (.classLink RL 13 "java/lang/IllegalArgumentException") (by decide +kernel)) (va_Nw.use rfl (hE.ca "java/lang/IllegalArgumentException" "java/lang/IllegalArgumentException" (by decide +kernel))) hce hcv hcl ?_
      refine lv_astore (lv' := [(4, .ref q9), (0, .ref x0), (1, .int k1), (2, .int k2), (3, .ref o1)]) hx hb dL_ground_13 hl (by decide) rfl (fun ls hl => ?_)
      refine lv_iconst (v := 1) hx hb dL_ground_15 (by decide) ?_
      have hP9 := hP.sub (ws' := [(o1, .inl (ty 1, 1, .inr (.inl (fun _ => 0))))]) [0] rfl
      have hD9 := hD.sub (ws' := [(o1, .inl (ty 1, 1, .inr (.inl (fun _ => 0))))]) [0] (by decide) rfl
      refine W.widen (k := 1) (n := 6) (Nat.le_of_ble_eq_true rfl) (Nat.le_of_ble_eq_true rfl) ?_
      refine vx_ret ?_
      exact W.iret (v := 1) hx hb hr (fun t ht hW => ⟨⟨1, [(o1, .inl (ty 1, 1, .inr (.inl (fun _ => 0))))], rfl, (Or.inr (Or.inr (Or.inl ⟨rfl, c_4, c_5, c_6, rfl⟩))), wq_B.of ht hP9 hD9⟩, hS.F ht⟩) hS.2.2 dL_ground_16
    · cases hEq
      have hP : va_P D vwCl [(o1, .inl (ty 1, 1, .inr (.inl (fun _ => 0))))] H := hP
      have hD : va_D A [(o1, .inl (ty 1, 1, .inr (.inl (fun _ => 0))))] := hD
      refine vx_widen (k := 1) (n := 6) (Nat.le_of_ble_eq_true rfl) (Nat.le_of_ble_eq_true rfl) ?_
      refine vx_catch (own := RL) (name := "java/lang/IllegalArgumentException") (E := "java/lang/IllegalArgumentException") hown [] ⟨0, 10, 13, 13⟩ [⟨0, 10, 17, 15⟩] (by rw [hTab]; rfl) (fun z hz => nomatch hz) (by decide) (by decide) (hts (.classLink RL 13 "java/lang/IllegalArgumentException") (by decide +kernel)) (va_Nw.use rfl (hE.ca "java/lang/IllegalArgumentException" "java/lang/IllegalArgumentException" (by decide +kernel))) hce hcv hcl ?_
      refine lv_astore (lv' := [(4, .ref q9), (0, .ref x0), (1, .int k1), (2, .int k2), (3, .ref o1)]) hx hb dL_ground_13 hl (by decide) rfl (fun ls hl => ?_)
      refine lv_iconst (v := 1) hx hb dL_ground_15 (by decide) ?_
      have hP9 := hP.sub (ws' := [(o1, .inl (ty 1, 1, .inr (.inl (fun _ => 0))))]) [0] rfl
      have hD9 := hD.sub (ws' := [(o1, .inl (ty 1, 1, .inr (.inl (fun _ => 0))))]) [0] (by decide) rfl
      refine W.widen (k := 1) (n := 6) (Nat.le_of_ble_eq_true rfl) (Nat.le_of_ble_eq_true rfl) ?_
      refine vx_ret ?_
      exact W.iret (v := 1) hx hb hr (fun t ht hW => ⟨⟨1, [(o1, .inl (ty 1, 1, .inr (.inl (fun _ => 0))))], rfl, (Or.inr (Or.inr (Or.inr (Or.inl ⟨rfl, c_7, c_8, c_9, c_10, rfl⟩)))), wq_B.of ht hP9 hD9⟩, hS.F ht⟩) hS.2.2 dL_ground_16
    · cases hEq
      have hP : va_P D vwCl [(o1, .inl (ty 1, 1, .inr (.inl (fun _ => 0))))] H := hP
      have hD : va_D A [(o1, .inl (ty 1, 1, .inr (.inl (fun _ => 0))))] := hD
      refine vx_widen (k := 1) (n := 6) (Nat.le_of_ble_eq_true rfl) (Nat.le_of_ble_eq_true rfl) ?_
      refine vx_catch (own := RL) (name := "java/lang/IllegalStateException") (E := "java/lang/IllegalStateException") hown [⟨0, 10, 13, 13⟩] ⟨0, 10, 17, 15⟩ [] (by rw [hTab]; rfl) (by
          intro z hz
          rcases List.mem_cons.mp hz with rfl | hz
          · exact Or.inr ⟨by decide, "java/lang/IllegalArgumentException", (hts (.classLink RL 13 "java/lang/IllegalArgumentException") (by decide +kernel)), hE.nc "java/lang/IllegalStateException" "java/lang/IllegalArgumentException" (by decide +kernel)⟩
          cases hz) (by decide) (by decide) (hts (.classLink RL 15 "java/lang/IllegalStateException") (by decide +kernel)) (va_Nw.use rfl (hE.ca "java/lang/IllegalStateException" "java/lang/IllegalStateException" (by decide +kernel))) hce hcv hcl ?_
      refine lv_astore (lv' := [(4, .ref q9), (0, .ref x0), (1, .int k1), (2, .int k2), (3, .ref o1)]) hx hb dL_ground_17 hl (by decide) rfl (fun ls hl => ?_)
      refine lv_iconst (v := 2) hx hb dL_ground_19 (by decide) ?_
      have hP9 := hP.sub (ws' := [(o1, .inl (ty 1, 1, .inr (.inl (fun _ => 0))))]) [0] rfl
      have hD9 := hD.sub (ws' := [(o1, .inl (ty 1, 1, .inr (.inl (fun _ => 0))))]) [0] (by decide) rfl
      refine W.widen (k := 1) (n := 6) (Nat.le_of_ble_eq_true rfl) (Nat.le_of_ble_eq_true rfl) ?_
      refine vx_ret ?_
      exact W.iret (v := 2) hx hb hr (fun t ht hW => ⟨⟨2, [(o1, .inl (ty 1, 1, .inr (.inl (fun _ => 0))))], rfl, (Or.inr (Or.inr (Or.inr (Or.inr (Or.inl ⟨rfl, c_11, c_12, c_13, c_14, c_15, c_16, rfl⟩))))), wq_B.of ht hP9 hD9⟩, hS.F ht⟩) hS.2.2 dL_ground_20
    · cases hEq
      have hP : va_P D vwCl [(o1, .inl (ty 1, 1, .inr (.inl (fun _ => 0))))] H := hP
      have hD : va_D A [(o1, .inl (ty 1, 1, .inr (.inl (fun _ => 0))))] := hD
      refine vx_widen (k := 1) (n := 6) (Nat.le_of_ble_eq_true rfl) (Nat.le_of_ble_eq_true rfl) ?_
      refine vx_catch (own := RL) (name := "java/lang/IllegalStateException") (E := "java/lang/IllegalStateException") hown [⟨0, 10, 13, 13⟩] ⟨0, 10, 17, 15⟩ [] (by rw [hTab]; rfl) (by
          intro z hz
          rcases List.mem_cons.mp hz with rfl | hz
          · exact Or.inr ⟨by decide, "java/lang/IllegalArgumentException", (hts (.classLink RL 13 "java/lang/IllegalArgumentException") (by decide +kernel)), hE.nc "java/lang/IllegalStateException" "java/lang/IllegalArgumentException" (by decide +kernel)⟩
          cases hz) (by decide) (by decide) (hts (.classLink RL 15 "java/lang/IllegalStateException") (by decide +kernel)) (va_Nw.use rfl (hE.ca "java/lang/IllegalStateException" "java/lang/IllegalStateException" (by decide +kernel))) hce hcv hcl ?_
      refine lv_astore (lv' := [(4, .ref q9), (0, .ref x0), (1, .int k1), (2, .int k2), (3, .ref o1)]) hx hb dL_ground_17 hl (by decide) rfl (fun ls hl => ?_)
      refine lv_iconst (v := 2) hx hb dL_ground_19 (by decide) ?_
      have hP9 := hP.sub (ws' := [(o1, .inl (ty 1, 1, .inr (.inl (fun _ => 0))))]) [0] rfl
      have hD9 := hD.sub (ws' := [(o1, .inl (ty 1, 1, .inr (.inl (fun _ => 0))))]) [0] (by decide) rfl
      refine W.widen (k := 1) (n := 6) (Nat.le_of_ble_eq_true rfl) (Nat.le_of_ble_eq_true rfl) ?_
      refine vx_ret ?_
      exact W.iret (v := 2) hx hb hr (fun t ht hW => ⟨⟨2, [(o1, .inl (ty 1, 1, .inr (.inl (fun _ => 0))))], rfl, (Or.inr (Or.inr (Or.inr (Or.inr (Or.inr (Or.inl ⟨rfl, c_17, c_18, c_19, c_20, c_21, c_22, rfl⟩)))))), wq_B.of ht hP9 hD9⟩, hS.F ht⟩) hS.2.2 dL_ground_20
  · rcases hw with ⟨rfl, c_23, c_24, c_25, c_26, c_27, c_28, rfl⟩ | ⟨rfl, c_29, c_30, c_31, c_32, c_33, c_34, rfl⟩
    · have hP : va_P D vwCl [(o1, .inl (ty 1, 1, .inr (.inl (fun _ => 0))))] H := hP
      have hD : va_D A [(o1, .inl (ty 1, 1, .inr (.inl (fun _ => 0))))] := hD
      refine W.widen (k := 1) (n := 6) (Nat.le_of_ble_eq_true rfl) (Nat.le_of_ble_eq_true rfl) ?_
      refine lv_i2l (v := 1) hx hb dL_ground_8 (by decide) ?_
      refine va_last (D := D) hx hb hK hP hD hS 0 1 rfl rfl (vp_in_iff.mpr (by decide)) dL_ground_9 (fun H locs hP hD hS => ?_)
      have hP : va_P D vwCl [(o1, .inl (ty 1, 1, .inr (.inl (vp_updL (fun _ => 0) (0 : Int32).toNatClampNeg 1))))] H := hP
      have hD : va_D A [(o1, .inl (ty 1, 1, .inr (.inl (vp_updL (fun _ => 0) (0 : Int32).toNatClampNeg 1))))] := hD
      refine lv_goto (tgt := 21) hx hb dL_ground_10 (by decide) ?_
      refine lv_iconst (v := 0) hx hb dL_ground_21 (by decide) ?_
      have hP9 := hP.sub (ws' := [(o1, .inl (ty 1, 1, .inr (.inl (vp_updL (fun _ => 0) (0 : Int32).toNatClampNeg 1))))]) [0] rfl
      have hD9 := hD.sub (ws' := [(o1, .inl (ty 1, 1, .inr (.inl (vp_updL (fun _ => 0) (0 : Int32).toNatClampNeg 1))))]) [0] (by decide) rfl
      refine W.widen (k := 1) (n := 6) (Nat.le_of_ble_eq_true rfl) (Nat.le_of_ble_eq_true rfl) ?_
      refine vx_ret ?_
      exact W.iret (v := 0) hx hb hr (fun t ht hW => ⟨⟨0, [(o1, .inl (ty 1, 1, .inr (.inl (vp_updL (fun _ => 0) (0 : Int32).toNatClampNeg 1))))], rfl, (Or.inr (Or.inr (Or.inr (Or.inr (Or.inr (Or.inr (Or.inl ⟨rfl, c_23, c_24, c_25, c_26, c_27, c_28, rfl⟩))))))), wq_B.of ht hP9 hD9⟩, hS.F ht⟩) hS.2.2 dL_ground_22
    · have hP : va_P D vwCl [(o1, .inl (ty 1, 1, .inr (.inl (fun _ => 0))))] H := hP
      have hD : va_D A [(o1, .inl (ty 1, 1, .inr (.inl (fun _ => 0))))] := hD
      refine W.widen (k := 1) (n := 6) (Nat.le_of_ble_eq_true rfl) (Nat.le_of_ble_eq_true rfl) ?_
      refine lv_i2l (v := 1) hx hb dL_ground_8 (by decide) ?_
      refine va_last (D := D) hx hb hK hP hD hS 0 1 rfl rfl (vp_in_iff.mpr (by decide)) dL_ground_9 (fun H locs hP hD hS => ?_)
      have hP : va_P D vwCl [(o1, .inl (ty 1, 1, .inr (.inl (vp_updL (fun _ => 0) (0 : Int32).toNatClampNeg 1))))] H := hP
      have hD : va_D A [(o1, .inl (ty 1, 1, .inr (.inl (vp_updL (fun _ => 0) (0 : Int32).toNatClampNeg 1))))] := hD
      refine lv_goto (tgt := 21) hx hb dL_ground_10 (by decide) ?_
      refine lv_iconst (v := 0) hx hb dL_ground_21 (by decide) ?_
      have hP9 := hP.sub (ws' := [(o1, .inl (ty 1, 1, .inr (.inl (vp_updL (fun _ => 0) (0 : Int32).toNatClampNeg 1))))]) [0] rfl
      have hD9 := hD.sub (ws' := [(o1, .inl (ty 1, 1, .inr (.inl (vp_updL (fun _ => 0) (0 : Int32).toNatClampNeg 1))))]) [0] (by decide) rfl
      refine W.widen (k := 1) (n := 6) (Nat.le_of_ble_eq_true rfl) (Nat.le_of_ble_eq_true rfl) ?_
      refine vx_ret ?_
      exact W.iret (v := 0) hx hb hr (fun t ht hW => ⟨⟨0, [(o1, .inl (ty 1, 1, .inr (.inl (vp_updL (fun _ => 0) (0 : Int32).toNatClampNeg 1))))], rfl, (Or.inr (Or.inr (Or.inr (Or.inr (Or.inr (Or.inr (Or.inr ⟨rfl, c_29, c_30, c_31, c_32, c_33, c_34, rfl⟩))))))), wq_B.of ht hP9 hD9⟩, hS.F ht⟩) hS.2.2 dL_ground_22
