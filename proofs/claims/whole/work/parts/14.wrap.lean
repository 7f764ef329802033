set_option maxRecDepth 20000 in
theorem ggL_addPredicate_X10_addPredicate : GoodIn wsL_addPredicate wsX10_addPredicate := goodIn_ca (goodIn_ca (goodIn_ca (goodIn_r _ [6, 7, 8, 9, 10, 11, 12, 13, 14, 5, 15, 16, 17, 18, 19, 20, 21, 22, 23, 24, 25, 26, 27, 28, 29, 30, 31, 32, 33, 34, 35, 36, 37, 38, 39, 40, 41, 42, 43, 44, 45, 46, 47, 48, 49, 50, 51, 52, 53, 54, 55, 56, 57, 58, 59, 60, 61, 62, 63, 64, 65, 66, 67, 68, 69, 70, 71, 72, 73, 74, 75, 76, 77, 78, 79] (by decide +kernel) (by decide +kernel)) (goodIn_sub (fun _ h => List.mem_cons_of_mem _ (List.mem_append_left _ (List.mem_append_right _ h))) (by decide +kernel))) (goodIn_sub (fun _ h => List.mem_cons_of_mem _ (List.mem_append_right _ h)) (by decide +kernel))) (goodIn_sub (fun _ h => List.mem_cons_of_mem _ (List.mem_append_left _ (List.mem_append_left _ (List.mem_append_right _ h)))) (by decide +kernel))
set_option maxRecDepth 20000 in
theorem gL_addPredicate_X10_addPredicate : GoodIn wsL_addPredicate (wsV RL 7 RX10 yX10_addPredicate wsX10_addPredicate) := goodIn_app (goodIn_of _ (by decide +kernel)) ggL_addPredicate_X10_addPredicate
theorem dL_addPredicate_0 : decode cL_addPredicate 0 = .ok (.aload_n 2, 1) := by decide +kernel
theorem dL_addPredicate_1 : decode cL_addPredicate 1 = .ok (.iconst 0, 1) := by decide +kernel
theorem dL_addPredicate_2 : decode cL_addPredicate 2 = .ok (.aload_n 0, 1) := by decide +kernel
theorem dL_addPredicate_3 : decode cL_addPredicate 3 = .ok (.iload_n 1, 1) := by decide +kernel
theorem dL_addPredicate_4 : decode cL_addPredicate 4 = .ok (.invokevirtual 7, 3) := by decide +kernel
theorem dL_addPredicate_7 : decode cL_addPredicate 7 = .ok (.i2l, 1) := by decide +kernel
theorem dL_addPredicate_8 : decode cL_addPredicate 8 = .ok (.lastore, 1) := by decide +kernel
theorem dL_addPredicate_9 : decode cL_addPredicate 9 = .ok (.goto 9, 3) := by decide +kernel
theorem dL_addPredicate_12 : decode cL_addPredicate 12 = .ok (.astore_n 3, 1) := by decide +kernel
theorem dL_addPredicate_13 : decode cL_addPredicate 13 = .ok (.iconst 1, 1) := by decide +kernel
theorem dL_addPredicate_14 : decode cL_addPredicate 14 = .ok (.ireturn, 1) := by decide +kernel
theorem dL_addPredicate_15 : decode cL_addPredicate 15 = .ok (.astore_n 3, 1) := by decide +kernel
theorem dL_addPredicate_16 : decode cL_addPredicate 16 = .ok (.iconst 2, 1) := by decide +kernel
theorem dL_addPredicate_17 : decode cL_addPredicate 17 = .ok (.ireturn, 1) := by decide +kernel
theorem dL_addPredicate_18 : decode cL_addPredicate 18 = .ok (.iconst 0, 1) := by decide +kernel
theorem dL_addPredicate_19 : decode cL_addPredicate 19 = .ok (.ireturn, 1) := by decide +kernel
set_option maxRecDepth 20000 in
theorem ggL_addDisjunction_X10_addDisjunction : GoodIn wsL_addDisjunction wsX10_addDisjunction := goodIn_ca (goodIn_ca (goodIn_r _ [6, 7, 8, 9, 10, 11, 12, 13, 5, 14, 15, 16, 17, 18, 19, 20, 21, 22, 23, 24, 25, 26, 27, 28, 29, 30, 31, 32, 33, 34, 35, 36, 37, 38, 39, 40, 41, 42, 43, 44, 45, 46, 47, 48, 49, 50, 51, 52, 53, 54, 55, 56, 57, 58, 59, 60, 61, 62, 63, 64, 65, 66, 67, 68, 69, 70, 71, 72, 73, 74, 75, 76, 77, 78, 79, 80, 81, 82, 83, 84, 85, 86, 87, 88, 89, 90, 91, 92, 93, 94, 95, 96, 97, 98, 99, 100, 101, 102, 103, 104, 105, 106, 107, 108, 109, 110, 111, 112, 113] (by decide +kernel) (by decide +kernel)) (goodIn_sub (fun _ h => List.mem_cons_of_mem _ (List.mem_append_left _ (List.mem_append_right _ h))) (by decide +kernel))) (goodIn_sub (fun _ h => List.mem_cons_of_mem _ (List.mem_append_right _ h)) (by decide +kernel))
set_option maxRecDepth 20000 in
theorem gL_addDisjunction_X10_addDisjunction : GoodIn wsL_addDisjunction (wsV RL 17 RX10 yX10_addDisjunction wsX10_addDisjunction) := goodIn_app (goodIn_of _ (by decide +kernel)) ggL_addDisjunction_X10_addDisjunction
theorem dL_addDisjunction_0 : decode cL_addDisjunction 0 = .ok (.aload_n 2, 1) := by decide +kernel
theorem dL_addDisjunction_1 : decode cL_addDisjunction 1 = .ok (.iconst 0, 1) := by decide +kernel
theorem dL_addDisjunction_2 : decode cL_addDisjunction 2 = .ok (.aload_n 0, 1) := by decide +kernel
theorem dL_addDisjunction_3 : decode cL_addDisjunction 3 = .ok (.iload_n 1, 1) := by decide +kernel
theorem dL_addDisjunction_4 : decode cL_addDisjunction 4 = .ok (.invokevirtual 17, 3) := by decide +kernel
theorem dL_addDisjunction_7 : decode cL_addDisjunction 7 = .ok (.i2l, 1) := by decide +kernel
theorem dL_addDisjunction_8 : decode cL_addDisjunction 8 = .ok (.lastore, 1) := by decide +kernel
theorem dL_addDisjunction_9 : decode cL_addDisjunction 9 = .ok (.goto 9, 3) := by decide +kernel
theorem dL_addDisjunction_12 : decode cL_addDisjunction 12 = .ok (.astore_n 3, 1) := by decide +kernel
theorem dL_addDisjunction_13 : decode cL_addDisjunction 13 = .ok (.iconst 1, 1) := by decide +kernel
theorem dL_addDisjunction_14 : decode cL_addDisjunction 14 = .ok (.ireturn, 1) := by decide +kernel
theorem dL_addDisjunction_15 : decode cL_addDisjunction 15 = .ok (.astore_n 3, 1) := by decide +kernel
theorem dL_addDisjunction_16 : decode cL_addDisjunction 16 = .ok (.iconst 2, 1) := by decide +kernel
theorem dL_addDisjunction_17 : decode cL_addDisjunction 17 = .ok (.ireturn, 1) := by decide +kernel
theorem dL_addDisjunction_18 : decode cL_addDisjunction 18 = .ok (.iconst 0, 1) := by decide +kernel
theorem dL_addDisjunction_19 : decode cL_addDisjunction 19 = .ok (.ireturn, 1) := by decide +kernel
set_option maxRecDepth 20000 in
theorem ggL_addChoice_X10_addChoice : GoodIn wsL_addChoice wsX10_addChoice := goodIn_ca (goodIn_ca (goodIn_ca (goodIn_r _ [6, 7, 8, 9, 10, 11, 12, 13, 14, 15, 5, 16, 17, 18, 19, 20, 21, 22, 23, 24, 25, 26, 27, 28, 29, 30, 31, 32, 33, 34, 35, 36, 37, 38, 39, 40, 41, 42, 43, 44, 45, 46, 47, 48, 49, 50, 51, 52, 53, 54, 55, 56, 57, 58, 59, 60, 61, 62, 63, 64, 65, 66, 67, 68, 69, 70, 71, 72, 73, 74, 75, 76, 77, 78, 79, 80, 81, 82, 83, 84, 85, 86, 87, 88, 89, 90, 91, 92, 93, 94, 95, 96, 97, 98, 99, 100, 101, 102, 103, 104, 105, 106, 107, 108, 109, 110, 111, 112, 113, 114, 115, 116, 117, 118, 119, 120, 121, 122, 123] (by decide +kernel) (by decide +kernel)) (goodIn_sub (fun _ h => List.mem_cons_of_mem _ (List.mem_append_left _ (List.mem_append_right _ h))) (by decide +kernel))) (goodIn_sub (fun _ h => List.mem_cons_of_mem _ (List.mem_append_left _ (List.mem_append_left _ (List.mem_append_right _ h)))) (by decide +kernel))) (goodIn_sub (fun _ h => List.mem_cons_of_mem _ (List.mem_append_right _ h)) (by decide +kernel))
set_option maxRecDepth 20000 in
theorem gL_addChoice_X10_addChoice : GoodIn wsL_addChoice (wsV RL 20 RX10 yX10_addChoice wsX10_addChoice) := goodIn_app (goodIn_of _ (by decide +kernel)) ggL_addChoice_X10_addChoice
theorem dL_addChoice_0 : decode cL_addChoice 0 = .ok (.aload 5, 2) := by decide +kernel
theorem dL_addChoice_2 : decode cL_addChoice 2 = .ok (.iconst 0, 1) := by decide +kernel
theorem dL_addChoice_3 : decode cL_addChoice 3 = .ok (.aload_n 0, 1) := by decide +kernel
theorem dL_addChoice_4 : decode cL_addChoice 4 = .ok (.iload_n 1, 1) := by decide +kernel
theorem dL_addChoice_5 : decode cL_addChoice 5 = .ok (.iload_n 2, 1) := by decide +kernel
theorem dL_addChoice_6 : decode cL_addChoice 6 = .ok (.iload_n 3, 1) := by decide +kernel
theorem dL_addChoice_7 : decode cL_addChoice 7 = .ok (.iload 4, 2) := by decide +kernel
theorem dL_addChoice_9 : decode cL_addChoice 9 = .ok (.invokevirtual 20, 3) := by decide +kernel
theorem dL_addChoice_12 : decode cL_addChoice 12 = .ok (.i2l, 1) := by decide +kernel
theorem dL_addChoice_13 : decode cL_addChoice 13 = .ok (.lastore, 1) := by decide +kernel
theorem dL_addChoice_14 : decode cL_addChoice 14 = .ok (.goto 11, 3) := by decide +kernel
theorem dL_addChoice_17 : decode cL_addChoice 17 = .ok (.astore 6, 2) := by decide +kernel
theorem dL_addChoice_19 : decode cL_addChoice 19 = .ok (.iconst 1, 1) := by decide +kernel
theorem dL_addChoice_20 : decode cL_addChoice 20 = .ok (.ireturn, 1) := by decide +kernel
theorem dL_addChoice_21 : decode cL_addChoice 21 = .ok (.astore 6, 2) := by decide +kernel
theorem dL_addChoice_23 : decode cL_addChoice 23 = .ok (.iconst 2, 1) := by decide +kernel
theorem dL_addChoice_24 : decode cL_addChoice 24 = .ok (.ireturn, 1) := by decide +kernel
theorem dL_addChoice_25 : decode cL_addChoice 25 = .ok (.iconst 0, 1) := by decide +kernel
theorem dL_addChoice_26 : decode cL_addChoice 26 = .ok (.ireturn, 1) := by decide +kernel
set_option maxRecDepth 20000 in
theorem ggL_addWeak_X10_addWeak : GoodIn wsL_addWeak wsX10_addWeak := goodIn_ca (goodIn_ca (goodIn_r _ [6, 7, 8, 9, 10, 11, 12, 13, 14, 15, 5, 16, 17, 18, 19, 20, 21, 22, 23, 24, 25, 26, 27, 28, 29, 30, 31, 32, 33, 34, 35, 36, 37, 38, 39, 40, 41, 42, 43, 44, 45, 46, 47, 48, 49, 50, 51, 52, 53, 54, 55, 56, 57, 58, 59, 60, 61, 62, 63, 64, 65, 66, 67, 68, 69, 70, 71, 72, 73, 74, 75, 76, 77, 78, 79, 80, 81, 82, 83, 84, 85, 86, 87, 88, 89, 90, 91, 92, 93, 94, 95, 96, 97, 98, 99, 100, 101, 102, 103, 104, 105, 106, 107, 108, 109, 110, 111, 112, 113, 114, 115, 116, 117] (by decide +kernel) (by decide +kernel)) (goodIn_sub (fun _ h => List.mem_cons_of_mem _ (List.mem_append_left _ (List.mem_append_right _ h))) (by decide +kernel))) (goodIn_sub (fun _ h => List.mem_cons_of_mem _ (List.mem_append_right _ h)) (by decide +kernel))
set_option maxRecDepth 20000 in
theorem gL_addWeak_X10_addWeak : GoodIn wsL_addWeak (wsV RL 24 RX10 yX10_addWeak wsX10_addWeak) := goodIn_app (goodIn_of _ (by decide +kernel)) ggL_addWeak_X10_addWeak
theorem dL_addWeak_0 : decode cL_addWeak 0 = .ok (.aload 4, 2) := by decide +kernel
theorem dL_addWeak_2 : decode cL_addWeak 2 = .ok (.iconst 0, 1) := by decide +kernel
theorem dL_addWeak_3 : decode cL_addWeak 3 = .ok (.aload_n 0, 1) := by decide +kernel
theorem dL_addWeak_4 : decode cL_addWeak 4 = .ok (.iload_n 1, 1) := by decide +kernel
theorem dL_addWeak_5 : decode cL_addWeak 5 = .ok (.iload_n 2, 1) := by decide +kernel
theorem dL_addWeak_6 : decode cL_addWeak 6 = .ok (.iload_n 3, 1) := by decide +kernel
theorem dL_addWeak_7 : decode cL_addWeak 7 = .ok (.invokevirtual 24, 3) := by decide +kernel
theorem dL_addWeak_10 : decode cL_addWeak 10 = .ok (.i2l, 1) := by decide +kernel
theorem dL_addWeak_11 : decode cL_addWeak 11 = .ok (.lastore, 1) := by decide +kernel
theorem dL_addWeak_12 : decode cL_addWeak 12 = .ok (.goto 11, 3) := by decide +kernel
theorem dL_addWeak_15 : decode cL_addWeak 15 = .ok (.astore 5, 2) := by decide +kernel
theorem dL_addWeak_17 : decode cL_addWeak 17 = .ok (.iconst 1, 1) := by decide +kernel
theorem dL_addWeak_18 : decode cL_addWeak 18 = .ok (.ireturn, 1) := by decide +kernel
theorem dL_addWeak_19 : decode cL_addWeak 19 = .ok (.astore 5, 2) := by decide +kernel
theorem dL_addWeak_21 : decode cL_addWeak 21 = .ok (.iconst 2, 1) := by decide +kernel
theorem dL_addWeak_22 : decode cL_addWeak 22 = .ok (.ireturn, 1) := by decide +kernel
theorem dL_addWeak_23 : decode cL_addWeak 23 = .ok (.iconst 0, 1) := by decide +kernel
theorem dL_addWeak_24 : decode cL_addWeak 24 = .ok (.ireturn, 1) := by decide +kernel
set_option maxRecDepth 20000 in
theorem ggL_addHead_X10_addHead : GoodIn wsL_addHead wsX10_addHead := goodIn_ca (goodIn_ca (goodIn_ca (goodIn_ca (goodIn_r _ [6, 7, 8, 9, 10, 11, 12, 13, 14, 15, 16, 17, 18, 19, 20, 21, 22, 23, 24, 25, 26, 27, 28, 29, 30, 31, 32, 33, 5, 34, 35, 36, 37, 38, 39, 40, 41, 42, 43, 44, 45, 46, 47, 48, 49, 50, 51, 52, 53, 54, 55, 56, 57, 58, 59, 60, 61, 62, 63, 64, 65, 66, 67, 68, 69, 70, 71, 72, 73, 74, 75, 76, 77, 78, 79, 80, 81, 82, 83, 84, 85, 86, 87, 88, 89, 90, 91, 92, 93, 94, 95, 96, 97, 98, 99, 100, 101, 102, 103, 104, 105, 106, 107, 108, 109, 110, 111, 112, 113, 114, 115, 116, 117, 118, 119, 120, 121, 122, 123, 124, 125, 126, 127, 128, 129, 130, 131, 132, 133, 134, 135, 136, 137, 138, 139, 140, 141, 142, 143, 144, 145, 146, 147, 148, 149, 150, 151, 152, 153, 154] (by decide +kernel) (by decide +kernel)) (goodIn_sub (fun _ h => List.mem_cons_of_mem _ (List.mem_append_left _ (List.mem_append_left _ (List.mem_append_right _ h)))) (by decide +kernel))) (goodIn_sub (fun _ h => List.mem_cons_of_mem _ (List.mem_append_left _ (List.mem_append_right _ h))) (by decide +kernel))) (goodIn_sub (fun _ h => List.mem_cons_of_mem _ (List.mem_append_right _ h)) (by decide +kernel))) (goodIn_sub (fun _ h => List.mem_cons_of_mem _ (List.mem_append_left _ (List.mem_append_left _ (List.mem_append_left _ (List.mem_append_right _ h))))) (by decide +kernel))
set_option maxRecDepth 20000 in
theorem gL_addHead_X10_addHead : GoodIn wsL_addHead (wsV RL 28 RX10 yX10_addHead wsX10_addHead) := goodIn_app (goodIn_of _ (by decide +kernel)) ggL_addHead_X10_addHead
theorem dL_addHead_0 : decode cL_addHead 0 = .ok (.aload 5, 2) := by decide +kernel
theorem dL_addHead_2 : decode cL_addHead 2 = .ok (.iconst 0, 1) := by decide +kernel
theorem dL_addHead_3 : decode cL_addHead 3 = .ok (.aload_n 0, 1) := by decide +kernel
theorem dL_addHead_4 : decode cL_addHead 4 = .ok (.iload_n 1, 1) := by decide +kernel
theorem dL_addHead_5 : decode cL_addHead 5 = .ok (.iload_n 2, 1) := by decide +kernel
theorem dL_addHead_6 : decode cL_addHead 6 = .ok (.iload_n 3, 1) := by decide +kernel
theorem dL_addHead_7 : decode cL_addHead 7 = .ok (.iload 4, 2) := by decide +kernel
theorem dL_addHead_9 : decode cL_addHead 9 = .ok (.invokevirtual 28, 3) := by decide +kernel
theorem dL_addHead_12 : decode cL_addHead 12 = .ok (.i2l, 1) := by decide +kernel
theorem dL_addHead_13 : decode cL_addHead 13 = .ok (.lastore, 1) := by decide +kernel
theorem dL_addHead_14 : decode cL_addHead 14 = .ok (.goto 15, 3) := by decide +kernel
theorem dL_addHead_17 : decode cL_addHead 17 = .ok (.astore 6, 2) := by decide +kernel
theorem dL_addHead_19 : decode cL_addHead 19 = .ok (.iconst 1, 1) := by decide +kernel
theorem dL_addHead_20 : decode cL_addHead 20 = .ok (.ireturn, 1) := by decide +kernel
theorem dL_addHead_21 : decode cL_addHead 21 = .ok (.astore 6, 2) := by decide +kernel
theorem dL_addHead_23 : decode cL_addHead 23 = .ok (.iconst 2, 1) := by decide +kernel
theorem dL_addHead_24 : decode cL_addHead 24 = .ok (.ireturn, 1) := by decide +kernel
theorem dL_addHead_25 : decode cL_addHead 25 = .ok (.astore 6, 2) := by decide +kernel
theorem dL_addHead_27 : decode cL_addHead 27 = .ok (.iconst 3, 1) := by decide +kernel
theorem dL_addHead_28 : decode cL_addHead 28 = .ok (.ireturn, 1) := by decide +kernel
theorem dL_addHead_29 : decode cL_addHead 29 = .ok (.iconst 0, 1) := by decide +kernel
theorem dL_addHead_30 : decode cL_addHead 30 = .ok (.ireturn, 1) := by decide +kernel
set_option maxRecDepth 20000 in
theorem ggL_addAtom_X10_addAtom : GoodIn wsL_addAtom wsX10_addAtom := goodIn_ca (goodIn_ca (goodIn_ca (goodIn_ca (goodIn_r _ [6, 7, 8, 9, 10, 11, 12, 13, 14, 15, 16, 17, 18, 19, 20, 21, 22, 23, 24, 25, 26, 27, 28, 29, 30, 31, 5, 32, 33, 34, 35, 36, 37, 38, 39, 40, 41, 42, 43, 44, 45, 46, 47, 48, 49, 50, 51, 52, 53, 54, 55, 56, 57, 58, 59, 60, 61, 62, 63, 64, 65, 66, 67, 68, 69, 70, 71, 72, 73, 74, 75, 76, 77, 78, 79, 80, 81, 82, 83, 84, 85, 86, 87, 88, 89, 90, 91, 92, 93, 94, 95, 96, 97, 98, 99, 100, 101, 102, 103, 104, 105, 106, 107, 108, 109, 110, 111, 112, 113, 114, 115, 116, 117, 118, 119, 120, 121, 122, 123, 124, 125, 126, 127, 128, 129, 130, 131, 132, 133, 134, 135, 136, 137, 138, 139, 140, 141, 142, 143, 144, 145, 146, 147, 148, 149, 150, 151, 152, 153, 154, 155, 156, 157, 158, 159, 160, 161, 162, 163, 164, 165, 166] (by decide +kernel) (by decide +kernel)) (goodIn_sub (fun _ h => List.mem_cons_of_mem _ (List.mem_append_left _ (List.mem_append_left _ (List.mem_append_right _ h)))) (by decide +kernel))) (goodIn_sub (fun _ h => List.mem_cons_of_mem _ (List.mem_append_left _ (List.mem_append_right _ h))) (by decide +kernel))) (goodIn_sub (fun _ h => List.mem_cons_of_mem _ (List.mem_append_left _ (List.mem_append_left _ (List.mem_append_left _ (List.mem_append_right _ h))))) (by decide +kernel))) (goodIn_sub (fun _ h => List.mem_cons_of_mem _ (List.mem_append_right _ h)) (by decide +kernel))
set_option maxRecDepth 20000 in
theorem gL_addAtom_X10_addAtom : GoodIn wsL_addAtom (wsV RL 33 RX10 yX10_addAtom wsX10_addAtom) := goodIn_app (goodIn_of _ (by decide +kernel)) ggL_addAtom_X10_addAtom
theorem dL_addAtom_0 : decode cL_addAtom 0 = .ok (.aload 6, 2) := by decide +kernel
theorem dL_addAtom_2 : decode cL_addAtom 2 = .ok (.iconst 0, 1) := by decide +kernel
theorem dL_addAtom_3 : decode cL_addAtom 3 = .ok (.aload_n 0, 1) := by decide +kernel
theorem dL_addAtom_4 : decode cL_addAtom 4 = .ok (.iload_n 1, 1) := by decide +kernel
theorem dL_addAtom_5 : decode cL_addAtom 5 = .ok (.iload_n 2, 1) := by decide +kernel
theorem dL_addAtom_6 : decode cL_addAtom 6 = .ok (.iload_n 3, 1) := by decide +kernel
theorem dL_addAtom_7 : decode cL_addAtom 7 = .ok (.iload 4, 2) := by decide +kernel
theorem dL_addAtom_9 : decode cL_addAtom 9 = .ok (.iload 5, 2) := by decide +kernel
theorem dL_addAtom_11 : decode cL_addAtom 11 = .ok (.invokevirtual 33, 3) := by decide +kernel
theorem dL_addAtom_14 : decode cL_addAtom 14 = .ok (.i2l, 1) := by decide +kernel
theorem dL_addAtom_15 : decode cL_addAtom 15 = .ok (.lastore, 1) := by decide +kernel
theorem dL_addAtom_16 : decode cL_addAtom 16 = .ok (.goto 15, 3) := by decide +kernel
theorem dL_addAtom_19 : decode cL_addAtom 19 = .ok (.astore 7, 2) := by decide +kernel
theorem dL_addAtom_21 : decode cL_addAtom 21 = .ok (.iconst 1, 1) := by decide +kernel
theorem dL_addAtom_22 : decode cL_addAtom 22 = .ok (.ireturn, 1) := by decide +kernel
theorem dL_addAtom_23 : decode cL_addAtom 23 = .ok (.astore 7, 2) := by decide +kernel
theorem dL_addAtom_25 : decode cL_addAtom 25 = .ok (.iconst 2, 1) := by decide +kernel
theorem dL_addAtom_26 : decode cL_addAtom 26 = .ok (.ireturn, 1) := by decide +kernel
theorem dL_addAtom_27 : decode cL_addAtom 27 = .ok (.astore 7, 2) := by decide +kernel
theorem dL_addAtom_29 : decode cL_addAtom 29 = .ok (.iconst 3, 1) := by decide +kernel
theorem dL_addAtom_30 : decode cL_addAtom 30 = .ok (.ireturn, 1) := by decide +kernel
theorem dL_addAtom_31 : decode cL_addAtom 31 = .ok (.iconst 0, 1) := by decide +kernel
theorem dL_addAtom_32 : decode cL_addAtom 32 = .ok (.ireturn, 1) := by decide +kernel
set_option maxRecDepth 20000 in
theorem ggL_addTest_X10_addTest : GoodIn wsL_addTest wsX10_addTest := goodIn_ca (goodIn_ca (goodIn_ca (goodIn_r _ [6, 7, 8, 9, 10, 11, 12, 13, 14, 15, 16, 17, 18, 19, 20, 21, 22, 23, 5, 24, 25, 26, 27, 28, 29, 30, 31, 32, 33, 34, 35, 36, 37, 38, 39, 40, 41, 42, 43, 44, 45, 46, 47, 48, 49, 50, 51, 52, 53, 54, 55, 56, 57, 58, 59, 60, 61, 62, 63, 64, 65, 66, 67, 68, 69, 70, 71, 72, 73, 74, 75, 76, 77, 78, 79, 80, 81, 82, 83, 84, 85, 86, 87, 88, 89, 90, 91, 92, 93, 94, 95, 96, 97, 98, 99, 100, 101, 102, 103, 104, 105, 106, 107, 108, 109, 110, 111, 112, 113, 114, 115, 116, 117, 118, 119, 120, 121, 122, 123, 124, 125, 126, 127, 128, 129, 130, 131, 132, 133, 134, 135, 136, 137, 138, 139, 140, 141, 142, 143, 144, 145, 146, 147, 148, 149, 150, 151, 152] (by decide +kernel) (by decide +kernel)) (goodIn_sub (fun _ h => List.mem_cons_of_mem _ (List.mem_append_left _ (List.mem_append_left _ (List.mem_append_right _ h)))) (by decide +kernel))) (goodIn_sub (fun _ h => List.mem_cons_of_mem _ (List.mem_append_left _ (List.mem_append_right _ h))) (by decide +kernel))) (goodIn_sub (fun _ h => List.mem_cons_of_mem _ (List.mem_append_right _ h)) (by decide +kernel))
set_option maxRecDepth 20000 in
theorem gL_addTest_X10_addTest : GoodIn wsL_addTest (wsV RL 37 RX10 yX10_addTest wsX10_addTest) := goodIn_app (goodIn_of _ (by decide +kernel)) ggL_addTest_X10_addTest
theorem dL_addTest_0 : decode cL_addTest 0 = .ok (.aload 5, 2) := by decide +kernel
theorem dL_addTest_2 : decode cL_addTest 2 = .ok (.iconst 0, 1) := by decide +kernel
theorem dL_addTest_3 : decode cL_addTest 3 = .ok (.aload_n 0, 1) := by decide +kernel
theorem dL_addTest_4 : decode cL_addTest 4 = .ok (.iload_n 1, 1) := by decide +kernel
theorem dL_addTest_5 : decode cL_addTest 5 = .ok (.iload_n 2, 1) := by decide +kernel
theorem dL_addTest_6 : decode cL_addTest 6 = .ok (.iload_n 3, 1) := by decide +kernel
theorem dL_addTest_7 : decode cL_addTest 7 = .ok (.iload 4, 2) := by decide +kernel
theorem dL_addTest_9 : decode cL_addTest 9 = .ok (.invokevirtual 37, 3) := by decide +kernel
theorem dL_addTest_12 : decode cL_addTest 12 = .ok (.i2l, 1) := by decide +kernel
theorem dL_addTest_13 : decode cL_addTest 13 = .ok (.lastore, 1) := by decide +kernel
theorem dL_addTest_14 : decode cL_addTest 14 = .ok (.goto 15, 3) := by decide +kernel
theorem dL_addTest_17 : decode cL_addTest 17 = .ok (.astore 6, 2) := by decide +kernel
theorem dL_addTest_19 : decode cL_addTest 19 = .ok (.iconst 1, 1) := by decide +kernel
theorem dL_addTest_20 : decode cL_addTest 20 = .ok (.ireturn, 1) := by decide +kernel
theorem dL_addTest_21 : decode cL_addTest 21 = .ok (.astore 6, 2) := by decide +kernel
theorem dL_addTest_23 : decode cL_addTest 23 = .ok (.iconst 2, 1) := by decide +kernel
theorem dL_addTest_24 : decode cL_addTest 24 = .ok (.ireturn, 1) := by decide +kernel
theorem dL_addTest_25 : decode cL_addTest 25 = .ok (.astore 6, 2) := by decide +kernel
theorem dL_addTest_27 : decode cL_addTest 27 = .ok (.iconst 3, 1) := by decide +kernel
theorem dL_addTest_28 : decode cL_addTest 28 = .ok (.ireturn, 1) := by decide +kernel
theorem dL_addTest_29 : decode cL_addTest 29 = .ok (.iconst 0, 1) := by decide +kernel
theorem dL_addTest_30 : decode cL_addTest 30 = .ok (.ireturn, 1) := by decide +kernel
set_option maxRecDepth 20000 in
theorem ggL_addCount_X10_addCount : GoodIn wsL_addCount wsX10_addCount := goodIn_ca (goodIn_ca (goodIn_ca (goodIn_r _ [6, 7, 8, 9, 10, 11, 12, 13, 14, 15, 16, 17, 18, 19, 20, 21, 22, 23, 24, 25, 26, 27, 28, 29, 5, 30, 31, 32, 33, 34, 35, 36, 37, 38, 39, 40, 41, 42, 43, 44, 45, 46, 47, 48, 49, 50, 51, 52, 53, 54, 55, 56, 57, 58, 59, 60, 61, 62, 63, 64, 65, 66, 67, 68, 69, 70, 71, 72, 73, 74, 75, 76, 77, 78, 79, 80, 81, 82, 83, 84, 85, 86, 87, 88, 89, 90, 91, 92, 93, 94, 95, 96, 97, 98, 99, 100, 101, 102, 103, 104, 105, 106, 107, 108, 109, 110, 111, 112, 113, 114, 115, 116, 117, 118, 119, 120, 121, 122, 123, 124, 125, 126, 127, 128, 129, 130, 131, 132, 133, 134, 135, 136, 137, 138, 139, 140, 141, 142, 143] (by decide +kernel) (by decide +kernel)) (goodIn_sub (fun _ h => List.mem_cons_of_mem _ (List.mem_append_left _ (List.mem_append_left _ (List.mem_append_right _ h)))) (by decide +kernel))) (goodIn_sub (fun _ h => List.mem_cons_of_mem _ (List.mem_append_left _ (List.mem_append_right _ h))) (by decide +kernel))) (goodIn_sub (fun _ h => List.mem_cons_of_mem _ (List.mem_append_right _ h)) (by decide +kernel))
set_option maxRecDepth 20000 in
theorem gL_addCount_X10_addCount : GoodIn wsL_addCount (wsV RL 41 RX10 yX10_addCount wsX10_addCount) := goodIn_app (goodIn_of _ (by decide +kernel)) ggL_addCount_X10_addCount
theorem dL_addCount_0 : decode cL_addCount 0 = .ok (.aload 5, 2) := by decide +kernel
theorem dL_addCount_2 : decode cL_addCount 2 = .ok (.iconst 0, 1) := by decide +kernel
theorem dL_addCount_3 : decode cL_addCount 3 = .ok (.aload_n 0, 1) := by decide +kernel
theorem dL_addCount_4 : decode cL_addCount 4 = .ok (.iload_n 1, 1) := by decide +kernel
theorem dL_addCount_5 : decode cL_addCount 5 = .ok (.iload_n 2, 1) := by decide +kernel
theorem dL_addCount_6 : decode cL_addCount 6 = .ok (.iload_n 3, 1) := by decide +kernel
theorem dL_addCount_7 : decode cL_addCount 7 = .ok (.iload 4, 2) := by decide +kernel
theorem dL_addCount_9 : decode cL_addCount 9 = .ok (.invokevirtual 41, 3) := by decide +kernel
theorem dL_addCount_12 : decode cL_addCount 12 = .ok (.i2l, 1) := by decide +kernel
theorem dL_addCount_13 : decode cL_addCount 13 = .ok (.lastore, 1) := by decide +kernel
theorem dL_addCount_14 : decode cL_addCount 14 = .ok (.goto 15, 3) := by decide +kernel
theorem dL_addCount_17 : decode cL_addCount 17 = .ok (.astore 6, 2) := by decide +kernel
theorem dL_addCount_19 : decode cL_addCount 19 = .ok (.iconst 1, 1) := by decide +kernel
theorem dL_addCount_20 : decode cL_addCount 20 = .ok (.ireturn, 1) := by decide +kernel
theorem dL_addCount_21 : decode cL_addCount 21 = .ok (.astore 6, 2) := by decide +kernel
theorem dL_addCount_23 : decode cL_addCount 23 = .ok (.iconst 2, 1) := by decide +kernel
theorem dL_addCount_24 : decode cL_addCount 24 = .ok (.ireturn, 1) := by decide +kernel
theorem dL_addCount_25 : decode cL_addCount 25 = .ok (.astore 6, 2) := by decide +kernel
theorem dL_addCount_27 : decode cL_addCount 27 = .ok (.iconst 3, 1) := by decide +kernel
theorem dL_addCount_28 : decode cL_addCount 28 = .ok (.ireturn, 1) := by decide +kernel
theorem dL_addCount_29 : decode cL_addCount 29 = .ok (.iconst 0, 1) := by decide +kernel
theorem dL_addCount_30 : decode cL_addCount 30 = .ok (.ireturn, 1) := by decide +kernel
set_option maxRecDepth 20000 in
theorem ggL_ground_X10_ground : GoodIn wsL_ground wsX10_ground := goodIn_ca (goodIn_ca (goodIn_ca (goodIn_r _ [6, 7, 8, 9, 10, 11, 12, 13, 5, 14, 15, 16, 17, 18, 19, 20, 21, 22, 23, 24, 25, 26, 27, 28, 29, 30, 31, 32, 33, 34, 35, 36, 37, 38, 39, 40, 41, 42, 43, 44, 45, 46, 47, 48, 49, 50, 51, 52, 53, 54, 55, 56, 57, 58, 59, 60, 61, 62, 63, 64, 65, 66, 67, 68, 69, 70, 71, 72, 73, 74, 75, 76, 77, 78, 79, 80, 81, 82, 83, 84, 85, 86, 87, 88, 89, 90, 91, 92, 93, 94, 95] (by decide +kernel) (by decide +kernel)) (goodIn_sub (fun _ h => List.mem_cons_of_mem _ (List.mem_append_left _ (List.mem_append_right _ h))) (by decide +kernel))) (goodIn_sub (fun _ h => List.mem_cons_of_mem _ (List.mem_append_right _ h)) (by decide +kernel))) (goodIn_sub (fun _ h => List.mem_cons_of_mem _ (List.mem_append_left _ (List.mem_append_left _ (List.mem_append_right _ h)))) (by decide +kernel))
set_option maxRecDepth 20000 in
theorem gL_ground_X10_ground : GoodIn wsL_ground (wsV RL 44 RX10 yX10_ground wsX10_ground) := goodIn_app (goodIn_of _ (by decide +kernel)) ggL_ground_X10_ground
theorem dL_ground_0 : decode cL_ground 0 = .ok (.aload_n 3, 1) := by decide +kernel
theorem dL_ground_1 : decode cL_ground 1 = .ok (.iconst 0, 1) := by decide +kernel
theorem dL_ground_2 : decode cL_ground 2 = .ok (.aload_n 0, 1) := by decide +kernel
theorem dL_ground_3 : decode cL_ground 3 = .ok (.iload_n 1, 1) := by decide +kernel
theorem dL_ground_4 : decode cL_ground 4 = .ok (.iload_n 2, 1) := by decide +kernel
theorem dL_ground_5 : decode cL_ground 5 = .ok (.invokevirtual 44, 3) := by decide +kernel
theorem dL_ground_8 : decode cL_ground 8 = .ok (.i2l, 1) := by decide +kernel
theorem dL_ground_9 : decode cL_ground 9 = .ok (.lastore, 1) := by decide +kernel
theorem dL_ground_10 : decode cL_ground 10 = .ok (.goto 11, 3) := by decide +kernel
theorem dL_ground_13 : decode cL_ground 13 = .ok (.astore 4, 2) := by decide +kernel
theorem dL_ground_15 : decode cL_ground 15 = .ok (.iconst 1, 1) := by decide +kernel
theorem dL_ground_16 : decode cL_ground 16 = .ok (.ireturn, 1) := by decide +kernel
theorem dL_ground_17 : decode cL_ground 17 = .ok (.astore 4, 2) := by decide +kernel
theorem dL_ground_19 : decode cL_ground 19 = .ok (.iconst 2, 1) := by decide +kernel
theorem dL_ground_20 : decode cL_ground 20 = .ok (.ireturn, 1) := by decide +kernel
theorem dL_ground_21 : decode cL_ground 21 = .ok (.iconst 0, 1) := by decide +kernel
theorem dL_ground_22 : decode cL_ground 22 = .ok (.ireturn, 1) := by decide +kernel
set_option maxRecDepth 20000 in
theorem ggL_addExternal_X10_addExternal : GoodIn wsL_addExternal wsX10_addExternal := goodIn_ca (goodIn_ca (goodIn_ca (goodIn_ca (goodIn_r _ [6, 7, 8, 9, 10, 11, 12, 5, 13, 14, 15, 16, 17, 18, 19, 20, 21, 22, 23, 24, 25, 26, 27, 28, 29, 30, 31, 32, 33, 34, 35, 36, 37, 38, 39, 40, 41, 42, 43, 44, 45, 46, 47, 48, 49, 50, 51, 52, 53, 54, 55, 56, 57, 58, 59, 60, 61, 62, 63, 64, 65, 66, 67, 68, 69, 70, 71, 72, 73, 74, 75, 76, 77, 78, 79, 80, 81, 82, 83, 84, 85, 86, 87, 88, 89, 90, 91, 92, 93, 94, 95, 96, 97, 98, 99, 100, 101, 102, 103, 104, 105, 106, 107, 108] (by decide +kernel) (by decide +kernel)) (goodIn_sub (fun _ h => List.mem_cons_of_mem _ (List.mem_append_left _ (List.mem_append_left _ (List.mem_append_right _ h)))) (by decide +kernel))) (goodIn_sub (fun _ h => List.mem_cons_of_mem _ (List.mem_append_left _ (List.mem_append_right _ h))) (by decide +kernel))) (goodIn_sub (fun _ h => List.mem_cons_of_mem _ (List.mem_append_right _ h)) (by decide +kernel))) (goodIn_sub (fun _ h => List.mem_cons_of_mem _ (List.mem_append_left _ (List.mem_append_left _ (List.mem_append_left _ (List.mem_append_right _ h))))) (by decide +kernel))
set_option maxRecDepth 20000 in
theorem gL_addExternal_X10_addExternal : GoodIn wsL_addExternal (wsV RL 48 RX10 yX10_addExternal wsX10_addExternal) := goodIn_app (goodIn_of _ (by decide +kernel)) ggL_addExternal_X10_addExternal
theorem dL_addExternal_0 : decode cL_addExternal 0 = .ok (.aload 4, 2) := by decide +kernel
theorem dL_addExternal_2 : decode cL_addExternal 2 = .ok (.iconst 0, 1) := by decide +kernel
theorem dL_addExternal_3 : decode cL_addExternal 3 = .ok (.aload_n 0, 1) := by decide +kernel
theorem dL_addExternal_4 : decode cL_addExternal 4 = .ok (.iload_n 1, 1) := by decide +kernel
theorem dL_addExternal_5 : decode cL_addExternal 5 = .ok (.iload_n 2, 1) := by decide +kernel
theorem dL_addExternal_6 : decode cL_addExternal 6 = .ok (.iload_n 3, 1) := by decide +kernel
theorem dL_addExternal_7 : decode cL_addExternal 7 = .ok (.invokevirtual 48, 3) := by decide +kernel
theorem dL_addExternal_10 : decode cL_addExternal 10 = .ok (.i2l, 1) := by decide +kernel
theorem dL_addExternal_11 : decode cL_addExternal 11 = .ok (.lastore, 1) := by decide +kernel
theorem dL_addExternal_12 : decode cL_addExternal 12 = .ok (.goto 15, 3) := by decide +kernel
theorem dL_addExternal_15 : decode cL_addExternal 15 = .ok (.astore 5, 2) := by decide +kernel
theorem dL_addExternal_17 : decode cL_addExternal 17 = .ok (.iconst 1, 1) := by decide +kernel
theorem dL_addExternal_18 : decode cL_addExternal 18 = .ok (.ireturn, 1) := by decide +kernel
theorem dL_addExternal_19 : decode cL_addExternal 19 = .ok (.astore 5, 2) := by decide +kernel
theorem dL_addExternal_21 : decode cL_addExternal 21 = .ok (.iconst 2, 1) := by decide +kernel
theorem dL_addExternal_22 : decode cL_addExternal 22 = .ok (.ireturn, 1) := by decide +kernel
theorem dL_addExternal_23 : decode cL_addExternal 23 = .ok (.astore 5, 2) := by decide +kernel
theorem dL_addExternal_25 : decode cL_addExternal 25 = .ok (.iconst 3, 1) := by decide +kernel
theorem dL_addExternal_26 : decode cL_addExternal 26 = .ok (.ireturn, 1) := by decide +kernel
theorem dL_addExternal_27 : decode cL_addExternal 27 = .ok (.iconst 0, 1) := by decide +kernel
theorem dL_addExternal_28 : decode cL_addExternal 28 = .ok (.ireturn, 1) := by decide +kernel
set_option maxRecDepth 20000 in
theorem ggL_setExternal_X10_setExternal : GoodIn wsL_setExternal wsX10_setExternal := goodIn_ca (goodIn_ca (goodIn_ca (goodIn_ca (goodIn_r _ [6, 7, 8, 9, 10, 11, 12, 13, 14, 15, 16, 17, 18, 19, 20, 21, 22, 23, 5, 24, 25, 26, 27, 28, 29, 30, 31, 32, 33, 34, 35, 36, 37, 38, 39, 40, 41, 42, 43, 44, 45, 46, 47, 48, 49, 50, 51, 52, 53, 54, 55, 56, 57, 58, 59, 60, 61, 62, 63, 64, 65, 66, 67, 68, 69, 70, 71, 72, 73, 74, 75, 76, 77, 78, 79, 80, 81, 82, 83, 84, 85] (by decide +kernel) (by decide +kernel)) (goodIn_sub (fun _ h => List.mem_cons_of_mem _ (List.mem_append_left _ (List.mem_append_left _ (List.mem_append_right _ h)))) (by decide +kernel))) (goodIn_sub (fun _ h => List.mem_cons_of_mem _ (List.mem_append_left _ (List.mem_append_right _ h))) (by decide +kernel))) (goodIn_sub (fun _ h => List.mem_cons_of_mem _ (List.mem_append_right _ h)) (by decide +kernel))) (goodIn_sub (fun _ h => List.mem_cons_of_mem _ (List.mem_append_left _ (List.mem_append_left _ (List.mem_append_left _ (List.mem_append_right _ h))))) (by decide +kernel))
set_option maxRecDepth 20000 in
theorem gL_setExternal_X10_setExternal : GoodIn wsL_setExternal (wsV RL 51 RX10 yX10_setExternal wsX10_setExternal) := goodIn_app (goodIn_of _ (by decide +kernel)) ggL_setExternal_X10_setExternal
theorem dL_setExternal_0 : decode cL_setExternal 0 = .ok (.aload_n 3, 1) := by decide +kernel
theorem dL_setExternal_1 : decode cL_setExternal 1 = .ok (.iconst 0, 1) := by decide +kernel
theorem dL_setExternal_2 : decode cL_setExternal 2 = .ok (.aload_n 0, 1) := by decide +kernel
theorem dL_setExternal_3 : decode cL_setExternal 3 = .ok (.iload_n 1, 1) := by decide +kernel
theorem dL_setExternal_4 : decode cL_setExternal 4 = .ok (.iload_n 2, 1) := by decide +kernel
theorem dL_setExternal_5 : decode cL_setExternal 5 = .ok (.invokevirtual 51, 3) := by decide +kernel
theorem dL_setExternal_8 : decode cL_setExternal 8 = .ok (.i2l, 1) := by decide +kernel
theorem dL_setExternal_9 : decode cL_setExternal 9 = .ok (.lastore, 1) := by decide +kernel
theorem dL_setExternal_10 : decode cL_setExternal 10 = .ok (.goto 15, 3) := by decide +kernel
theorem dL_setExternal_13 : decode cL_setExternal 13 = .ok (.astore 4, 2) := by decide +kernel
theorem dL_setExternal_15 : decode cL_setExternal 15 = .ok (.iconst 1, 1) := by decide +kernel
theorem dL_setExternal_16 : decode cL_setExternal 16 = .ok (.ireturn, 1) := by decide +kernel
theorem dL_setExternal_17 : decode cL_setExternal 17 = .ok (.astore 4, 2) := by decide +kernel
theorem dL_setExternal_19 : decode cL_setExternal 19 = .ok (.iconst 2, 1) := by decide +kernel
theorem dL_setExternal_20 : decode cL_setExternal 20 = .ok (.ireturn, 1) := by decide +kernel
theorem dL_setExternal_21 : decode cL_setExternal 21 = .ok (.astore 4, 2) := by decide +kernel
theorem dL_setExternal_23 : decode cL_setExternal 23 = .ok (.iconst 3, 1) := by decide +kernel
theorem dL_setExternal_24 : decode cL_setExternal 24 = .ok (.ireturn, 1) := by decide +kernel
theorem dL_setExternal_25 : decode cL_setExternal 25 = .ok (.iconst 0, 1) := by decide +kernel
theorem dL_setExternal_26 : decode cL_setExternal 26 = .ok (.ireturn, 1) := by decide +kernel
set_option maxRecDepth 20000 in
theorem ggL_assume_X10_assume : GoodIn wsL_assume wsX10_assume := goodIn_ca (goodIn_ca (goodIn_ca (goodIn_r _ [6, 7, 8, 9, 10, 11, 12, 5, 13, 14, 15, 16, 17, 18, 19, 20, 21, 22, 23, 24, 25, 26, 27, 28, 29, 30, 31, 32, 33, 34, 35, 36, 37, 38, 39, 40, 41, 42, 43, 44, 45, 46, 47, 48, 49, 50, 51, 52, 53, 54, 55, 56, 57, 58, 59, 60, 61, 62, 63, 64, 65, 66, 67, 68, 69, 70, 71, 72, 73, 74, 75, 76, 77, 78, 79, 80, 81] (by decide +kernel) (by decide +kernel)) (goodIn_sub (fun _ h => List.mem_cons_of_mem _ (List.mem_append_left _ (List.mem_append_right _ h))) (by decide +kernel))) (goodIn_sub (fun _ h => List.mem_cons_of_mem _ (List.mem_append_right _ h)) (by decide +kernel))) (goodIn_sub (fun _ h => List.mem_cons_of_mem _ (List.mem_append_left _ (List.mem_append_left _ (List.mem_append_right _ h)))) (by decide +kernel))
set_option maxRecDepth 20000 in
theorem gL_assume_X10_assume : GoodIn wsL_assume (wsV RL 55 RX10 yX10_assume wsX10_assume) := goodIn_app (goodIn_of _ (by decide +kernel)) ggL_assume_X10_assume
theorem dL_assume_0 : decode cL_assume 0 = .ok (.aload 5, 2) := by decide +kernel
theorem dL_assume_2 : decode cL_assume 2 = .ok (.iconst 0, 1) := by decide +kernel
theorem dL_assume_3 : decode cL_assume 3 = .ok (.aload_n 0, 1) := by decide +kernel
theorem dL_assume_4 : decode cL_assume 4 = .ok (.iload_n 1, 1) := by decide +kernel
theorem dL_assume_5 : decode cL_assume 5 = .ok (.iload_n 2, 1) := by decide +kernel
theorem dL_assume_6 : decode cL_assume 6 = .ok (.iload_n 3, 1) := by decide +kernel
theorem dL_assume_7 : decode cL_assume 7 = .ok (.iload 4, 2) := by decide +kernel
theorem dL_assume_9 : decode cL_assume 9 = .ok (.invokevirtual 55, 3) := by decide +kernel
theorem dL_assume_12 : decode cL_assume 12 = .ok (.i2l, 1) := by decide +kernel
theorem dL_assume_13 : decode cL_assume 13 = .ok (.lastore, 1) := by decide +kernel
theorem dL_assume_14 : decode cL_assume 14 = .ok (.goto 11, 3) := by decide +kernel
theorem dL_assume_17 : decode cL_assume 17 = .ok (.astore 6, 2) := by decide +kernel
theorem dL_assume_19 : decode cL_assume 19 = .ok (.iconst 1, 1) := by decide +kernel
theorem dL_assume_20 : decode cL_assume 20 = .ok (.ireturn, 1) := by decide +kernel
theorem dL_assume_21 : decode cL_assume 21 = .ok (.astore 6, 2) := by decide +kernel
theorem dL_assume_23 : decode cL_assume 23 = .ok (.iconst 2, 1) := by decide +kernel
theorem dL_assume_24 : decode cL_assume 24 = .ok (.ireturn, 1) := by decide +kernel
theorem dL_assume_25 : decode cL_assume 25 = .ok (.iconst 0, 1) := by decide +kernel
theorem dL_assume_26 : decode cL_assume 26 = .ok (.ireturn, 1) := by decide +kernel
set_option maxRecDepth 20000 in
theorem ggL_state_X10_state : GoodIn wsL_state wsX10_state := goodIn_ca (goodIn_ca (goodIn_ca (goodIn_r _ [6, 7, 8, 9, 10, 5, 11, 12, 13, 14, 15, 16, 17, 18, 19, 20, 21, 22, 23, 24, 25, 26, 27, 28, 29, 30, 31, 32, 33, 34, 35, 36, 37, 38, 39, 40, 41, 42, 43, 44, 45, 46, 47, 48, 49, 50, 51, 52, 53, 54, 55, 56, 57, 58, 59, 60, 61, 62, 63, 64, 65, 66, 67, 68, 69, 70, 71, 72, 73, 74, 75, 76, 77, 78, 79, 80, 81, 82, 83, 84, 85, 86, 87, 88, 89, 90, 91, 92, 93, 94, 95, 96, 97, 98, 99, 100, 101, 102, 103, 104, 105, 106, 107, 108, 109, 110, 111, 112, 113, 114, 115, 116, 117, 118, 119, 120, 121, 122, 123, 124, 125, 126, 127, 128, 129, 130, 131, 132, 133, 134, 135, 136, 137, 138, 139, 140, 141, 142, 143, 144, 145, 146, 147, 148, 149, 150, 151, 152, 153, 154, 155, 156, 157, 158, 159, 160, 161, 162, 163, 164, 165, 166, 167, 168, 169, 170, 171, 172, 173, 174, 175, 176, 177, 178, 179, 180, 181, 182, 183, 184, 185, 186, 187, 188, 189, 190, 191, 192, 193, 194, 195, 196, 197, 198, 199, 200, 201, 202, 203, 204, 205, 206, 207, 208, 209, 210, 211, 212, 213, 214, 215, 216, 217, 218, 219, 220, 221, 222, 223, 224, 225, 226, 227, 228, 229, 230, 231, 232, 233, 234, 235, 236, 237, 238, 239, 240, 241, 242, 243, 244, 245, 246, 247, 248, 249, 250, 251, 252, 253, 254, 255, 256, 257, 258, 259, 260, 261, 262, 263, 264, 265, 266] (by decide +kernel) (by decide +kernel)) (goodIn_sub (fun _ h => List.mem_cons_of_mem _ (List.mem_append_left _ (List.mem_append_right _ h))) (by decide +kernel))) (goodIn_sub (fun _ h => List.mem_cons_of_mem _ (List.mem_append_right _ h)) (by decide +kernel))) (goodIn_sub (fun _ h => List.mem_cons_of_mem _ (List.mem_append_left _ (List.mem_append_left _ (List.mem_append_right _ h)))) (by decide +kernel))
set_option maxRecDepth 20000 in
theorem gL_state_X10_state : GoodIn wsL_state (wsV RL 59 RX10 yX10_state wsX10_state) := goodIn_app (goodIn_of _ (by decide +kernel)) ggL_state_X10_state
theorem dL_state_0 : decode cL_state 0 = .ok (.aload 4, 2) := by decide +kernel
theorem dL_state_2 : decode cL_state 2 = .ok (.iconst 0, 1) := by decide +kernel
theorem dL_state_3 : decode cL_state 3 = .ok (.aload_n 0, 1) := by decide +kernel
theorem dL_state_4 : decode cL_state 4 = .ok (.iload_n 1, 1) := by decide +kernel
theorem dL_state_5 : decode cL_state 5 = .ok (.iload_n 2, 1) := by decide +kernel
theorem dL_state_6 : decode cL_state 6 = .ok (.iload_n 3, 1) := by decide +kernel
theorem dL_state_7 : decode cL_state 7 = .ok (.invokevirtual 59, 3) := by decide +kernel
theorem dL_state_10 : decode cL_state 10 = .ok (.i2l, 1) := by decide +kernel
theorem dL_state_11 : decode cL_state 11 = .ok (.lastore, 1) := by decide +kernel
theorem dL_state_12 : decode cL_state 12 = .ok (.goto 11, 3) := by decide +kernel
theorem dL_state_15 : decode cL_state 15 = .ok (.astore 5, 2) := by decide +kernel
theorem dL_state_17 : decode cL_state 17 = .ok (.iconst 1, 1) := by decide +kernel
theorem dL_state_18 : decode cL_state 18 = .ok (.ireturn, 1) := by decide +kernel
theorem dL_state_19 : decode cL_state 19 = .ok (.astore 5, 2) := by decide +kernel
theorem dL_state_21 : decode cL_state 21 = .ok (.iconst 2, 1) := by decide +kernel
theorem dL_state_22 : decode cL_state 22 = .ok (.ireturn, 1) := by decide +kernel
theorem dL_state_23 : decode cL_state 23 = .ok (.iconst 0, 1) := by decide +kernel
theorem dL_state_24 : decode cL_state 24 = .ok (.ireturn, 1) := by decide +kernel
set_option maxRecDepth 20000 in
theorem ggL_instances_X10_instances : GoodIn wsL_instances wsX10_instances := goodIn_ca (goodIn_ca (goodIn_r _ [6, 7, 8, 9, 10, 11, 12, 13, 14, 15, 16, 17, 18, 19, 20, 21, 22, 23, 24, 25, 26, 27, 28, 29, 30, 31, 32, 33, 34, 35, 36, 37, 38, 39, 40, 41, 42, 43, 44, 45, 46, 47, 48, 49, 50, 51, 52, 53, 54, 55, 56, 57, 58, 59, 60, 61, 62, 63, 64, 65, 66, 67, 68, 69, 70, 71, 72, 73, 74, 75, 76, 77, 78, 79, 80, 81, 82, 83, 84, 85, 86, 87, 88, 89, 90, 91, 92, 93, 94, 95, 96, 97, 98, 99, 100, 101, 102, 103, 104, 105, 106, 107, 108, 109, 110, 111, 112, 113, 114, 115, 116, 117, 118, 119, 120, 121, 122, 123, 124, 125, 126, 127, 128, 129, 130, 131, 132, 133, 134, 135, 136, 137, 138, 139, 140, 141, 142, 143, 144, 145, 146, 147, 148, 149, 150, 151, 152, 153, 154, 155, 156, 157, 158, 159, 160, 161, 162, 163, 164, 165, 166, 167, 168, 169, 170, 171, 172, 173, 174, 175, 176, 177, 178, 179, 180, 181, 182, 183, 184, 185, 186, 187, 188, 189, 190, 191, 192, 193, 194, 195, 196, 197, 198, 199, 200, 201, 202, 203, 204, 205, 206, 207, 208, 209, 210, 211, 212, 213, 214, 215, 216, 217, 218, 219, 220, 221, 222, 223, 224, 225, 226, 227, 228, 229, 230, 231, 232, 233, 234, 235, 236, 237, 238, 239, 240, 241, 242, 243, 244, 245, 246, 247, 248, 249, 250] (by decide +kernel) (by decide +kernel)) (goodIn_sub (fun _ h => List.mem_cons_of_mem _ (List.mem_append_right _ h)) (by decide +kernel))) (goodIn_sub (fun _ h => List.mem_cons_of_mem _ (List.mem_append_left _ (List.mem_append_right _ h))) (by decide +kernel))
set_option maxRecDepth 20000 in
theorem gL_instances_X10_instances : GoodIn wsL_instances (wsV RL 63 RX10 yX10_instances wsX10_instances) := goodIn_app (goodIn_of _ (by decide +kernel)) ggL_instances_X10_instances
theorem dL_instances_0 : decode cL_instances 0 = .ok (.aload_n 2, 1) := by decide +kernel
theorem dL_instances_1 : decode cL_instances 1 = .ok (.iconst 0, 1) := by decide +kernel
theorem dL_instances_2 : decode cL_instances 2 = .ok (.aload_n 0, 1) := by decide +kernel
theorem dL_instances_3 : decode cL_instances 3 = .ok (.iload_n 1, 1) := by decide +kernel
theorem dL_instances_4 : decode cL_instances 4 = .ok (.invokevirtual 63, 3) := by decide +kernel
theorem dL_instances_7 : decode cL_instances 7 = .ok (.i2l, 1) := by decide +kernel
theorem dL_instances_8 : decode cL_instances 8 = .ok (.lastore, 1) := by decide +kernel
theorem dL_instances_9 : decode cL_instances 9 = .ok (.goto 6, 3) := by decide +kernel
theorem dL_instances_12 : decode cL_instances 12 = .ok (.astore_n 3, 1) := by decide +kernel
theorem dL_instances_13 : decode cL_instances 13 = .ok (.iconst 1, 1) := by decide +kernel
theorem dL_instances_14 : decode cL_instances 14 = .ok (.ireturn, 1) := by decide +kernel
theorem dL_instances_15 : decode cL_instances 15 = .ok (.iconst 0, 1) := by decide +kernel
theorem dL_instances_16 : decode cL_instances 16 = .ok (.ireturn, 1) := by decide +kernel
set_option maxRecDepth 20000 in
theorem ggL_has_X10_has : GoodIn wsL_has wsX10_has := goodIn_ca (goodIn_ca (goodIn_ca (goodIn_ca (goodIn_r _ [6, 7, 8, 9, 10, 5, 11, 12, 13, 14, 15, 16, 17, 18, 19, 20, 21, 22, 23, 24, 25, 26, 27, 28, 29, 30, 31, 32, 33, 34, 35, 36, 37, 38, 39, 40, 41, 42, 43, 44, 45, 46, 47, 48, 49, 50, 51, 52, 53, 54, 55, 56, 57, 58, 59, 60, 61, 62, 63, 64, 65, 66, 67, 68, 69, 70, 71, 72, 73, 74, 75, 76, 77, 78, 79, 80, 81, 82, 83, 84, 85, 86, 87, 88, 89, 90, 91, 92, 93, 94, 95, 96, 97, 98, 99, 100, 101, 102, 103, 104, 105, 106, 107, 108, 109, 110, 111, 112, 113, 114, 115, 116, 117, 118, 119, 120, 121, 122, 123, 124, 125] (by decide +kernel) (by decide +kernel)) (goodIn_sub (fun _ h => List.mem_cons_of_mem _ (List.mem_append_left _ (List.mem_append_left _ (List.mem_append_right _ h)))) (by decide +kernel))) (goodIn_sub (fun _ h => List.mem_cons_of_mem _ (List.mem_append_left _ (List.mem_append_right _ h))) (by decide +kernel))) (goodIn_sub (fun _ h => List.mem_cons_of_mem _ (List.mem_append_left _ (List.mem_append_left _ (List.mem_append_left _ (List.mem_append_right _ h))))) (by decide +kernel))) (goodIn_sub (fun _ h => List.mem_cons_of_mem _ (List.mem_append_right _ h)) (by decide +kernel))
set_option maxRecDepth 20000 in
theorem gL_has_X10_has : GoodIn wsL_has (wsV RL 78 RX10 yX10_has wsX10_has) := goodIn_app (goodIn_of _ (by decide +kernel)) ggL_has_X10_has
theorem dL_has_0 : decode cL_has 0 = .ok (.aload 5, 2) := by decide +kernel
theorem dL_has_2 : decode cL_has 2 = .ok (.iconst 0, 1) := by decide +kernel
theorem dL_has_3 : decode cL_has 3 = .ok (.aload_n 0, 1) := by decide +kernel
theorem dL_has_4 : decode cL_has 4 = .ok (.iload_n 1, 1) := by decide +kernel
theorem dL_has_5 : decode cL_has 5 = .ok (.iload_n 2, 1) := by decide +kernel
theorem dL_has_6 : decode cL_has 6 = .ok (.iload_n 3, 1) := by decide +kernel
theorem dL_has_7 : decode cL_has 7 = .ok (.iload 4, 2) := by decide +kernel
theorem dL_has_9 : decode cL_has 9 = .ok (.invokevirtual 78, 3) := by decide +kernel
theorem dL_has_12 : decode cL_has 12 = .ok (.ifCond .eq 7, 3) := by decide +kernel
theorem dL_has_15 : decode cL_has 15 = .ok (.lconst 1, 1) := by decide +kernel
theorem dL_has_16 : decode cL_has 16 = .ok (.goto 4, 3) := by decide +kernel
theorem dL_has_19 : decode cL_has 19 = .ok (.lconst 0, 1) := by decide +kernel
theorem dL_has_20 : decode cL_has 20 = .ok (.lastore, 1) := by decide +kernel
theorem dL_has_21 : decode cL_has 21 = .ok (.goto 15, 3) := by decide +kernel
theorem dL_has_24 : decode cL_has 24 = .ok (.astore 6, 2) := by decide +kernel
theorem dL_has_26 : decode cL_has 26 = .ok (.iconst 1, 1) := by decide +kernel
theorem dL_has_27 : decode cL_has 27 = .ok (.ireturn, 1) := by decide +kernel
theorem dL_has_28 : decode cL_has 28 = .ok (.astore 6, 2) := by decide +kernel
theorem dL_has_30 : decode cL_has 30 = .ok (.iconst 2, 1) := by decide +kernel
theorem dL_has_31 : decode cL_has 31 = .ok (.ireturn, 1) := by decide +kernel
theorem dL_has_32 : decode cL_has 32 = .ok (.astore 6, 2) := by decide +kernel
theorem dL_has_34 : decode cL_has 34 = .ok (.iconst 3, 1) := by decide +kernel
theorem dL_has_35 : decode cL_has 35 = .ok (.ireturn, 1) := by decide +kernel
theorem dL_has_36 : decode cL_has 36 = .ok (.iconst 0, 1) := by decide +kernel
theorem dL_has_37 : decode cL_has 37 = .ok (.ireturn, 1) := by decide +kernel
set_option maxRecDepth 20000 in
theorem ggL_size_X10_size : GoodIn wsL_size wsX10_size := goodIn_ca (goodIn_ca (goodIn_ca (goodIn_r _ [6, 7, 8, 9, 10, 5, 11, 12, 13, 14, 15, 16, 17, 18, 19, 20, 21, 22, 23, 24, 25, 26, 27, 28, 29, 30, 31, 32, 33, 34, 35, 36, 37, 38, 39, 40, 41, 42, 43, 44, 45, 46, 47, 48, 49, 50, 51, 52, 53, 54, 55, 56, 57, 58, 59, 60, 61, 62, 63, 64, 65, 66, 67, 68, 69, 70, 71, 72, 73, 74, 75, 76, 77, 78, 79, 80, 81, 82, 83, 84, 85, 86, 87, 88, 89, 90, 91, 92, 93, 94, 95, 96, 97, 98, 99, 100, 101] (by decide +kernel) (by decide +kernel)) (goodIn_sub (fun _ h => List.mem_cons_of_mem _ (List.mem_append_left _ (List.mem_append_right _ h))) (by decide +kernel))) (goodIn_sub (fun _ h => List.mem_cons_of_mem _ (List.mem_append_right _ h)) (by decide +kernel))) (goodIn_sub (fun _ h => List.mem_cons_of_mem _ (List.mem_append_left _ (List.mem_append_left _ (List.mem_append_right _ h)))) (by decide +kernel))
set_option maxRecDepth 20000 in
theorem gL_size_X10_size : GoodIn wsL_size (wsV RL 82 RX10 yX10_size wsX10_size) := goodIn_app (goodIn_of _ (by decide +kernel)) ggL_size_X10_size
theorem dL_size_0 : decode cL_size 0 = .ok (.aload_n 2, 1) := by decide +kernel
theorem dL_size_1 : decode cL_size 1 = .ok (.iconst 0, 1) := by decide +kernel
theorem dL_size_2 : decode cL_size 2 = .ok (.aload_n 0, 1) := by decide +kernel
theorem dL_size_3 : decode cL_size 3 = .ok (.iload_n 1, 1) := by decide +kernel
theorem dL_size_4 : decode cL_size 4 = .ok (.invokevirtual 82, 3) := by decide +kernel
theorem dL_size_7 : decode cL_size 7 = .ok (.i2l, 1) := by decide +kernel
theorem dL_size_8 : decode cL_size 8 = .ok (.lastore, 1) := by decide +kernel
theorem dL_size_9 : decode cL_size 9 = .ok (.goto 9, 3) := by decide +kernel
theorem dL_size_12 : decode cL_size 12 = .ok (.astore_n 3, 1) := by decide +kernel
theorem dL_size_13 : decode cL_size 13 = .ok (.iconst 1, 1) := by decide +kernel
theorem dL_size_14 : decode cL_size 14 = .ok (.ireturn, 1) := by decide +kernel
theorem dL_size_15 : decode cL_size 15 = .ok (.astore_n 3, 1) := by decide +kernel
theorem dL_size_16 : decode cL_size 16 = .ok (.iconst 2, 1) := by decide +kernel
theorem dL_size_17 : decode cL_size 17 = .ok (.ireturn, 1) := by decide +kernel
theorem dL_size_18 : decode cL_size 18 = .ok (.iconst 0, 1) := by decide +kernel
theorem dL_size_19 : decode cL_size 19 = .ok (.ireturn, 1) := by decide +kernel
set_option maxRecDepth 20000 in
theorem ggL_cost_X10_cost : GoodIn wsL_cost wsX10_cost := goodIn_ca (goodIn_ca (goodIn_ca (goodIn_ca (goodIn_r _ [6, 7, 8, 9, 10, 5, 11, 12, 13, 14, 15, 16, 17, 18, 19, 20, 21, 22, 23, 24, 25, 26, 27, 28, 29, 30, 31, 32, 33, 34, 35, 36, 37, 38, 39, 40, 41, 42, 43, 44, 45, 46, 47] (by decide +kernel) (by decide +kernel)) (goodIn_sub (fun _ h => List.mem_cons_of_mem _ (List.mem_append_left _ (List.mem_append_left _ (List.mem_append_right _ h)))) (by decide +kernel))) (goodIn_sub (fun _ h => List.mem_cons_of_mem _ (List.mem_append_left _ (List.mem_append_right _ h))) (by decide +kernel))) (goodIn_sub (fun _ h => List.mem_cons_of_mem _ (List.mem_append_left _ (List.mem_append_left _ (List.mem_append_left _ (List.mem_append_right _ h))))) (by decide +kernel))) (goodIn_sub (fun _ h => List.mem_cons_of_mem _ (List.mem_append_right _ h)) (by decide +kernel))
set_option maxRecDepth 20000 in
theorem gL_cost_X10_cost : GoodIn wsL_cost (wsV RL 85 RX10 yX10_cost wsX10_cost) := goodIn_app (goodIn_of _ (by decide +kernel)) ggL_cost_X10_cost
theorem dL_cost_0 : decode cL_cost 0 = .ok (.aload_n 3, 1) := by decide +kernel
theorem dL_cost_1 : decode cL_cost 1 = .ok (.iconst 0, 1) := by decide +kernel
theorem dL_cost_2 : decode cL_cost 2 = .ok (.aload_n 0, 1) := by decide +kernel
theorem dL_cost_3 : decode cL_cost 3 = .ok (.iload_n 1, 1) := by decide +kernel
theorem dL_cost_4 : decode cL_cost 4 = .ok (.iload_n 2, 1) := by decide +kernel
theorem dL_cost_5 : decode cL_cost 5 = .ok (.invokevirtual 85, 3) := by decide +kernel
theorem dL_cost_8 : decode cL_cost 8 = .ok (.lastore, 1) := by decide +kernel
theorem dL_cost_9 : decode cL_cost 9 = .ok (.goto 15, 3) := by decide +kernel
theorem dL_cost_12 : decode cL_cost 12 = .ok (.astore 4, 2) := by decide +kernel
theorem dL_cost_14 : decode cL_cost 14 = .ok (.iconst 1, 1) := by decide +kernel
theorem dL_cost_15 : decode cL_cost 15 = .ok (.ireturn, 1) := by decide +kernel
theorem dL_cost_16 : decode cL_cost 16 = .ok (.astore 4, 2) := by decide +kernel
theorem dL_cost_18 : decode cL_cost 18 = .ok (.iconst 2, 1) := by decide +kernel
theorem dL_cost_19 : decode cL_cost 19 = .ok (.ireturn, 1) := by decide +kernel
theorem dL_cost_20 : decode cL_cost 20 = .ok (.astore 4, 2) := by decide +kernel
theorem dL_cost_22 : decode cL_cost 22 = .ok (.iconst 3, 1) := by decide +kernel
theorem dL_cost_23 : decode cL_cost 23 = .ok (.ireturn, 1) := by decide +kernel
theorem dL_cost_24 : decode cL_cost 24 = .ok (.iconst 0, 1) := by decide +kernel
theorem dL_cost_25 : decode cL_cost 25 = .ok (.ireturn, 1) := by decide +kernel
set_option maxRecDepth 20000 in
theorem ggL_best_X10_best : GoodIn wsL_best wsX10_best := goodIn_ca (goodIn_ca (goodIn_r _ [6, 7, 8, 9, 10, 5, 11, 12, 13, 14, 15, 16, 17, 18, 19, 20, 21, 22, 23, 24, 25, 26, 27, 28, 29, 30, 31, 32, 33, 34, 35] (by decide +kernel) (by decide +kernel)) (goodIn_sub (fun _ h => List.mem_cons_of_mem _ (List.mem_append_right _ h)) (by decide +kernel))) (goodIn_sub (fun _ h => List.mem_cons_of_mem _ (List.mem_append_left _ (List.mem_append_right _ h))) (by decide +kernel))
set_option maxRecDepth 20000 in
theorem gL_best_X10_best : GoodIn wsL_best (wsV RL 89 RX10 yX10_best wsX10_best) := goodIn_app (goodIn_of _ (by decide +kernel)) ggL_best_X10_best
theorem dL_best_0 : decode cL_best 0 = .ok (.aload_n 1, 1) := by decide +kernel
theorem dL_best_1 : decode cL_best 1 = .ok (.iconst 0, 1) := by decide +kernel
theorem dL_best_2 : decode cL_best 2 = .ok (.aload_n 0, 1) := by decide +kernel
theorem dL_best_3 : decode cL_best 3 = .ok (.invokevirtual 89, 3) := by decide +kernel
theorem dL_best_6 : decode cL_best 6 = .ok (.i2l, 1) := by decide +kernel
theorem dL_best_7 : decode cL_best 7 = .ok (.lastore, 1) := by decide +kernel
theorem dL_best_8 : decode cL_best 8 = .ok (.goto 6, 3) := by decide +kernel
theorem dL_best_11 : decode cL_best 11 = .ok (.astore_n 2, 1) := by decide +kernel
theorem dL_best_12 : decode cL_best 12 = .ok (.iconst 1, 1) := by decide +kernel
theorem dL_best_13 : decode cL_best 13 = .ok (.ireturn, 1) := by decide +kernel
theorem dL_best_14 : decode cL_best 14 = .ok (.iconst 0, 1) := by decide +kernel
theorem dL_best_15 : decode cL_best 15 = .ok (.ireturn, 1) := by decide +kernel
set_option maxRecDepth 20000 in
theorem ggL_projected_X10_projected : GoodIn wsL_projected wsX10_projected := goodIn_ca (goodIn_ca (goodIn_ca (goodIn_r _ [6, 7, 8, 9, 10, 11, 12, 13, 14, 5, 15, 16, 17, 18, 19, 20, 21, 22, 23, 24, 25, 26, 27, 28, 29, 30, 31, 32, 33, 34, 35, 36, 37, 38, 39, 40, 41, 42, 43, 44, 45, 46, 47, 48, 49, 50, 51, 52, 53, 54, 55, 56, 57, 58, 59, 60, 61, 62, 63, 64, 65, 66, 67, 68, 69, 70, 71, 72, 73, 74, 75, 76, 77, 78] (by decide +kernel) (by decide +kernel)) (goodIn_sub (fun _ h => List.mem_cons_of_mem _ (List.mem_append_left _ (List.mem_append_right _ h))) (by decide +kernel))) (goodIn_sub (fun _ h => List.mem_cons_of_mem _ (List.mem_append_right _ h)) (by decide +kernel))) (goodIn_sub (fun _ h => List.mem_cons_of_mem _ (List.mem_append_left _ (List.mem_append_left _ (List.mem_append_right _ h)))) (by decide +kernel))
set_option maxRecDepth 20000 in
theorem gL_projected_X10_projected : GoodIn wsL_projected (wsV RL 92 RX10 yX10_projected wsX10_projected) := goodIn_app (goodIn_of _ (by decide +kernel)) ggL_projected_X10_projected
theorem dL_projected_0 : decode cL_projected 0 = .ok (.aload_n 2, 1) := by decide +kernel
theorem dL_projected_1 : decode cL_projected 1 = .ok (.iconst 0, 1) := by decide +kernel
theorem dL_projected_2 : decode cL_projected 2 = .ok (.aload_n 0, 1) := by decide +kernel
theorem dL_projected_3 : decode cL_projected 3 = .ok (.iload_n 1, 1) := by decide +kernel
theorem dL_projected_4 : decode cL_projected 4 = .ok (.invokevirtual 92, 3) := by decide +kernel
theorem dL_projected_7 : decode cL_projected 7 = .ok (.i2l, 1) := by decide +kernel
theorem dL_projected_8 : decode cL_projected 8 = .ok (.lastore, 1) := by decide +kernel
theorem dL_projected_9 : decode cL_projected 9 = .ok (.goto 9, 3) := by decide +kernel
theorem dL_projected_12 : decode cL_projected 12 = .ok (.astore_n 3, 1) := by decide +kernel
theorem dL_projected_13 : decode cL_projected 13 = .ok (.iconst 1, 1) := by decide +kernel
theorem dL_projected_14 : decode cL_projected 14 = .ok (.ireturn, 1) := by decide +kernel
theorem dL_projected_15 : decode cL_projected 15 = .ok (.astore_n 3, 1) := by decide +kernel
theorem dL_projected_16 : decode cL_projected 16 = .ok (.iconst 2, 1) := by decide +kernel
theorem dL_projected_17 : decode cL_projected 17 = .ok (.ireturn, 1) := by decide +kernel
theorem dL_projected_18 : decode cL_projected 18 = .ok (.iconst 0, 1) := by decide +kernel
theorem dL_projected_19 : decode cL_projected 19 = .ok (.ireturn, 1) := by decide +kernel
set_option maxRecDepth 20000 in
theorem ggL_holds_X10_holds : GoodIn wsL_holds wsX10_holds := goodIn_ca (goodIn_ca (goodIn_ca (goodIn_ca (goodIn_r _ [6, 7, 8, 9, 10, 5, 11, 12, 13, 14, 15, 16, 17, 18, 19, 20, 21, 22, 23, 24, 25, 26, 27, 28, 29, 30, 31, 32, 33, 34, 35, 36, 37, 38, 39, 40, 41, 42, 43, 44, 45, 46, 47, 48, 49, 50, 51, 52, 53, 54, 55, 56, 57, 58, 59, 60, 61, 62, 63, 64, 65, 66, 67, 68, 69, 70, 71, 72, 73, 74, 75, 76, 77, 78, 79, 80, 81, 82, 83, 84, 85, 86, 87, 88, 89, 90, 91, 92, 93, 94, 95, 96, 97, 98, 99, 100, 101, 102, 103, 104, 105, 106, 107, 108, 109, 110, 111, 112, 113, 114, 115, 116, 117, 118, 119, 120, 121, 122, 123, 124, 125] (by decide +kernel) (by decide +kernel)) (goodIn_sub (fun _ h => List.mem_cons_of_mem _ (List.mem_append_left _ (List.mem_append_left _ (List.mem_append_right _ h)))) (by decide +kernel))) (goodIn_sub (fun _ h => List.mem_cons_of_mem _ (List.mem_append_left _ (List.mem_append_right _ h))) (by decide +kernel))) (goodIn_sub (fun _ h => List.mem_cons_of_mem _ (List.mem_append_right _ h)) (by decide +kernel))) (goodIn_sub (fun _ h => List.mem_cons_of_mem _ (List.mem_append_left _ (List.mem_append_left _ (List.mem_append_left _ (List.mem_append_right _ h))))) (by decide +kernel))
set_option maxRecDepth 20000 in
theorem gL_holds_X10_holds : GoodIn wsL_holds (wsV RL 95 RX10 yX10_holds wsX10_holds) := goodIn_app (goodIn_of _ (by decide +kernel)) ggL_holds_X10_holds
theorem dL_holds_0 : decode cL_holds 0 = .ok (.aload 4, 2) := by decide +kernel
theorem dL_holds_2 : decode cL_holds 2 = .ok (.iconst 0, 1) := by decide +kernel
theorem dL_holds_3 : decode cL_holds 3 = .ok (.aload_n 0, 1) := by decide +kernel
theorem dL_holds_4 : decode cL_holds 4 = .ok (.iload_n 1, 1) := by decide +kernel
theorem dL_holds_5 : decode cL_holds 5 = .ok (.iload_n 2, 1) := by decide +kernel
theorem dL_holds_6 : decode cL_holds 6 = .ok (.iload_n 3, 1) := by decide +kernel
theorem dL_holds_7 : decode cL_holds 7 = .ok (.invokevirtual 95, 3) := by decide +kernel
theorem dL_holds_10 : decode cL_holds 10 = .ok (.i2l, 1) := by decide +kernel
theorem dL_holds_11 : decode cL_holds 11 = .ok (.lastore, 1) := by decide +kernel
theorem dL_holds_12 : decode cL_holds 12 = .ok (.goto 15, 3) := by decide +kernel
theorem dL_holds_15 : decode cL_holds 15 = .ok (.astore 5, 2) := by decide +kernel
theorem dL_holds_17 : decode cL_holds 17 = .ok (.iconst 1, 1) := by decide +kernel
theorem dL_holds_18 : decode cL_holds 18 = .ok (.ireturn, 1) := by decide +kernel
theorem dL_holds_19 : decode cL_holds 19 = .ok (.astore 5, 2) := by decide +kernel
theorem dL_holds_21 : decode cL_holds 21 = .ok (.iconst 2, 1) := by decide +kernel
theorem dL_holds_22 : decode cL_holds 22 = .ok (.ireturn, 1) := by decide +kernel
theorem dL_holds_23 : decode cL_holds 23 = .ok (.astore 5, 2) := by decide +kernel
theorem dL_holds_25 : decode cL_holds 25 = .ok (.iconst 3, 1) := by decide +kernel
theorem dL_holds_26 : decode cL_holds 26 = .ok (.ireturn, 1) := by decide +kernel
theorem dL_holds_27 : decode cL_holds 27 = .ok (.iconst 0, 1) := by decide +kernel
theorem dL_holds_28 : decode cL_holds 28 = .ok (.ireturn, 1) := by decide +kernel
set_option maxRecDepth 20000 in
theorem ggL_reason_X10_reason : GoodIn wsL_reason wsX10_reason := goodIn_ca (goodIn_ca (goodIn_ca (goodIn_ca (goodIn_ca (goodIn_r _ [6, 7, 8, 9, 10, 11, 12, 5, 13, 14, 15, 16, 17, 18, 19, 20, 21, 22, 23, 24, 25, 26, 27, 28, 29, 30, 31, 32, 33, 34, 35, 36, 37, 38, 39, 40, 41, 42, 43, 44, 45, 46, 47, 48, 49, 50, 51, 52, 53, 54, 55, 56, 57, 58, 59, 60, 61, 62, 63, 64, 65, 66, 67, 68, 69, 70, 71, 72, 73, 74, 75, 76, 77, 78, 79, 80, 81, 82, 83, 84, 85, 86, 87, 88, 89, 90, 91, 92, 93, 94, 95, 96, 97, 98, 99, 100, 101, 102, 103, 104, 105, 106, 107, 108, 109, 110, 111, 112, 113, 114, 115, 116, 117, 118, 119, 120, 121, 122, 123, 124, 125, 126, 127, 128, 129, 130, 131, 132, 133, 134, 135, 136, 137, 138, 139, 140, 141, 142, 143, 144, 145, 146, 147, 148, 149, 150, 151, 152, 153, 154, 155, 156, 157, 158, 159, 160, 161, 162, 163, 164, 165, 166, 167, 168, 169, 170, 171, 172, 173, 174, 175, 176, 177, 178, 179, 180, 181, 182, 183, 184, 185, 186, 187, 188, 189, 190, 191, 192, 193, 194, 195, 196, 197, 198, 199, 200, 201, 202, 203, 204, 205, 206, 207, 208, 209, 210, 211, 212, 213, 214, 215, 216, 217, 218, 219, 220, 221, 222, 223, 224, 225, 226, 227, 228, 229, 230, 231, 232, 233, 234, 235, 236, 237, 238, 239, 240, 241, 242, 243, 244, 245, 246, 247, 248, 249, 250, 251, 252, 253, 254, 255, 256, 257, 258, 259, 260, 261, 262, 263, 264, 265, 266, 267, 268, 269, 270, 271, 272, 273, 274, 275, 276, 277] (by decide +kernel) (by decide +kernel)) (goodIn_sub (fun _ h => List.mem_cons_of_mem _ (List.mem_append_left _ (List.mem_append_left _ (List.mem_append_left _ (List.mem_append_right _ h))))) (by decide +kernel))) (goodIn_sub (fun _ h => List.mem_cons_of_mem _ (List.mem_append_left _ (List.mem_append_left _ (List.mem_append_right _ h)))) (by decide +kernel))) (goodIn_sub (fun _ h => List.mem_cons_of_mem _ (List.mem_append_left _ (List.mem_append_right _ h))) (by decide +kernel))) (goodIn_sub (fun _ h => List.mem_cons_of_mem _ (List.mem_append_left _ (List.mem_append_left _ (List.mem_append_left _ (List.mem_append_left _ (List.mem_append_right _ h)))))) (by decide +kernel))) (goodIn_sub (fun _ h => List.mem_cons_of_mem _ (List.mem_append_right _ h)) (by decide +kernel))
set_option maxRecDepth 20000 in
theorem gL_reason_X10_reason : GoodIn wsL_reason (wsV RL 98 RX10 yX10_reason wsX10_reason) := goodIn_app (goodIn_of _ (by decide +kernel)) ggL_reason_X10_reason
theorem dL_reason_0 : decode cL_reason 0 = .ok (.aload 5, 2) := by decide +kernel
theorem dL_reason_2 : decode cL_reason 2 = .ok (.iconst 0, 1) := by decide +kernel
theorem dL_reason_3 : decode cL_reason 3 = .ok (.aload_n 0, 1) := by decide +kernel
theorem dL_reason_4 : decode cL_reason 4 = .ok (.iload_n 1, 1) := by decide +kernel
theorem dL_reason_5 : decode cL_reason 5 = .ok (.iload_n 2, 1) := by decide +kernel
theorem dL_reason_6 : decode cL_reason 6 = .ok (.iload_n 3, 1) := by decide +kernel
theorem dL_reason_7 : decode cL_reason 7 = .ok (.iload 4, 2) := by decide +kernel
theorem dL_reason_9 : decode cL_reason 9 = .ok (.invokevirtual 98, 3) := by decide +kernel
theorem dL_reason_12 : decode cL_reason 12 = .ok (.i2l, 1) := by decide +kernel
theorem dL_reason_13 : decode cL_reason 13 = .ok (.lastore, 1) := by decide +kernel
theorem dL_reason_14 : decode cL_reason 14 = .ok (.goto 19, 3) := by decide +kernel
theorem dL_reason_17 : decode cL_reason 17 = .ok (.astore 6, 2) := by decide +kernel
theorem dL_reason_19 : decode cL_reason 19 = .ok (.iconst 1, 1) := by decide +kernel
theorem dL_reason_20 : decode cL_reason 20 = .ok (.ireturn, 1) := by decide +kernel
theorem dL_reason_21 : decode cL_reason 21 = .ok (.astore 6, 2) := by decide +kernel
theorem dL_reason_23 : decode cL_reason 23 = .ok (.iconst 2, 1) := by decide +kernel
theorem dL_reason_24 : decode cL_reason 24 = .ok (.ireturn, 1) := by decide +kernel
theorem dL_reason_25 : decode cL_reason 25 = .ok (.astore 6, 2) := by decide +kernel
theorem dL_reason_27 : decode cL_reason 27 = .ok (.iconst 3, 1) := by decide +kernel
theorem dL_reason_28 : decode cL_reason 28 = .ok (.ireturn, 1) := by decide +kernel
theorem dL_reason_29 : decode cL_reason 29 = .ok (.astore 6, 2) := by decide +kernel
theorem dL_reason_31 : decode cL_reason 31 = .ok (.iconst 4, 1) := by decide +kernel
theorem dL_reason_32 : decode cL_reason 32 = .ok (.ireturn, 1) := by decide +kernel
theorem dL_reason_33 : decode cL_reason 33 = .ok (.iconst 0, 1) := by decide +kernel
theorem dL_reason_34 : decode cL_reason 34 = .ok (.ireturn, 1) := by decide +kernel
set_option maxRecDepth 20000 in
theorem ggL_share_X10_share : GoodIn wsL_share wsX10_share := goodIn_ca (goodIn_ca (goodIn_ca (goodIn_ca (goodIn_ca (goodIn_r _ [6, 7, 8, 9, 10, 11, 12, 5, 13, 14, 15, 16, 17, 18, 19, 20, 21, 22, 23, 24, 25, 26, 27, 28, 29, 30, 31, 32, 33, 34, 35, 36, 37, 38, 39, 40, 41, 42, 43, 44, 45, 46, 47, 48, 49, 50, 51, 52, 53, 54, 55, 56, 57, 58, 59, 60, 61, 62, 63, 64, 65, 66, 67, 68, 69, 70, 71, 72, 73, 74, 75, 76, 77, 78, 79, 80, 81, 82, 83, 84, 85, 86, 87, 88, 89, 90, 91, 92, 93, 94, 95, 96, 97, 98, 99, 100, 101, 102, 103, 104, 105, 106, 107, 108, 109, 110, 111, 112, 113, 114, 115, 116, 117, 118, 119, 120, 121, 122, 123, 124, 125, 126, 127] (by decide +kernel) (by decide +kernel)) (goodIn_sub (fun _ h => List.mem_cons_of_mem _ (List.mem_append_left _ (List.mem_append_left _ (List.mem_append_left _ (List.mem_append_right _ h))))) (by decide +kernel))) (goodIn_sub (fun _ h => List.mem_cons_of_mem _ (List.mem_append_left _ (List.mem_append_left _ (List.mem_append_right _ h)))) (by decide +kernel))) (goodIn_sub (fun _ h => List.mem_cons_of_mem _ (List.mem_append_left _ (List.mem_append_right _ h))) (by decide +kernel))) (goodIn_sub (fun _ h => List.mem_cons_of_mem _ (List.mem_append_right _ h)) (by decide +kernel))) (goodIn_sub (fun _ h => List.mem_cons_of_mem _ (List.mem_append_left _ (List.mem_append_left _ (List.mem_append_left _ (List.mem_append_left _ (List.mem_append_right _ h)))))) (by decide +kernel))
set_option maxRecDepth 20000 in
theorem gL_share_X10_share : GoodIn wsL_share (wsV RL 103 RX10 yX10_share wsX10_share) := goodIn_app (goodIn_of _ (by decide +kernel)) ggL_share_X10_share
theorem dL_share_0 : decode cL_share 0 = .ok (.aload 4, 2) := by decide +kernel
theorem dL_share_2 : decode cL_share 2 = .ok (.iconst 0, 1) := by decide +kernel
theorem dL_share_3 : decode cL_share 3 = .ok (.aload_n 0, 1) := by decide +kernel
theorem dL_share_4 : decode cL_share 4 = .ok (.iload_n 1, 1) := by decide +kernel
theorem dL_share_5 : decode cL_share 5 = .ok (.iload_n 2, 1) := by decide +kernel
theorem dL_share_6 : decode cL_share 6 = .ok (.iload_n 3, 1) := by decide +kernel
theorem dL_share_7 : decode cL_share 7 = .ok (.invokevirtual 103, 3) := by decide +kernel
theorem dL_share_10 : decode cL_share 10 = .ok (.f2d, 1) := by decide +kernel
theorem dL_share_11 : decode cL_share 11 = .ok (.dastore, 1) := by decide +kernel
theorem dL_share_12 : decode cL_share 12 = .ok (.goto 19, 3) := by decide +kernel
theorem dL_share_15 : decode cL_share 15 = .ok (.astore 5, 2) := by decide +kernel
theorem dL_share_17 : decode cL_share 17 = .ok (.iconst 1, 1) := by decide +kernel
theorem dL_share_18 : decode cL_share 18 = .ok (.ireturn, 1) := by decide +kernel
theorem dL_share_19 : decode cL_share 19 = .ok (.astore 5, 2) := by decide +kernel
theorem dL_share_21 : decode cL_share 21 = .ok (.iconst 2, 1) := by decide +kernel
theorem dL_share_22 : decode cL_share 22 = .ok (.ireturn, 1) := by decide +kernel
theorem dL_share_23 : decode cL_share 23 = .ok (.astore 5, 2) := by decide +kernel
theorem dL_share_25 : decode cL_share 25 = .ok (.iconst 3, 1) := by decide +kernel
theorem dL_share_26 : decode cL_share 26 = .ok (.ireturn, 1) := by decide +kernel
theorem dL_share_27 : decode cL_share 27 = .ok (.astore 5, 2) := by decide +kernel
theorem dL_share_29 : decode cL_share 29 = .ok (.iconst 4, 1) := by decide +kernel
theorem dL_share_30 : decode cL_share 30 = .ok (.ireturn, 1) := by decide +kernel
theorem dL_share_31 : decode cL_share 31 = .ok (.iconst 0, 1) := by decide +kernel
theorem dL_share_32 : decode cL_share 32 = .ok (.ireturn, 1) := by decide +kernel
set_option maxRecDepth 20000 in
theorem ggL_commonest_X10_commonest : GoodIn wsL_commonest wsX10_commonest := goodIn_ca (goodIn_ca (goodIn_ca (goodIn_r _ [6, 7, 8, 9, 10, 11, 12, 13, 5, 14, 15, 16, 17, 18, 19, 20, 21, 22, 23, 24, 25, 26, 27, 28, 29, 30, 31, 32, 33, 34, 35, 36, 37, 38, 39, 40, 41, 42, 43, 44, 45, 46, 47, 48, 49, 50, 51, 52, 53, 54, 55, 56, 57, 58, 59, 60, 61, 62, 63, 64, 65, 66, 67, 68, 69, 70, 71, 72, 73, 74, 75, 76, 77, 78, 79, 80, 81, 82, 83, 84, 85, 86, 87, 88, 89, 90, 91, 92, 93, 94, 95, 96, 97, 98, 99] (by decide +kernel) (by decide +kernel)) (goodIn_sub (fun _ h => List.mem_cons_of_mem _ (List.mem_append_left _ (List.mem_append_right _ h))) (by decide +kernel))) (goodIn_sub (fun _ h => List.mem_cons_of_mem _ (List.mem_append_right _ h)) (by decide +kernel))) (goodIn_sub (fun _ h => List.mem_cons_of_mem _ (List.mem_append_left _ (List.mem_append_left _ (List.mem_append_right _ h)))) (by decide +kernel))
set_option maxRecDepth 20000 in
theorem gL_commonest_X10_commonest : GoodIn wsL_commonest (wsV RL 109 RX10 yX10_commonest wsX10_commonest) := goodIn_app (goodIn_of _ (by decide +kernel)) ggL_commonest_X10_commonest
theorem dL_commonest_0 : decode cL_commonest 0 = .ok (.aload_n 1, 1) := by decide +kernel
theorem dL_commonest_1 : decode cL_commonest 1 = .ok (.iconst 0, 1) := by decide +kernel
theorem dL_commonest_2 : decode cL_commonest 2 = .ok (.aload_n 0, 1) := by decide +kernel
theorem dL_commonest_3 : decode cL_commonest 3 = .ok (.invokevirtual 109, 3) := by decide +kernel
theorem dL_commonest_6 : decode cL_commonest 6 = .ok (.i2l, 1) := by decide +kernel
theorem dL_commonest_7 : decode cL_commonest 7 = .ok (.lastore, 1) := by decide +kernel
theorem dL_commonest_8 : decode cL_commonest 8 = .ok (.goto 9, 3) := by decide +kernel
theorem dL_commonest_11 : decode cL_commonest 11 = .ok (.astore_n 2, 1) := by decide +kernel
theorem dL_commonest_12 : decode cL_commonest 12 = .ok (.iconst 1, 1) := by decide +kernel
theorem dL_commonest_13 : decode cL_commonest 13 = .ok (.ireturn, 1) := by decide +kernel
theorem dL_commonest_14 : decode cL_commonest 14 = .ok (.astore_n 2, 1) := by decide +kernel
theorem dL_commonest_15 : decode cL_commonest 15 = .ok (.iconst 2, 1) := by decide +kernel
theorem dL_commonest_16 : decode cL_commonest 16 = .ok (.ireturn, 1) := by decide +kernel
theorem dL_commonest_17 : decode cL_commonest 17 = .ok (.iconst 0, 1) := by decide +kernel
theorem dL_commonest_18 : decode cL_commonest 18 = .ok (.ireturn, 1) := by decide +kernel
set_option maxRecDepth 20000 in
theorem ggL_meanSize_X10_meanSize : GoodIn wsL_meanSize wsX10_meanSize := goodIn_ca (goodIn_ca (goodIn_ca (goodIn_r _ [6, 7, 8, 9, 10, 11, 12, 13, 5, 14, 15, 16, 17, 18, 19, 20, 21, 22, 23, 24, 25, 26, 27, 28, 29, 30, 31, 32, 33, 34, 35, 36, 37, 38, 39, 40, 41, 42, 43, 44, 45, 46, 47, 48, 49, 50, 51, 52, 53, 54, 55, 56, 57, 58, 59, 60, 61, 62, 63, 64, 65, 66, 67, 68, 69, 70, 71, 72, 73, 74, 75, 76, 77, 78, 79, 80, 81, 82, 83, 84, 85, 86, 87, 88, 89, 90, 91, 92, 93, 94, 95, 96, 97] (by decide +kernel) (by decide +kernel)) (goodIn_sub (fun _ h => List.mem_cons_of_mem _ (List.mem_append_left _ (List.mem_append_right _ h))) (by decide +kernel))) (goodIn_sub (fun _ h => List.mem_cons_of_mem _ (List.mem_append_right _ h)) (by decide +kernel))) (goodIn_sub (fun _ h => List.mem_cons_of_mem _ (List.mem_append_left _ (List.mem_append_left _ (List.mem_append_right _ h)))) (by decide +kernel))
set_option maxRecDepth 20000 in
theorem gL_meanSize_X10_meanSize : GoodIn wsL_meanSize (wsV RL 112 RX10 yX10_meanSize wsX10_meanSize) := goodIn_app (goodIn_of _ (by decide +kernel)) ggL_meanSize_X10_meanSize
theorem dL_meanSize_0 : decode cL_meanSize 0 = .ok (.aload_n 1, 1) := by decide +kernel
theorem dL_meanSize_1 : decode cL_meanSize 1 = .ok (.iconst 0, 1) := by decide +kernel
theorem dL_meanSize_2 : decode cL_meanSize 2 = .ok (.aload_n 0, 1) := by decide +kernel
theorem dL_meanSize_3 : decode cL_meanSize 3 = .ok (.invokevirtual 112, 3) := by decide +kernel
theorem dL_meanSize_6 : decode cL_meanSize 6 = .ok (.dastore, 1) := by decide +kernel
theorem dL_meanSize_7 : decode cL_meanSize 7 = .ok (.goto 9, 3) := by decide +kernel
theorem dL_meanSize_10 : decode cL_meanSize 10 = .ok (.astore_n 2, 1) := by decide +kernel
theorem dL_meanSize_11 : decode cL_meanSize 11 = .ok (.iconst 1, 1) := by decide +kernel
theorem dL_meanSize_12 : decode cL_meanSize 12 = .ok (.ireturn, 1) := by decide +kernel
theorem dL_meanSize_13 : decode cL_meanSize 13 = .ok (.astore_n 2, 1) := by decide +kernel
theorem dL_meanSize_14 : decode cL_meanSize 14 = .ok (.iconst 2, 1) := by decide +kernel
theorem dL_meanSize_15 : decode cL_meanSize 15 = .ok (.ireturn, 1) := by decide +kernel
theorem dL_meanSize_16 : decode cL_meanSize 16 = .ok (.iconst 0, 1) := by decide +kernel
theorem dL_meanSize_17 : decode cL_meanSize 17 = .ok (.ireturn, 1) := by decide +kernel
set_option maxHeartbeats 4000000 in
set_option maxRecDepth 100000 in
theorem k_L_addPredicate (l : Launch) (hl9 : l.stackTraces = false) (D : va_G) (ty : Nat → ClassId) (td sz : Nat) (x0 : Nat) (x1 : Nat) (x8 : Nat) (x20 : Nat) (x39 : Nat) (x41 : Nat) (x43 : Nat) (x45 : Nat) (x2 : Nat) (x3 : Nat) (x4 : Nat) (x5 : Nat) (x6 : Nat) (x7 : Nat) (x9 : Nat) (x10 : Nat) (x12 : Nat) (x14 : Nat) (x15 : Nat) (x16 : Nat) (x17 : Nat) (x18 : Nat) (x19 : Nat) (x21 : Nat) (x28 : Nat) (x35 : Nat) (x36 : Nat) (x37 : Nat) (x38 : Nat) (x46 : Nat) (x47 : Nat) (o1 : Nat) (k1 : Int32) : vx_Met l yL_addPredicate wsL_addPredicate { frames := 7, cells := 1, slots := 6, locals := 103 } (va_Pc [.ref x0, .int k1, .ref o1] (wq_P D ty td [(x0, .inr (15, [.ref x1, .ref x8, .ref x20, .ref x39, .ref x41, .ref x43, .ref x45])), (x1, .inr (11, [.ref x2, .int 0, .ref x3, .int 0, .ref x4, .ref x5, .int 1, .ref x6, .ref x7, .int 0])), (x2, .inl (ty 0, 6, .inl (fun _ => 0))), (x8, .inr (8, [.ref x1, .ref x9, .ref x10, .ref x12, .ref x14, .int 0, .ref x15, .ref x16, .ref x17, .int 0, .ref x18, .ref x19, .int 0, .int 0, .int 0, .int 0])), (x20, .inr (14, [.ref x1, .ref x8, .ref x21, .ref x28, .ref x35, .int 0, .ref x36, .ref x37, .ref x38, .int 0, .int 0, .int 0, .int 0, .int 0, .int 0, .int 0, .int 0])), (x45, .inr (5, [.ref x46, .ref x47, .int 0, .int 0])), (o1, .inl (ty 1, 1, .inr (.inl (fun _ => 0))))] sz)) (va_Qi (fun (r : Int32) (u : va_W) => (r = 1 ∧ (k1 < 0) ∧ (u = [(o1, .inl (ty 1, 1, .inr (.inl (fun _ => 0))))])) ∨ (r = 1 ∧ (¬ (k1 < 0)) ∧ (¬ (k1 ≤ 2)) ∧ (u = [(o1, .inl (ty 1, 1, .inr (.inl (fun _ => 0))))])) ∨ (r = 0 ∧ (¬ (k1 < 0)) ∧ (k1 ≤ 2) ∧ (u = [(o1, .inl (ty 1, 1, .inr (.inl (fun _ => 0))))]))) (wq_B D (va_A [(x0, .inr (15, [.ref x1, .ref x8, .ref x20, .ref x39, .ref x41, .ref x43, .ref x45])), (x1, .inr (11, [.ref x2, .int 0, .ref x3, .int 0, .ref x4, .ref x5, .int 1, .ref x6, .ref x7, .int 0])), (x2, .inl (ty 0, 6, .inl (fun _ => 0))), (x8, .inr (8, [.ref x1, .ref x9, .ref x10, .ref x12, .ref x14, .int 0, .ref x15, .ref x16, .ref x17, .int 0, .ref x18, .ref x19, .int 0, .int 0, .int 0, .int 0])), (x20, .inr (14, [.ref x1, .ref x8, .ref x21, .ref x28, .ref x35, .int 0, .ref x36, .ref x37, .ref x38, .int 0, .int 0, .int 0, .int 0, .int 0, .int 0, .int 0, .int 0])), (x45, .inr (5, [.ref x46, .ref x47, .int 0, .int 0])), (o1, .inl (ty 1, 1, .inr (.inl (fun _ => 0))))] sz)) (va_A [(x0, .inr (15, [.ref x1, .ref x8, .ref x20, .ref x39, .ref x41, .ref x43, .ref x45])), (x1, .inr (11, [.ref x2, .int 0, .ref x3, .int 0, .ref x4, .ref x5, .int 1, .ref x6, .ref x7, .int 0])), (x2, .inl (ty 0, 6, .inl (fun _ => 0))), (x8, .inr (8, [.ref x1, .ref x9, .ref x10, .ref x12, .ref x14, .int 0, .ref x15, .ref x16, .ref x17, .int 0, .ref x18, .ref x19, .int 0, .int 0, .int 0, .int 0])), (x20, .inr (14, [.ref x1, .ref x8, .ref x21, .ref x28, .ref x35, .int 0, .ref x36, .ref x37, .ref x38, .int 0, .int 0, .int 0, .int 0, .int 0, .int 0, .int 0, .int 0])), (x45, .inr (5, [.ref x46, .ref x47, .int 0, .int 0])), (o1, .inl (ty 1, 1, .inr (.inl (fun _ => 0))))] sz)) (vx_X (fun u : String × va_W => False) (wq_BX D (va_A [(x0, .inr (15, [.ref x1, .ref x8, .ref x20, .ref x39, .ref x41, .ref x43, .ref x45])), (x1, .inr (11, [.ref x2, .int 0, .ref x3, .int 0, .ref x4, .ref x5, .int 1, .ref x6, .ref x7, .int 0])), (x2, .inl (ty 0, 6, .inl (fun _ => 0))), (x8, .inr (8, [.ref x1, .ref x9, .ref x10, .ref x12, .ref x14, .int 0, .ref x15, .ref x16, .ref x17, .int 0, .ref x18, .ref x19, .int 0, .int 0, .int 0, .int 0])), (x20, .inr (14, [.ref x1, .ref x8, .ref x21, .ref x28, .ref x35, .int 0, .ref x36, .ref x37, .ref x38, .int 0, .int 0, .int 0, .int 0, .int 0, .int 0, .int 0, .int 0])), (x45, .inr (5, [.ref x46, .ref x47, .int 0, .int 0])), (o1, .inl (ty 1, 1, .inr (.inl (fun _ => 0))))] sz)) (va_A [(x0, .inr (15, [.ref x1, .ref x8, .ref x20, .ref x39, .ref x41, .ref x43, .ref x45])), (x1, .inr (11, [.ref x2, .int 0, .ref x3, .int 0, .ref x4, .ref x5, .int 1, .ref x6, .ref x7, .int 0])), (x2, .inl (ty 0, 6, .inl (fun _ => 0))), (x8, .inr (8, [.ref x1, .ref x9, .ref x10, .ref x12, .ref x14, .int 0, .ref x15, .ref x16, .ref x17, .int 0, .ref x18, .ref x19, .int 0, .int 0, .int 0, .int 0])), (x20, .inr (14, [.ref x1, .ref x8, .ref x21, .ref x28, .ref x35, .int 0, .ref x36, .ref x37, .ref x38, .int 0, .int 0, .int 0, .int 0, .int 0, .int 0, .int 0, .int 0])), (x45, .inr (5, [.ref x46, .ref x47, .int 0, .int 0])), (o1, .inl (ty 1, 1, .inr (.inl (fun _ => 0))))] sz)) 1 6 (va_A [(x0, .inr (15, [.ref x1, .ref x8, .ref x20, .ref x39, .ref x41, .ref x43, .ref x45])), (x1, .inr (11, [.ref x2, .int 0, .ref x3, .int 0, .ref x4, .ref x5, .int 1, .ref x6, .ref x7, .int 0])), (x2, .inl (ty 0, 6, .inl (fun _ => 0))), (x8, .inr (8, [.ref x1, .ref x9, .ref x10, .ref x12, .ref x14, .int 0, .ref x15, .ref x16, .ref x17, .int 0, .ref x18, .ref x19, .int 0, .int 0, .int 0, .int 0])), (x20, .inr (14, [.ref x1, .ref x8, .ref x21, .ref x28, .ref x35, .int 0, .ref x36, .ref x37, .ref x38, .int 0, .int 0, .int 0, .int 0, .int 0, .int 0, .int 0, .int 0])), (x45, .inr (5, [.ref x46, .ref x47, .int 0, .int 0])), (o1, .inl (ty 1, 1, .inr (.inl (fun _ => 0))))] sz) := by
  refine vx_ofWH (cc := cL_addPredicate) (maxL := 4) (ret := (some .int)) (hh := [(0, 9, 12, 13), (0, 9, 15, 15)]) (by decide) rfl ?_
  intro p e s m args below meth c s₁ B hml hv
  obtain ⟨rfl, hsz, hP, hK, hD0, hE⟩ := hv
  have hx := B.exec
  have hb := B.bytes
  have hr := B.returns
  have hts := atoms_spec (ws := wsL_addPredicate) B.pre
  have hown : s.vm.findClass RL = some m.cls := findClass_of_methodNamed B.named
  have hlocks := B.notSynchronized
  have hTab := vx_table B (hts _ List.mem_cons_self)
  subst hsz
  have hD := hD0.self (sz := s.heap.size)
  generalize hAe : va_A [(x0, .inr (15, [.ref x1, .ref x8, .ref x20, .ref x39, .ref x41, .ref x43, .ref x45])), (x1, .inr (11, [.ref x2, .int 0, .ref x3, .int 0, .ref x4, .ref x5, .int 1, .ref x6, .ref x7, .int 0])), (x2, .inl (ty 0, 6, .inl (fun _ => 0))), (x8, .inr (8, [.ref x1, .ref x9, .ref x10, .ref x12, .ref x14, .int 0, .ref x15, .ref x16, .ref x17, .int 0, .ref x18, .ref x19, .int 0, .int 0, .int 0, .int 0])), (x20, .inr (14, [.ref x1, .ref x8, .ref x21, .ref x28, .ref x35, .int 0, .ref x36, .ref x37, .ref x38, .int 0, .int 0, .int 0, .int 0, .int 0, .int 0, .int 0, .int 0])), (x45, .inr (5, [.ref x46, .ref x47, .int 0, .int 0])), (o1, .inl (ty 1, 1, .inr (.inl (fun _ => 0))))] s.heap.size = A at hD hE ⊢
  have hA : ∀ q : Nat, s.heap.size ≤ q → A q := fun q h => by rw [← hAe]; exact Or.inr h
  have hS : va_S A s.heap s.heap [] := va_S.rf
  have hP : va_P D vwCl [(x0, .inr (15, [.ref x1, .ref x8, .ref x20, .ref x39, .ref x41, .ref x43, .ref x45])), (x1, .inr (11, [.ref x2, .int 0, .ref x3, .int 0, .ref x4, .ref x5, .int 1, .ref x6, .ref x7, .int 0])), (x2, .inl (ty 0, 6, .inl (fun _ => 0))), (x8, .inr (8, [.ref x1, .ref x9, .ref x10, .ref x12, .ref x14, .int 0, .ref x15, .ref x16, .ref x17, .int 0, .ref x18, .ref x19, .int 0, .int 0, .int 0, .int 0])), (x20, .inr (14, [.ref x1, .ref x8, .ref x21, .ref x28, .ref x35, .int 0, .ref x36, .ref x37, .ref x38, .int 0, .int 0, .int 0, .int 0, .int 0, .int 0, .int 0, .int 0])), (x45, .inr (5, [.ref x46, .ref x47, .int 0, .int 0])), (o1, .inl (ty 1, 1, .inr (.inl (fun _ => 0))))] s.heap := hP
  have hl := lv_entry ([.ref x0, .int k1, .ref o1]) (n := 4) (Nat.le_of_ble_eq_true rfl)
  rw [lg_entry_eq]
  generalize (lg_sl ([.ref x0, .int k1, .ref o1]) ++ List.replicate (4 - (lg_sl ([.ref x0, .int k1, .ref o1])).length) Slot.unset).toArray = ls at hl ⊢
  have hl : lv_has ls 4 [(0, .ref x0), (1, .int k1), (2, .ref o1)] := hl
  refine lv_aload_n hx hb dL_addPredicate_0 rfl (lv_at hl 2 rfl) ?_
  refine lv_iconst (v := 0) hx hb dL_addPredicate_1 (by decide) ?_
  refine lv_aload_n hx hb dL_addPredicate_2 rfl (lv_at hl 0 rfl) ?_
  refine lv_iload_n hx hb dL_addPredicate_3 rfl (lv_at hl 1 rfl) ?_
  refine wq_xi (wc := [(x0, .inr (15, [.ref x1, .ref x8, .ref x20, .ref x39, .ref x41, .ref x43, .ref x45])), (x1, .inr (11, [.ref x2, .int 0, .ref x3, .int 0, .ref x4, .ref x5, .int 1, .ref x6, .ref x7, .int 0])), (x2, .inl (ty 0, 6, .inl (fun _ => 0))), (x8, .inr (8, [.ref x1, .ref x9, .ref x10, .ref x12, .ref x14, .int 0, .ref x15, .ref x16, .ref x17, .int 0, .ref x18, .ref x19, .int 0, .int 0, .int 0, .int 0])), (x20, .inr (14, [.ref x1, .ref x8, .ref x21, .ref x28, .ref x35, .int 0, .ref x36, .ref x37, .ref x38, .int 0, .int 0, .int 0, .int 0, .int 0, .int 0, .int 0, .int 0])), (x45, .inr (5, [.ref x46, .ref x47, .int 0, .int 0]))]) (wr := [(o1, .inl (ty 1, 1, .inr (.inl (fun _ => 0))))]) (vx_runV (As := [.int k1]) (rest := [.int 0, .ref o1]) ⟨hx, hb, hml, hown, hts⟩ (k_X10_addPredicate l hl9 D ty td s.heap.size x0 x1 x8 x20 x39 x41 x43 x45 x2 x3 x4 x5 x6 x7 x9 x10 x12 x14 x15 x16 x17 x18 x19 x21 x28 x35 x36 x37 x38 x46 x47 k1) (cwV 1 hts gL_addPredicate_X10_addPredicate rfl rfl rfl (by decide +kernel) ⟨(Nat.le_of_ble_eq_true rfl), (Nat.le_of_ble_eq_true rfl)⟩) (wq_preV hP hD hK hE hS hA [0, 1, 2, 3, 4, 5] rfl (by decide) 0 15 rfl rfl) rfl rfl hl.1 rfl (lv_room (Nat.le_of_ble_eq_true rfl)) dL_addPredicate_4 ⟨(Nat.le_of_ble_eq_true rfl), (Nat.le_of_ble_eq_true rfl)⟩) hS hA hP hD [0, 1, 2, 3, 4, 5] [6] rfl rfl (by decide) (by decide) (fun E9 u H locs q9 ce hw hP hD hS hce hcv hcl => ?_) (fun r u H locs hw hP hD hS => ?_)
  · rcases hw with ⟨hEq, c_1⟩ | ⟨hEq, c_2, c_3⟩
    · cases hEq
      have hP : va_P D vwCl [(o1, .inl (ty 1, 1, .inr (.inl (fun _ => 0))))] H := hP
      have hD : va_D A [(o1, .inl (ty 1, 1, .inr (.inl (fun _ => 0))))] := hD
      refine vx_widen (k := 1) (n := 6) (Nat.le_of_ble_eq_true rfl) (Nat.le_of_ble_eq_true rfl) ?_
      refine vx_catch (own := RL) (name := "java/lang/IllegalArgumentException") (E := "java/lang/IllegalArgumentException") hown [] ⟨0, 9, 12, 13⟩ [⟨0, 9, 15, 15⟩] (by rw [hTab]; rfl) (fun z hz => nomatch hz) (by decide) (by decide) (hts (.classLink RL 13 "java/lang/IllegalArgumentException") (by decide +kernel)) (va_Nw.use rfl (hE.ca "java/lang/IllegalArgumentException" "java/lang/IllegalArgumentException" (by decide +kernel))) hce hcv hcl ?_
      refine lv_astore_n (lv' := [(3, .ref q9), (0, .ref x0), (1, .int k1), (2, .ref o1)]) hx hb dL_addPredicate_12 rfl hl (by decide) rfl (fun ls hl => ?_)
      refine lv_iconst (v := 1) hx hb dL_addPredicate_13 (by decide) ?_
      have hP9 := hP.sub (ws' := [(o1, .inl (ty 1, 1, .inr (.inl (fun _ => 0))))]) [0] rfl
      have hD9 := hD.sub (ws' := [(o1, .inl (ty 1, 1, .inr (.inl (fun _ => 0))))]) [0] (by decide) rfl
      refine W.widen (k := 1) (n := 6) (Nat.le_of_ble_eq_true rfl) (Nat.le_of_ble_eq_true rfl) ?_
      refine vx_ret ?_
      exact W.iret (v := 1) hx hb hr (fun t ht hW => ⟨⟨1, [(o1, .inl (ty 1, 1, .inr (.inl (fun _ => 0))))], rfl, (Or.inl ⟨rfl, c_1, rfl⟩), wq_B.of ht hP9 hD9⟩, hS.F ht⟩) hS.2.2 dL_addPredicate_14
    · cases hEq
      have hP : va_P D vwCl [(o1, .inl (ty 1, 1, .inr (.inl (fun _ => 0))))] H := hP
      have hD : va_D A [(o1, .inl (ty 1, 1, .inr (.inl (fun _ => 0))))] := hD
      refine vx_widen (k := 1) (n := 6) (Nat.le_of_ble_eq_true rfl) (Nat.le_of_ble_eq_true rfl) ?_
      refine vx_catch (own := RL) (name := "java/lang/IllegalArgumentException") (E := "java/lang/IllegalArgumentException") hown [] ⟨0, 9, 12, 13⟩ [⟨0, 9, 15, 15⟩] (by rw [hTab]; rfl) (fun z hz => nomatch hz) (by decide) (by decide) (hts (.classLink RL 13 "java/lang/IllegalArgumentException") (by decide +kernel)) (va_Nw.use rfl (hE.ca "java/lang/IllegalArgumentException" "java/lang/IllegalArgumentException" (by decide +kernel))) hce hcv hcl ?_
      refine lv_astore_n (lv' := [(3, .ref q9), (0, .ref x0), (1, .int k1), (2, .ref o1)]) hx hb dL_addPredicate_12 rfl hl (by decide) rfl (fun ls hl => ?_)
      refine lv_iconst (v := 1) hx hb dL_addPredicate_13 (by decide) ?_
      have hP9 := hP.sub (ws' := [(o1, .inl (ty 1, 1, .inr (.inl (fun _ => 0))))]) [0] rfl
      have hD9 := hD.sub (ws' := [(o1, .inl (ty 1, 1, .inr (.inl (fun _ => 0))))]) [0] (by decide) rfl
      refine W.widen (k := 1) (n := 6) (Nat.le_of_ble_eq_true rfl) (Nat.le_of_ble_eq_true rfl) ?_
      refine vx_ret ?_
      exact W.iret (v := 1) hx hb hr (fun t ht hW => ⟨⟨1, [(o1, .inl (ty 1, 1, .inr (.inl (fun _ => 0))))], rfl, (Or.inr (Or.inl ⟨rfl, c_2, c_3, rfl⟩)), wq_B.of ht hP9 hD9⟩, hS.F ht⟩) hS.2.2 dL_addPredicate_14
  · obtain ⟨rfl, c_4, c_5, rfl⟩ := hw
    have hP : va_P D vwCl [(o1, .inl (ty 1, 1, .inr (.inl (fun _ => 0))))] H := hP
    have hD : va_D A [(o1, .inl (ty 1, 1, .inr (.inl (fun _ => 0))))] := hD
    refine W.widen (k := 1) (n := 6) (Nat.le_of_ble_eq_true rfl) (Nat.le_of_ble_eq_true rfl) ?_
    refine lv_i2l (v := 0) hx hb dL_addPredicate_7 (by decide) ?_
    refine va_last (D := D) hx hb hK hP hD hS 0 1 rfl rfl (vp_in_iff.mpr (by decide)) dL_addPredicate_8 (fun H locs hP hD hS => ?_)
    rw [wq_updL0] at hP hD
    have hP : va_P D vwCl [(o1, .inl (ty 1, 1, .inr (.inl (fun _ => 0))))] H := hP
    have hD : va_D A [(o1, .inl (ty 1, 1, .inr (.inl (fun _ => 0))))] := hD
    refine lv_goto (tgt := 18) hx hb dL_addPredicate_9 (by decide) ?_
    refine lv_iconst (v := 0) hx hb dL_addPredicate_18 (by decide) ?_
    have hP9 := hP.sub (ws' := [(o1, .inl (ty 1, 1, .inr (.inl (fun _ => 0))))]) [0] rfl
    have hD9 := hD.sub (ws' := [(o1, .inl (ty 1, 1, .inr (.inl (fun _ => 0))))]) [0] (by decide) rfl
    refine W.widen (k := 1) (n := 6) (Nat.le_of_ble_eq_true rfl) (Nat.le_of_ble_eq_true rfl) ?_
    refine vx_ret ?_
    exact W.iret (v := 0) hx hb hr (fun t ht hW => ⟨⟨0, [(o1, .inl (ty 1, 1, .inr (.inl (fun _ => 0))))], rfl, (Or.inr (Or.inr ⟨rfl, c_4, c_5, rfl⟩)), wq_B.of ht hP9 hD9⟩, hS.F ht⟩) hS.2.2 dL_addPredicate_19
set_option maxHeartbeats 4000000 in
set_option maxRecDepth 100000 in
theorem k_L_addDisjunction (l : Launch) (hl9 : l.stackTraces = false) (D : va_G) (ty : Nat → ClassId) (td sz : Nat) (x0 : Nat) (x1 : Nat) (x8 : Nat) (x20 : Nat) (x39 : Nat) (x41 : Nat) (x43 : Nat) (x45 : Nat) (x2 : Nat) (x3 : Nat) (x4 : Nat) (x5 : Nat) (x6 : Nat) (x7 : Nat) (x9 : Nat) (x10 : Nat) (x12 : Nat) (x14 : Nat) (x15 : Nat) (x16 : Nat) (x17 : Nat) (x18 : Nat) (x19 : Nat) (x21 : Nat) (x28 : Nat) (x35 : Nat) (x36 : Nat) (x37 : Nat) (x38 : Nat) (x46 : Nat) (x47 : Nat) (o1 : Nat) (k1 : Int32) : vx_Met l yL_addDisjunction wsL_addDisjunction { frames := 8, cells := 4, slots := 24, locals := 124 } (va_Pc [.ref x0, .int k1, .ref o1] (wq_P D ty td [(x0, .inr (15, [.ref x1, .ref x8, .ref x20, .ref x39, .ref x41, .ref x43, .ref x45])), (x1, .inr (11, [.ref x2, .int 0, .ref x3, .int 0, .ref x4, .ref x5, .int 1, .ref x6, .ref x7, .int 0])), (x3, .inl (ty 4, 20, .inr (.inr (.inr (.inr (fun _ => none)))))), (x8, .inr (8, [.ref x1, .ref x9, .ref x10, .ref x12, .ref x14, .int 0, .ref x15, .ref x16, .ref x17, .int 0, .ref x18, .ref x19, .int 0, .int 0, .int 0, .int 0])), (x20, .inr (14, [.ref x1, .ref x8, .ref x21, .ref x28, .ref x35, .int 0, .ref x36, .ref x37, .ref x38, .int 0, .int 0, .int 0, .int 0, .int 0, .int 0, .int 0, .int 0])), (x45, .inr (5, [.ref x46, .ref x47, .int 0, .int 0])), (o1, .inl (ty 1, 1, .inr (.inl (fun _ => 0))))] sz)) (va_Qi (fun (r : Int32) (u : va_W) => (r = 1 ∧ (k1 < 0) ∧ (u = [(o1, .inl (ty 1, 1, .inr (.inl (fun _ => 0))))])) ∨ (r = 1 ∧ (¬ (k1 < 0)) ∧ (¬ (k1 ≤ 3)) ∧ (u = [(o1, .inl (ty 1, 1, .inr (.inl (fun _ => 0))))])) ∨ (r = 0 ∧ (¬ (k1 < 0)) ∧ (k1 ≤ 3) ∧ (u = [(o1, .inl (ty 1, 1, .inr (.inl (fun _ => 0))))]))) (wq_B D (va_A [(x0, .inr (15, [.ref x1, .ref x8, .ref x20, .ref x39, .ref x41, .ref x43, .ref x45])), (x1, .inr (11, [.ref x2, .int 0, .ref x3, .int 0, .ref x4, .ref x5, .int 1, .ref x6, .ref x7, .int 0])), (x3, .inl (ty 4, 20, .inr (.inr (.inr (.inr (fun _ => none)))))), (x8, .inr (8, [.ref x1, .ref x9, .ref x10, .ref x12, .ref x14, .int 0, .ref x15, .ref x16, .ref x17, .int 0, .ref x18, .ref x19, .int 0, .int 0, .int 0, .int 0])), (x20, .inr (14, [.ref x1, .ref x8, .ref x21, .ref x28, .ref x35, .int 0, .ref x36, .ref x37, .ref x38, .int 0, .int 0, .int 0, .int 0, .int 0, .int 0, .int 0, .int 0])), (x45, .inr (5, [.ref x46, .ref x47, .int 0, .int 0])), (o1, .inl (ty 1, 1, .inr (.inl (fun _ => 0))))] sz)) (va_A [(x0, .inr (15, [.ref x1, .ref x8, .ref x20, .ref x39, .ref x41, .ref x43, .ref x45])), (x1, .inr (11, [.ref x2, .int 0, .ref x3, .int 0, .ref x4, .ref x5, .int 1, .ref x6, .ref x7, .int 0])), (x3, .inl (ty 4, 20, .inr (.inr (.inr (.inr (fun _ => none)))))), (x8, .inr (8, [.ref x1, .ref x9, .ref x10, .ref x12, .ref x14, .int 0, .ref x15, .ref x16, .ref x17, .int 0, .ref x18, .ref x19, .int 0, .int 0, .int 0, .int 0])), (x20, .inr (14, [.ref x1, .ref x8, .ref x21, .ref x28, .ref x35, .int 0, .ref x36, .ref x37, .ref x38, .int 0, .int 0, .int 0, .int 0, .int 0, .int 0, .int 0, .int 0])), (x45, .inr (5, [.ref x46, .ref x47, .int 0, .int 0])), (o1, .inl (ty 1, 1, .inr (.inl (fun _ => 0))))] sz)) (vx_X (fun u : String × va_W => False) (wq_BX D (va_A [(x0, .inr (15, [.ref x1, .ref x8, .ref x20, .ref x39, .ref x41, .ref x43, .ref x45])), (x1, .inr (11, [.ref x2, .int 0, .ref x3, .int 0, .ref x4, .ref x5, .int 1, .ref x6, .ref x7, .int 0])), (x3, .inl (ty 4, 20, .inr (.inr (.inr (.inr (fun _ => none)))))), (x8, .inr (8, [.ref x1, .ref x9, .ref x10, .ref x12, .ref x14, .int 0, .ref x15, .ref x16, .ref x17, .int 0, .ref x18, .ref x19, .int 0, .int 0, .int 0, .int 0])), (x20, .inr (14, [.ref x1, .ref x8, .ref x21, .ref x28, .ref x35, .int 0, .ref x36, .ref x37, .ref x38, .int 0, .int 0, .int 0, .int 0, .int 0, .int 0, .int 0, .int 0])), (x45, .inr (5, [.ref x46, .ref x47, .int 0, .int 0])), (o1, .inl (ty 1, 1, .inr (.inl (fun _ => 0))))] sz)) (va_A [(x0, .inr (15, [.ref x1, .ref x8, .ref x20, .ref x39, .ref x41, .ref x43, .ref x45])), (x1, .inr (11, [.ref x2, .int 0, .ref x3, .int 0, .ref x4, .ref x5, .int 1, .ref x6, .ref x7, .int 0])), (x3, .inl (ty 4, 20, .inr (.inr (.inr (.inr (fun _ => none)))))), (x8, .inr (8, [.ref x1, .ref x9, .ref x10, .ref x12, .ref x14, .int 0, .ref x15, .ref x16, .ref x17, .int 0, .ref x18, .ref x19, .int 0, .int 0, .int 0, .int 0])), (x20, .inr (14, [.ref x1, .ref x8, .ref x21, .ref x28, .ref x35, .int 0, .ref x36, .ref x37, .ref x38, .int 0, .int 0, .int 0, .int 0, .int 0, .int 0, .int 0, .int 0])), (x45, .inr (5, [.ref x46, .ref x47, .int 0, .int 0])), (o1, .inl (ty 1, 1, .inr (.inl (fun _ => 0))))] sz)) 4 24 (va_A [(x0, .inr (15, [.ref x1, .ref x8, .ref x20, .ref x39, .ref x41, .ref x43, .ref x45])), (x1, .inr (11, [.ref x2, .int 0, .ref x3, .int 0, .ref x4, .ref x5, .int 1, .ref x6, .ref x7, .int 0])), (x3, .inl (ty 4, 20, .inr (.inr (.inr (.inr (fun _ => none)))))), (x8, .inr (8, [.ref x1, .ref x9, .ref x10, .ref x12, .ref x14, .int 0, .ref x15, .ref x16, .ref x17, .int 0, .ref x18, .ref x19, .int 0, .int 0, .int 0, .int 0])), (x20, .inr (14, [.ref x1, .ref x8, .ref x21, .ref x28, .ref x35, .int 0, .ref x36, .ref x37, .ref x38, .int 0, .int 0, .int 0, .int 0, .int 0, .int 0, .int 0, .int 0])), (x45, .inr (5, [.ref x46, .ref x47, .int 0, .int 0])), (o1, .inl (ty 1, 1, .inr (.inl (fun _ => 0))))] sz) := by
  refine vx_ofWH (cc := cL_addDisjunction) (maxL := 4) (ret := (some .int)) (hh := [(0, 9, 12, 13), (0, 9, 15, 15)]) (by decide) rfl ?_
  intro p e s m args below meth c s₁ B hml hv
  obtain ⟨rfl, hsz, hP, hK, hD0, hE⟩ := hv
  have hx := B.exec
  have hb := B.bytes
  have hr := B.returns
  have hts := atoms_spec (ws := wsL_addDisjunction) B.pre
  have hown : s.vm.findClass RL = some m.cls := findClass_of_methodNamed B.named
  have hlocks := B.notSynchronized
  have hTab := vx_table B (hts _ List.mem_cons_self)
  subst hsz
  have hD := hD0.self (sz := s.heap.size)
  generalize hAe : va_A [(x0, .inr (15, [.ref x1, .ref x8, .ref x20, .ref x39, .ref x41, .ref x43, .ref x45])), (x1, .inr (11, [.ref x2, .int 0, .ref x3, .int 0, .ref x4, .ref x5, .int 1, .ref x6, .ref x7, .int 0])), (x3, .inl (ty 4, 20, .inr (.inr (.inr (.inr (fun _ => none)))))), (x8, .inr (8, [.ref x1, .ref x9, .ref x10, .ref x12, .ref x14, .int 0, .ref x15, .ref x16, .ref x17, .int 0, .ref x18, .ref x19, .int 0, .int 0, .int 0, .int 0])), (x20, .inr (14, [.ref x1, .ref x8, .ref x21, .ref x28, .ref x35, .int 0, .ref x36, .ref x37, .ref x38, .int 0, .int 0, .int 0, .int 0, .int 0, .int 0, .int 0, .int 0])), (x45, .inr (5, [.ref x46, .ref x47, .int 0, .int 0])), (o1, .inl (ty 1, 1, .inr (.inl (fun _ => 0))))] s.heap.size = A at hD hE ⊢
  have hA : ∀ q : Nat, s.heap.size ≤ q → A q := fun q h => by rw [← hAe]; exact Or.inr h
  have hS : va_S A s.heap s.heap [] := va_S.rf
  have hP : va_P D vwCl [(x0, .inr (15, [.ref x1, .ref x8, .ref x20, .ref x39, .ref x41, .ref x43, .ref x45])), (x1, .inr (11, [.ref x2, .int 0, .ref x3, .int 0, .ref x4, .ref x5, .int 1, .ref x6, .ref x7, .int 0])), (x3, .inl (ty 4, 20, .inr (.inr (.inr (.inr (fun _ => none)))))), (x8, .inr (8, [.ref x1, .ref x9, .ref x10, .ref x12, .ref x14, .int 0, .ref x15, .ref x16, .ref x17, .int 0, .ref x18, .ref x19, .int 0, .int 0, .int 0, .int 0])), (x20, .inr (14, [.ref x1, .ref x8, .ref x21, .ref x28, .ref x35, .int 0, .ref x36, .ref x37, .ref x38, .int 0, .int 0, .int 0, .int 0, .int 0, .int 0, .int 0, .int 0])), (x45, .inr (5, [.ref x46, .ref x47, .int 0, .int 0])), (o1, .inl (ty 1, 1, .inr (.inl (fun _ => 0))))] s.heap := hP
  have hl := lv_entry ([.ref x0, .int k1, .ref o1]) (n := 4) (Nat.le_of_ble_eq_true rfl)
  rw [lg_entry_eq]
  generalize (lg_sl ([.ref x0, .int k1, .ref o1]) ++ List.replicate (4 - (lg_sl ([.ref x0, .int k1, .ref o1])).length) Slot.unset).toArray = ls at hl ⊢
  have hl : lv_has ls 4 [(0, .ref x0), (1, .int k1), (2, .ref o1)] := hl
  refine lv_aload_n hx hb dL_addDisjunction_0 rfl (lv_at hl 2 rfl) ?_
  refine lv_iconst (v := 0) hx hb dL_addDisjunction_1 (by decide) ?_
  refine lv_aload_n hx hb dL_addDisjunction_2 rfl (lv_at hl 0 rfl) ?_
  refine lv_iload_n hx hb dL_addDisjunction_3 rfl (lv_at hl 1 rfl) ?_
  refine wq_xi (wc := [(x0, .inr (15, [.ref x1, .ref x8, .ref x20, .ref x39, .ref x41, .ref x43, .ref x45])), (x1, .inr (11, [.ref x2, .int 0, .ref x3, .int 0, .ref x4, .ref x5, .int 1, .ref x6, .ref x7, .int 0])), (x3, .inl (ty 4, 20, .inr (.inr (.inr (.inr (fun _ => none)))))), (x8, .inr (8, [.ref x1, .ref x9, .ref x10, .ref x12, .ref x14, .int 0, .ref x15, .ref x16, .ref x17, .int 0, .ref x18, .ref x19, .int 0, .int 0, .int 0, .int 0])), (x20, .inr (14, [.ref x1, .ref x8, .ref x21, .ref x28, .ref x35, .int 0, .ref x36, .ref x37, .ref x38, .int 0, .int 0, .int 0, .int 0, .int 0, .int 0, .int 0, .int 0])), (x45, .inr (5, [.ref x46, .ref x47, .int 0, .int 0]))]) (wr := [(o1, .inl (ty 1, 1, .inr (.inl (fun _ => 0))))]) (vx_runV (As := [.int k1]) (rest := [.int 0, .ref o1]) ⟨hx, hb, hml, hown, hts⟩ (k_X10_addDisjunction l hl9 D ty td s.heap.size x0 x1 x8 x20 x39 x41 x43 x45 x2 x3 x4 x5 x6 x7 x9 x10 x12 x14 x15 x16 x17 x18 x19 x21 x28 x35 x36 x37 x38 x46 x47 k1) (cwV 1 hts gL_addDisjunction_X10_addDisjunction rfl rfl rfl (by decide +kernel) ⟨(Nat.le_of_ble_eq_true rfl), (Nat.le_of_ble_eq_true rfl)⟩) (wq_preV hP hD hK hE hS hA [0, 1, 2, 3, 4, 5] rfl (by decide) 0 15 rfl rfl) rfl rfl hl.1 rfl (lv_room (Nat.le_of_ble_eq_true rfl)) dL_addDisjunction_4 ⟨(Nat.le_of_ble_eq_true rfl), (Nat.le_of_ble_eq_true rfl)⟩) hS hA hP hD [0, 1, 2, 3, 4, 5] [6] rfl rfl (by decide) (by decide) (fun E9 u H locs q9 ce hw hP hD hS hce hcv hcl => ?_) (fun r u H locs hw hP hD hS => ?_)
  · rcases hw with ⟨hEq, c_1⟩ | ⟨hEq, c_2, c_3⟩
    · cases hEq
      have hP : va_P D vwCl [(o1, .inl (ty 1, 1, .inr (.inl (fun _ => 0))))] H := hP
      have hD : va_D A [(o1, .inl (ty 1, 1, .inr (.inl (fun _ => 0))))] := hD
      refine vx_widen (k := 4) (n := 24) (Nat.le_of_ble_eq_true rfl) (Nat.le_of_ble_eq_true rfl) ?_
      refine vx_catch (own := RL) (name := "java/lang/IllegalArgumentException") (E := "java/lang/IllegalArgumentException") hown [] ⟨0, 9, 12, 13⟩ [⟨0, 9, 15, 15⟩] (by rw [hTab]; rfl) (fun z hz => nomatch hz) (by decide) (by decide) (hts (.classLink RL 13 "java/lang/IllegalArgumentException") (by decide +kernel)) (va_Nw.use rfl (hE.ca "java/lang/IllegalArgumentException" "java/lang/IllegalArgumentException" (by decide +kernel))) hce hcv hcl ?_
      refine lv_astore_n (lv' := [(3, .ref q9), (0, .ref x0), (1, .int k1), (2, .ref o1)]) hx hb dL_addDisjunction_12 rfl hl (by decide) rfl (fun ls hl => ?_)
      refine lv_iconst (v := 1) hx hb dL_addDisjunction_13 (by decide) ?_
      have hP9 := hP.sub (ws' := [(o1, .inl (ty 1, 1, .inr (.inl (fun _ => 0))))]) [0] rfl
      have hD9 := hD.sub (ws' := [(o1, .inl (ty 1, 1, .inr (.inl (fun _ => 0))))]) [0] (by decide) rfl
      refine W.widen (k := 4) (n := 24) (Nat.le_of_ble_eq_true rfl) (Nat.le_of_ble_eq_true rfl) ?_
      refine vx_ret ?_
      exact W.iret (v := 1) hx hb hr (fun t ht hW => ⟨⟨1, [(o1, .inl (ty 1, 1, .inr (.inl (fun _ => 0))))], rfl, (Or.inl ⟨rfl, c_1, rfl⟩), wq_B.of ht hP9 hD9⟩, hS.F ht⟩) hS.2.2 dL_addDisjunction_14
    · cases hEq
      have hP : va_P D vwCl [(o1, .inl (ty 1, 1, .inr (.inl (fun _ => 0))))] H := hP
      have hD : va_D A [(o1, .inl (ty 1, 1, .inr (.inl (fun _ => 0))))] := hD
      refine vx_widen (k := 4) (n := 24) (Nat.le_of_ble_eq_true rfl) (Nat.le_of_ble_eq_true rfl) ?_
      refine vx_catch (own := RL) (name := "java/lang/IllegalArgumentException") (E := "java/lang/IllegalArgumentException") hown [] ⟨0, 9, 12, 13⟩ [⟨0, 9, 15, 15⟩] (by rw [hTab]; rfl) (fun z hz => nomatch hz) (by decide) (by decide) (hts (.classLink RL 13 "java/lang/IllegalArgumentException") (by decide +kernel)) (va_Nw.use rfl (hE.ca "java/lang/IllegalArgumentException" "java/lang/IllegalArgumentException" (by decide +kernel))) hce hcv hcl ?_
      refine lv_astore_n (lv' := [(3, .ref q9), (0, .ref x0), (1, .int k1), (2, .ref o1)]) hx hb dL_addDisjunction_12 rfl hl (by decide) rfl (fun ls hl => ?_)
      refine lv_iconst (v := 1) hx hb dL_addDisjunction_13 (by decide) ?_
      have hP9 := hP.sub (ws' := [(o1, .inl (ty 1, 1, .inr (.inl (fun _ => 0))))]) [0] rfl
      have hD9 := hD.sub (ws' := [(o1, .inl (ty 1, 1, .inr (.inl (fun _ => 0))))]) [0] (by decide) rfl
      refine W.widen (k := 4) (n := 24) (Nat.le_of_ble_eq_true rfl) (Nat.le_of_ble_eq_true rfl) ?_
      refine vx_ret ?_
      exact W.iret (v := 1) hx hb hr (fun t ht hW => ⟨⟨1, [(o1, .inl (ty 1, 1, .inr (.inl (fun _ => 0))))], rfl, (Or.inr (Or.inl ⟨rfl, c_2, c_3, rfl⟩)), wq_B.of ht hP9 hD9⟩, hS.F ht⟩) hS.2.2 dL_addDisjunction_14
  · obtain ⟨rfl, c_4, c_5, rfl⟩ := hw
    have hP : va_P D vwCl [(o1, .inl (ty 1, 1, .inr (.inl (fun _ => 0))))] H := hP
    have hD : va_D A [(o1, .inl (ty 1, 1, .inr (.inl (fun _ => 0))))] := hD
    refine W.widen (k := 4) (n := 24) (Nat.le_of_ble_eq_true rfl) (Nat.le_of_ble_eq_true rfl) ?_
    refine lv_i2l (v := 0) hx hb dL_addDisjunction_7 (by decide) ?_
    refine va_last (D := D) hx hb hK hP hD hS 0 1 rfl rfl (vp_in_iff.mpr (by decide)) dL_addDisjunction_8 (fun H locs hP hD hS => ?_)
    rw [wq_updL0] at hP hD
    have hP : va_P D vwCl [(o1, .inl (ty 1, 1, .inr (.inl (fun _ => 0))))] H := hP
    have hD : va_D A [(o1, .inl (ty 1, 1, .inr (.inl (fun _ => 0))))] := hD
    refine lv_goto (tgt := 18) hx hb dL_addDisjunction_9 (by decide) ?_
    refine lv_iconst (v := 0) hx hb dL_addDisjunction_18 (by decide) ?_
    have hP9 := hP.sub (ws' := [(o1, .inl (ty 1, 1, .inr (.inl (fun _ => 0))))]) [0] rfl
    have hD9 := hD.sub (ws' := [(o1, .inl (ty 1, 1, .inr (.inl (fun _ => 0))))]) [0] (by decide) rfl
    refine W.widen (k := 4) (n := 24) (Nat.le_of_ble_eq_true rfl) (Nat.le_of_ble_eq_true rfl) ?_
    refine vx_ret ?_
    exact W.iret (v := 0) hx hb hr (fun t ht hW => ⟨⟨0, [(o1, .inl (ty 1, 1, .inr (.inl (fun _ => 0))))], rfl, (Or.inr (Or.inr ⟨rfl, c_4, c_5, rfl⟩)), wq_B.of ht hP9 hD9⟩, hS.F ht⟩) hS.2.2 dL_addDisjunction_19
set_option maxHeartbeats 4000000 in
set_option maxRecDepth 100000 in
theorem k_L_addChoice (l : Launch) (hl9 : l.stackTraces = false) (D : va_G) (ty : Nat → ClassId) (td sz : Nat) (x0 : Nat) (x1 : Nat) (x8 : Nat) (x20 : Nat) (x39 : Nat) (x41 : Nat) (x43 : Nat) (x45 : Nat) (x2 : Nat) (x3 : Nat) (x4 : Nat) (x5 : Nat) (x6 : Nat) (x7 : Nat) (x9 : Nat) (x10 : Nat) (x12 : Nat) (x14 : Nat) (x15 : Nat) (x16 : Nat) (x17 : Nat) (x18 : Nat) (x19 : Nat) (x21 : Nat) (x28 : Nat) (x35 : Nat) (x36 : Nat) (x37 : Nat) (x38 : Nat) (x46 : Nat) (x47 : Nat) (o1 : Nat) (k1 : Int32) (k2 : Int32) (k3 : Int32) (k4 : Int32) : vx_Met l yL_addChoice wsL_addChoice { frames := 8, cells := 4, slots := 24, locals := 128 } (va_Pc [.ref x0, .int k1, .int k2, .int k3, .int k4, .ref o1] (wq_P D ty td [(x0, .inr (15, [.ref x1, .ref x8, .ref x20, .ref x39, .ref x41, .ref x43, .ref x45])), (x1, .inr (11, [.ref x2, .int 0, .ref x3, .int 0, .ref x4, .ref x5, .int 1, .ref x6, .ref x7, .int 0])), (x3, .inl (ty 4, 20, .inr (.inr (.inr (.inr (fun _ => none)))))), (x8, .inr (8, [.ref x1, .ref x9, .ref x10, .ref x12, .ref x14, .int 0, .ref x15, .ref x16, .ref x17, .int 0, .ref x18, .ref x19, .int 0, .int 0, .int 0, .int 0])), (x20, .inr (14, [.ref x1, .ref x8, .ref x21, .ref x28, .ref x35, .int 0, .ref x36, .ref x37, .ref x38, .int 0, .int 0, .int 0, .int 0, .int 0, .int 0, .int 0, .int 0])), (x45, .inr (5, [.ref x46, .ref x47, .int 0, .int 0])), (o1, .inl (ty 1, 1, .inr (.inl (fun _ => 0))))] sz)) (va_Qi (fun (r : Int32) (u : va_W) => (r = 1 ∧ (k1 < 0) ∧ (u = [(o1, .inl (ty 1, 1, .inr (.inl (fun _ => 0))))])) ∨ (r = 1 ∧ (¬ (k1 < 0)) ∧ (¬ (k1 ≤ 3)) ∧ (u = [(o1, .inl (ty 1, 1, .inr (.inl (fun _ => 0))))])) ∨ (r = 1 ∧ (¬ (k1 < 0)) ∧ (k1 ≤ 3) ∧ (k2 < 0) ∧ (u = [(o1, .inl (ty 1, 1, .inr (.inl (fun _ => 0))))])) ∨ (r = 1 ∧ (¬ (k1 < 0)) ∧ (k1 ≤ 3) ∧ (¬ (k2 < 0)) ∧ (k3 < k2) ∧ (u = [(o1, .inl (ty 1, 1, .inr (.inl (fun _ => 0))))])) ∨ (r = 1 ∧ (¬ (k1 < 0)) ∧ (k1 ≤ 3) ∧ (¬ (k2 < 0)) ∧ (¬ (k3 < k2)) ∧ (k3 ≤ 9) ∧ (¬ (k4 = (-1))) ∧ (u = [(o1, .inl (ty 1, 1, .inr (.inl (fun _ => 0))))])) ∨ (r = 1 ∧ (¬ (k1 < 0)) ∧ (k1 ≤ 3) ∧ (¬ (k2 < 0)) ∧ (¬ (k3 < k2)) ∧ (¬ (k3 ≤ 9)) ∧ (u = [(o1, .inl (ty 1, 1, .inr (.inl (fun _ => 0))))])) ∨ (r = 0 ∧ (¬ (k1 < 0)) ∧ (k1 ≤ 3) ∧ (¬ (k2 < 0)) ∧ (¬ (k3 < k2)) ∧ (k3 ≤ 9) ∧ (k4 = (-1)) ∧ (u = [(o1, .inl (ty 1, 1, .inr (.inl (fun _ => 0))))]))) (wq_B D (va_A [(x0, .inr (15, [.ref x1, .ref x8, .ref x20, .ref x39, .ref x41, .ref x43, .ref x45])), (x1, .inr (11, [.ref x2, .int 0, .ref x3, .int 0, .ref x4, .ref x5, .int 1, .ref x6, .ref x7, .int 0])), (x3, .inl (ty 4, 20, .inr (.inr (.inr (.inr (fun _ => none)))))), (x8, .inr (8, [.ref x1, .ref x9, .ref x10, .ref x12, .ref x14, .int 0, .ref x15, .ref x16, .ref x17, .int 0, .ref x18, .ref x19, .int 0, .int 0, .int 0, .int 0])), (x20, .inr (14, [.ref x1, .ref x8, .ref x21, .ref x28, .ref x35, .int 0, .ref x36, .ref x37, .ref x38, .int 0, .int 0, .int 0, .int 0, .int 0, .int 0, .int 0, .int 0])), (x45, .inr (5, [.ref x46, .ref x47, .int 0, .int 0])), (o1, .inl (ty 1, 1, .inr (.inl (fun _ => 0))))] sz)) (va_A [(x0, .inr (15, [.ref x1, .ref x8, .ref x20, .ref x39, .ref x41, .ref x43, .ref x45])), (x1, .inr (11, [.ref x2, .int 0, .ref x3, .int 0, .ref x4, .ref x5, .int 1, .ref x6, .ref x7, .int 0])), (x3, .inl (ty 4, 20, .inr (.inr (.inr (.inr (fun _ => none)))))), (x8, .inr (8, [.ref x1, .ref x9, .ref x10, .ref x12, .ref x14, .int 0, .ref x15, .ref x16, .ref x17, .int 0, .ref x18, .ref x19, .int 0, .int 0, .int 0, .int 0])), (x20, .inr (14, [.ref x1, .ref x8, .ref x21, .ref x28, .ref x35, .int 0, .ref x36, .ref x37, .ref x38, .int 0, .int 0, .int 0, .int 0, .int 0, .int 0, .int 0, .int 0])), (x45, .inr (5, [.ref x46, .ref x47, .int 0, .int 0])), (o1, .inl (ty 1, 1, .inr (.inl (fun _ => 0))))] sz)) (vx_X (fun u : String × va_W => False) (wq_BX D (va_A [(x0, .inr (15, [.ref x1, .ref x8, .ref x20, .ref x39, .ref x41, .ref x43, .ref x45])), (x1, .inr (11, [.ref x2, .int 0, .ref x3, .int 0, .ref x4, .ref x5, .int 1, .ref x6, .ref x7, .int 0])), (x3, .inl (ty 4, 20, .inr (.inr (.inr (.inr (fun _ => none)))))), (x8, .inr (8, [.ref x1, .ref x9, .ref x10, .ref x12, .ref x14, .int 0, .ref x15, .ref x16, .ref x17, .int 0, .ref x18, .ref x19, .int 0, .int 0, .int 0, .int 0])), (x20, .inr (14, [.ref x1, .ref x8, .ref x21, .ref x28, .ref x35, .int 0, .ref x36, .ref x37, .ref x38, .int 0, .int 0, .int 0, .int 0, .int 0, .int 0, .int 0, .int 0])), (x45, .inr (5, [.ref x46, .ref x47, .int 0, .int 0])), (o1, .inl (ty 1, 1, .inr (.inl (fun _ => 0))))] sz)) (va_A [(x0, .inr (15, [.ref x1, .ref x8, .ref x20, .ref x39, .ref x41, .ref x43, .ref x45])), (x1, .inr (11, [.ref x2, .int 0, .ref x3, .int 0, .ref x4, .ref x5, .int 1, .ref x6, .ref x7, .int 0])), (x3, .inl (ty 4, 20, .inr (.inr (.inr (.inr (fun _ => none)))))), (x8, .inr (8, [.ref x1, .ref x9, .ref x10, .ref x12, .ref x14, .int 0, .ref x15, .ref x16, .ref x17, .int 0, .ref x18, .ref x19, .int 0, .int 0, .int 0, .int 0])), (x20, .inr (14, [.ref x1, .ref x8, .ref x21, .ref x28, .ref x35, .int 0, .ref x36, .ref x37, .ref x38, .int 0, .int 0, .int 0, .int 0, .int 0, .int 0, .int 0, .int 0])), (x45, .inr (5, [.ref x46, .ref x47, .int 0, .int 0])), (o1, .inl (ty 1, 1, .inr (.inl (fun _ => 0))))] sz)) 4 24 (va_A [(x0, .inr (15, [.ref x1, .ref x8, .ref x20, .ref x39, .ref x41, .ref x43, .ref x45])), (x1, .inr (11, [.ref x2, .int 0, .ref x3, .int 0, .ref x4, .ref x5, .int 1, .ref x6, .ref x7, .int 0])), (x3, .inl (ty 4, 20, .inr (.inr (.inr (.inr (fun _ => none)))))), (x8, .inr (8, [.ref x1, .ref x9, .ref x10, .ref x12, .ref x14, .int 0, .ref x15, .ref x16, .ref x17, .int 0, .ref x18, .ref x19, .int 0, .int 0, .int 0, .int 0])), (x20, .inr (14, [.ref x1, .ref x8, .ref x21, .ref x28, .ref x35, .int 0, .ref x36, .ref x37, .ref x38, .int 0, .int 0, .int 0, .int 0, .int 0, .int 0, .int 0, .int 0])), (x45, .inr (5, [.ref x46, .ref x47, .int 0, .int 0])), (o1, .inl (ty 1, 1, .inr (.inl (fun _ => 0))))] sz) := by
  refine vx_ofWH (cc := cL_addChoice) (maxL := 7) (ret := (some .int)) (hh := [(0, 14, 17, 13), (0, 14, 21, 15)]) (by decide) rfl ?_
  intro p e s m args below meth c s₁ B hml hv
  obtain ⟨rfl, hsz, hP, hK, hD0, hE⟩ := hv
  have hx := B.exec
  have hb := B.bytes
  have hr := B.returns
  have hts := atoms_spec (ws := wsL_addChoice) B.pre
  have hown : s.vm.findClass RL = some m.cls := findClass_of_methodNamed B.named
  have hlocks := B.notSynchronized
  have hTab := vx_table B (hts _ List.mem_cons_self)
  subst hsz
  have hD := hD0.self (sz := s.heap.size)
  generalize hAe : va_A [(x0, .inr (15, [.ref x1, .ref x8, .ref x20, .ref x39, .ref x41, .ref x43, .ref x45])), (x1, .inr (11, [.ref x2, .int 0, .ref x3, .int 0, .ref x4, .ref x5, .int 1, .ref x6, .ref x7, .int 0])), (x3, .inl (ty 4, 20, .inr (.inr (.inr (.inr (fun _ => none)))))), (x8, .inr (8, [.ref x1, .ref x9, .ref x10, .ref x12, .ref x14, .int 0, .ref x15, .ref x16, .ref x17, .int 0, .ref x18, .ref x19, .int 0, .int 0, .int 0, .int 0])), (x20, .inr (14, [.ref x1, .ref x8, .ref x21, .ref x28, .ref x35, .int 0, .ref x36, .ref x37, .ref x38, .int 0, .int 0, .int 0, .int 0, .int 0, .int 0, .int 0, .int 0])), (x45, .inr (5, [.ref x46, .ref x47, .int 0, .int 0])), (o1, .inl (ty 1, 1, .inr (.inl (fun _ => 0))))] s.heap.size = A at hD hE ⊢
  have hA : ∀ q : Nat, s.heap.size ≤ q → A q := fun q h => by rw [← hAe]; exact Or.inr h
  have hS : va_S A s.heap s.heap [] := va_S.rf
  have hP : va_P D vwCl [(x0, .inr (15, [.ref x1, .ref x8, .ref x20, .ref x39, .ref x41, .ref x43, .ref x45])), (x1, .inr (11, [.ref x2, .int 0, .ref x3, .int 0, .ref x4, .ref x5, .int 1, .ref x6, .ref x7, .int 0])), (x3, .inl (ty 4, 20, .inr (.inr (.inr (.inr (fun _ => none)))))), (x8, .inr (8, [.ref x1, .ref x9, .ref x10, .ref x12, .ref x14, .int 0, .ref x15, .ref x16, .ref x17, .int 0, .ref x18, .ref x19, .int 0, .int 0, .int 0, .int 0])), (x20, .inr (14, [.ref x1, .ref x8, .ref x21, .ref x28, .ref x35, .int 0, .ref x36, .ref x37, .ref x38, .int 0, .int 0, .int 0, .int 0, .int 0, .int 0, .int 0, .int 0])), (x45, .inr (5, [.ref x46, .ref x47, .int 0, .int 0])), (o1, .inl (ty 1, 1, .inr (.inl (fun _ => 0))))] s.heap := hP
  have hl := lv_entry ([.ref x0, .int k1, .int k2, .int k3, .int k4, .ref o1]) (n := 7) (Nat.le_of_ble_eq_true rfl)
  rw [lg_entry_eq]
  generalize (lg_sl ([.ref x0, .int k1, .int k2, .int k3, .int k4, .ref o1]) ++ List.replicate (7 - (lg_sl ([.ref x0, .int k1, .int k2, .int k3, .int k4, .ref o1])).length) Slot.unset).toArray = ls at hl ⊢
  have hl : lv_has ls 7 [(0, .ref x0), (1, .int k1), (2, .int k2), (3, .int k3), (4, .int k4), (5, .ref o1)] := hl
  refine lv_aload hx hb dL_addChoice_0 (lv_at hl 5 rfl) ?_
  refine lv_iconst (v := 0) hx hb dL_addChoice_2 (by decide) ?_
  refine lv_aload_n hx hb dL_addChoice_3 rfl (lv_at hl 0 rfl) ?_
  refine lv_iload_n hx hb dL_addChoice_4 rfl (lv_at hl 1 rfl) ?_
  refine lv_iload_n hx hb dL_addChoice_5 rfl (lv_at hl 2 rfl) ?_
  refine lv_iload_n hx hb dL_addChoice_6 rfl (lv_at hl 3 rfl) ?_
  refine lv_iload hx hb dL_addChoice_7 (lv_at hl 4 rfl) ?_
  refine wq_xi (wc := [(x0, .inr (15, [.ref x1, .ref x8, .ref x20, .ref x39, .ref x41, .ref x43, .ref x45])), (x1, .inr (11, [.ref x2, .int 0, .ref x3, .int 0, .ref x4, .ref x5, .int 1, .ref x6, .ref x7, .int 0])), (x3, .inl (ty 4, 20, .inr (.inr (.inr (.inr (fun _ => none)))))), (x8, .inr (8, [.ref x1, .ref x9, .ref x10, .ref x12, .ref x14, .int 0, .ref x15, .ref x16, .ref x17, .int 0, .ref x18, .ref x19, .int 0, .int 0, .int 0, .int 0])), (x20, .inr (14, [.ref x1, .ref x8, .ref x21, .ref x28, .ref x35, .int 0, .ref x36, .ref x37, .ref x38, .int 0, .int 0, .int 0, .int 0, .int 0, .int 0, .int 0, .int 0])), (x45, .inr (5, [.ref x46, .ref x47, .int 0, .int 0]))]) (wr := [(o1, .inl (ty 1, 1, .inr (.inl (fun _ => 0))))]) (vx_runV (As := [.int k1, .int k2, .int k3, .int k4]) (rest := [.int 0, .ref o1]) ⟨hx, hb, hml, hown, hts⟩ (k_X10_addChoice l hl9 D ty td s.heap.size x0 x1 x8 x20 x39 x41 x43 x45 x2 x3 x4 x5 x6 x7 x9 x10 x12 x14 x15 x16 x17 x18 x19 x21 x28 x35 x36 x37 x38 x46 x47 k1 k2 k3 k4) (cwV 4 hts gL_addChoice_X10_addChoice rfl rfl rfl (by decide +kernel) ⟨(Nat.le_of_ble_eq_true rfl), (Nat.le_of_ble_eq_true rfl)⟩) (wq_preV hP hD hK hE hS hA [0, 1, 2, 3, 4, 5] rfl (by decide) 0 15 rfl rfl) rfl rfl hl.1 rfl (lv_room (Nat.le_of_ble_eq_true rfl)) dL_addChoice_9 ⟨(Nat.le_of_ble_eq_true rfl), (Nat.le_of_ble_eq_true rfl)⟩) hS hA hP hD [0, 1, 2, 3, 4, 5] [6] rfl rfl (by decide) (by decide) (fun E9 u H locs q9 ce hw hP hD hS hce hcv hcl => ?_) (fun r u H locs hw hP hD hS => ?_)
  · rcases hw with ⟨hEq, c_1⟩ | ⟨hEq, c_2, c_3⟩ | ⟨hEq, c_4, c_5, c_6⟩ | ⟨hEq, c_7, c_8, c_9, c_10⟩ | ⟨hEq, c_11, c_12, c_13, c_14, c_15, c_16⟩ | ⟨hEq, c_17, c_18, c_19, c_20, c_21⟩
    · cases hEq
      have hP : va_P D vwCl [(o1, .inl (ty 1, 1, .inr (.inl (fun _ => 0))))] H := hP
      have hD : va_D A [(o1, .inl (ty 1, 1, .inr (.inl (fun _ => 0))))] := hD
      refine vx_widen (k := 4) (n := 24) (Nat.le_of_ble_eq_true rfl) (Nat.le_of_ble_eq_true rfl) ?_
      refine vx_catch (own := RL) (name := "java/lang/IllegalArgumentException") (E := "java/lang/IllegalArgumentException") hown [] ⟨0, 14, 17, 13⟩ [⟨0, 14, 21, 15⟩] (by rw [hTab]; rfl) (fun z hz => nomatch hz) (by decide) (by decide) (hts (.classLink RL 13 "java/lang/IllegalArgumentException") (by decide +kernel)) (va_Nw.use rfl (hE.ca "java/lang/IllegalArgumentException" "java/lang/IllegalArgumentException" (by decide +kernel))) hce hcv hcl ?_
      refine lv_astore (lv' := [(6, .ref q9), (0, .ref x0), (1, .int k1), (2, .int k2), (3, .int k3), (4, .int k4), (5, .ref o1)]) hx hb dL_addChoice_17 hl (by decide) rfl (fun ls hl => ?_)
      refine lv_iconst (v := 1) hx hb dL_addChoice_19 (by decide) ?_
      have hP9 := hP.sub (ws' := [(o1, .inl (ty 1, 1, .inr (.inl (fun _ => 0))))]) [0] rfl
      have hD9 := hD.sub (ws' := [(o1, .inl (ty 1, 1, .inr (.inl (fun _ => 0))))]) [0] (by decide) rfl
      refine W.widen (k := 4) (n := 24) (Nat.le_of_ble_eq_true rfl) (Nat.le_of_ble_eq_true rfl) ?_
      refine vx_ret ?_
      exact W.iret (v := 1) hx hb hr (fun t ht hW => ⟨⟨1, [(o1, .inl (ty 1, 1, .inr (.inl (fun _ => 0))))], rfl, (Or.inl ⟨rfl, c_1, rfl⟩), wq_B.of ht hP9 hD9⟩, hS.F ht⟩) hS.2.2 dL_addChoice_20
    · cases hEq
      have hP : va_P D vwCl [(o1, .inl (ty 1, 1, .inr (.inl (fun _ => 0))))] H := hP
      have hD : va_D A [(o1, .inl (ty 1, 1, .inr (.inl (fun _ => 0))))] := hD
      refine vx_widen (k := 4) (n := 24) (Nat.le_of_ble_eq_true rfl) (Nat.le_of_ble_eq_true rfl) ?_
      refine vx_catch (own := RL) (name := "java/lang/IllegalArgumentException") (E := "java/lang/IllegalArgumentException") hown [] ⟨0, 14, 17, 13⟩ [⟨0, 14, 21, 15⟩] (by rw [hTab]; rfl) (fun z hz => nomatch hz) (by decide) (by decide) (hts (.classLink RL 13 "java/lang/IllegalArgumentException") (by decide +kernel)) (va_Nw.use rfl (hE.ca "java/lang/IllegalArgumentException" "java/lang/IllegalArgumentException" (by decide +kernel))) hce hcv hcl ?_
      refine lv_astore (lv' := [(6, .ref q9), (0, .ref x0), (1, .int k1), (2, .int k2), (3, .int k3), (4, .int k4), (5, .ref o1)]) hx hb dL_addChoice_17 hl (by decide) rfl (fun ls hl => ?_)
      refine lv_iconst (v := 1) hx hb dL_addChoice_19 (by decide) ?_
      have hP9 := hP.sub (ws' := [(o1, .inl (ty 1, 1, .inr (.inl (fun _ => 0))))]) [0] rfl
      have hD9 := hD.sub (ws' := [(o1, .inl (ty 1, 1, .inr (.inl (fun _ => 0))))]) [0] (by decide) rfl
      refine W.widen (k := 4) (n := 24) (Nat.le_of_ble_eq_true rfl) (Nat.le_of_ble_eq_true rfl) ?_
      refine vx_ret ?_
      exact W.iret (v := 1) hx hb hr (fun t ht hW => ⟨⟨1, [(o1, .inl (ty 1, 1, .inr (.inl (fun _ => 0))))], rfl, (Or.inr (Or.inl ⟨rfl, c_2, c_3, rfl⟩)), wq_B.of ht hP9 hD9⟩, hS.F ht⟩) hS.2.2 dL_addChoice_20
    · cases hEq
      have hP : va_P D vwCl [(o1, .inl (ty 1, 1, .inr (.inl (fun _ => 0))))] H := hP
      have hD : va_D A [(o1, .inl (ty 1, 1, .inr (.inl (fun _ => 0))))] := hD
      refine vx_widen (k := 4) (n := 24) (Nat.le_of_ble_eq_true rfl) (Nat.le_of_ble_eq_true rfl) ?_
      refine vx_catch (own := RL) (name := "java/lang/IllegalArgumentException") (E := "java/lang/IllegalArgumentException") hown [] ⟨0, 14, 17, 13⟩ [⟨0, 14, 21, 15⟩] (by rw [hTab]; rfl) (fun z hz => nomatch hz) (by decide) (by decide) (hts (.classLink RL 13 "java/lang/IllegalArgumentException") (by decide +kernel)) (va_Nw.use rfl (hE.ca "java/lang/IllegalArgumentException" "java/lang/IllegalArgumentException" (by decide +kernel))) hce hcv hcl ?_
      refine lv_astore (lv' := [(6, .ref q9), (0, .ref x0), (1, .int k1), (2, .int k2), (3, .int k3), (4, .int k4), (5, .ref o1)]) hx hb dL_addChoice_17 hl (by decide) rfl (fun ls hl => ?_)
      refine lv_iconst (v := 1) hx hb dL_addChoice_19 (by decide) ?_
      have hP9 := hP.sub (ws' := [(o1, .inl (ty 1, 1, .inr (.inl (fun _ => 0))))]) [0] rfl
      have hD9 := hD.sub (ws' := [(o1, .inl (ty 1, 1, .inr (.inl (fun _ => 0))))]) [0] (by decide) rfl
      refine W.widen (k := 4) (n := 24) (Nat.le_of_ble_eq_true rfl) (Nat.le_of_ble_eq_true rfl) ?_
      refine vx_ret ?_
      exact W.iret (v := 1) hx hb hr (fun t ht hW => ⟨⟨1, [(o1, .inl (ty 1, 1, .inr (.inl (fun _ => 0))))], rfl, (Or.inr (Or.inr (Or.inl ⟨rfl, c_4, c_5, c_6, rfl⟩))), wq_B.of ht hP9 hD9⟩, hS.F ht⟩) hS.2.2 dL_addChoice_20
    · cases hEq
      have hP : va_P D vwCl [(o1, .inl (ty 1, 1, .inr (.inl (fun _ => 0))))] H := hP
      have hD : va_D A [(o1, .inl (ty 1, 1, .inr (.inl (fun _ => 0))))] := hD
      refine vx_widen (k := 4) (n := 24) (Nat.le_of_ble_eq_true rfl) (Nat.le_of_ble_eq_true rfl) ?_
      refine vx_catch (own := RL) (name := "java/lang/IllegalArgumentException") (E := "java/lang/IllegalArgumentException") hown [] ⟨0, 14, 17, 13⟩ [⟨0, 14, 21, 15⟩] (by rw [hTab]; rfl) (fun z hz => nomatch hz) (by decide) (by decide) (hts (.classLink RL 13 "java/lang/IllegalArgumentException") (by decide +kernel)) (va_Nw.use rfl (hE.ca "java/lang/IllegalArgumentException" "java/lang/IllegalArgumentException" (by decide +kernel))) hce hcv hcl ?_
      refine lv_astore (lv' := [(6, .ref q9), (0, .ref x0), (1, .int k1), (2, .int k2), (3, .int k3), (4, .int k4), (5, .ref o1)]) hx hb dL_addChoice_17 hl (by decide) rfl (fun ls hl => ?_)
      refine lv_iconst (v := 1) hx hb dL_addChoice_19 (by decide) ?_
      have hP9 := hP.sub (ws' := [(o1, .inl (ty 1, 1, .inr (.inl (fun _ => 0))))]) [0] rfl
      have hD9 := hD.sub (ws' := [(o1, .inl (ty 1, 1, .inr (.inl (fun _ => 0))))]) [0] (by decide) rfl
      refine W.widen (k := 4) (n := 24) (Nat.le_of_ble_eq_true rfl) (Nat.le_of_ble_eq_true rfl) ?_
      refine vx_ret ?_
      exact W.iret (v := 1) hx hb hr (fun t ht hW => ⟨⟨1, [(o1, .inl (ty 1, 1, .inr (.inl (fun _ => 0))))], rfl, (Or.inr (Or.inr (Or.inr (Or.inl ⟨rfl, c_7, c_8, c_9, c_10, rfl⟩)))), wq_B.of ht hP9 hD9⟩, hS.F ht⟩) hS.2.2 dL_addChoice_20
    · cases hEq
      have hP : va_P D vwCl [(o1, .inl (ty 1, 1, .inr (.inl (fun _ => 0))))] H := hP
      have hD : va_D A [(o1, .inl (ty 1, 1, .inr (.inl (fun _ => 0))))] := hD
      refine vx_widen (k := 4) (n := 24) (Nat.le_of_ble_eq_true rfl) (Nat.le_of_ble_eq_true rfl) ?_
      refine vx_catch (own := RL) (name := "java/lang/IllegalArgumentException") (E := "java/lang/IllegalArgumentException") hown [] ⟨0, 14, 17, 13⟩ [⟨0, 14, 21, 15⟩] (by rw [hTab]; rfl) (fun z hz => nomatch hz) (by decide) (by decide) (hts (.classLink RL 13 "java/lang/IllegalArgumentException") (by decide +kernel)) (va_Nw.use rfl (hE.ca "java/lang/IllegalArgumentException" "java/lang/IllegalArgumentException" (by decide +kernel))) hce hcv hcl ?_
      refine lv_astore (lv' := [(6, .ref q9), (0, .ref x0), (1, .int k1), (2, .int k2), (3, .int k3), (4, .int k4), (5, .ref o1)]) hx hb dL_addChoice_17 hl (by decide) rfl (fun ls hl => ?_)
      refine lv_iconst (v := 1) hx hb dL_addChoice_19 (by decide) ?_
      have hP9 := hP.sub (ws' := [(o1, .inl (ty 1, 1, .inr (.inl (fun _ => 0))))]) [0] rfl
      have hD9 := hD.sub (ws' := [(o1, .inl (ty 1, 1, .inr (.inl (fun _ => 0))))]) [0] (by decide) rfl
      refine W.widen (k := 4) (n := 24) (Nat.le_of_ble_eq_true rfl) (Nat.le_of_ble_eq_true rfl) ?_
      refine vx_ret ?_
      exact W.iret (v := 1) hx hb hr (fun t ht hW => ⟨⟨1, [(o1, .inl (ty 1, 1, .inr (.inl (fun _ => 0))))], rfl, (Or.inr (Or.inr (Or.inr (Or.inr (Or.inl ⟨rfl, c_11, c_12, c_13, c_14, c_15, c_16, rfl⟩))))), wq_B.of ht hP9 hD9⟩, hS.F ht⟩) hS.2.2 dL_addChoice_20
    · cases hEq
      have hP : va_P D vwCl [(o1, .inl (ty 1, 1, .inr (.inl (fun _ => 0))))] H := hP
      have hD : va_D A [(o1, .inl (ty 1, 1, .inr (.inl (fun _ => 0))))] := hD
      refine vx_widen (k := 4) (n := 24) (Nat.le_of_ble_eq_true rfl) (Nat.le_of_ble_eq_true rfl) ?_
      refine vx_catch (own := RL) (name := "java/lang/IllegalArgumentException") (E := "java/lang/IllegalArgumentException") hown [] ⟨0, 14, 17, 13⟩ [⟨0, 14, 21, 15⟩] (by rw [hTab]; rfl) (fun z hz => nomatch hz) (by decide) (by decide) (hts (.classLink RL 13 "java/lang/IllegalArgumentException") (by decide +kernel)) (va_Nw.use rfl (hE.ca "java/lang/IllegalArgumentException" "java/lang/IllegalArgumentException" (by decide +kernel))) hce hcv hcl ?_
      refine lv_astore (lv' := [(6, .ref q9), (0, .ref x0), (1, .int k1), (2, .int k2), (3, .int k3), (4, .int k4), (5, .ref o1)]) hx hb dL_addChoice_17 hl (by decide) rfl (fun ls hl => ?_)
      refine lv_iconst (v := 1) hx hb dL_addChoice_19 (by decide) ?_
      have hP9 := hP.sub (ws' := [(o1, .inl (ty 1, 1, .inr (.inl (fun _ => 0))))]) [0] rfl
      have hD9 := hD.sub (ws' := [(o1, .inl (ty 1, 1, .inr (.inl (fun _ => 0))))]) [0] (by decide) rfl
      refine W.widen (k := 4) (n := 24) (Nat.le_of_ble_eq_true rfl) (Nat.le_of_ble_eq_true rfl) ?_
      refine vx_ret ?_
      exact W.iret (v := 1) hx hb hr (fun t ht hW => ⟨⟨1, [(o1, .inl (ty 1, 1, .inr (.inl (fun _ => 0))))], rfl, (Or.inr (Or.inr (Or.inr (Or.inr (Or.inr (Or.inl ⟨rfl, c_17, c_18, c_19, c_20, c_21, rfl⟩)))))), wq_B.of ht hP9 hD9⟩, hS.F ht⟩) hS.2.2 dL_addChoice_20
  · obtain ⟨rfl, c_22, c_23, c_24, c_25, c_26, c_27, rfl⟩ := hw
    have hP : va_P D vwCl [(o1, .inl (ty 1, 1, .inr (.inl (fun _ => 0))))] H := hP
    have hD : va_D A [(o1, .inl (ty 1, 1, .inr (.inl (fun _ => 0))))] := hD
    refine W.widen (k := 4) (n := 24) (Nat.le_of_ble_eq_true rfl) (Nat.le_of_ble_eq_true rfl) ?_
    refine lv_i2l (v := 0) hx hb dL_addChoice_12 (by decide) ?_
    refine va_last (D := D) hx hb hK hP hD hS 0 1 rfl rfl (vp_in_iff.mpr (by decide)) dL_addChoice_13 (fun H locs hP hD hS => ?_)
    rw [wq_updL0] at hP hD
    have hP : va_P D vwCl [(o1, .inl (ty 1, 1, .inr (.inl (fun _ => 0))))] H := hP
    have hD : va_D A [(o1, .inl (ty 1, 1, .inr (.inl (fun _ => 0))))] := hD
    refine lv_goto (tgt := 25) hx hb dL_addChoice_14 (by decide) ?_
    refine lv_iconst (v := 0) hx hb dL_addChoice_25 (by decide) ?_
    have hP9 := hP.sub (ws' := [(o1, .inl (ty 1, 1, .inr (.inl (fun _ => 0))))]) [0] rfl
    have hD9 := hD.sub (ws' := [(o1, .inl (ty 1, 1, .inr (.inl (fun _ => 0))))]) [0] (by decide) rfl
    refine W.widen (k := 4) (n := 24) (Nat.le_of_ble_eq_true rfl) (Nat.le_of_ble_eq_true rfl) ?_
    refine vx_ret ?_
    exact W.iret (v := 0) hx hb hr (fun t ht hW => ⟨⟨0, [(o1, .inl (ty 1, 1, .inr (.inl (fun _ => 0))))], rfl, (Or.inr (Or.inr (Or.inr (Or.inr (Or.inr (Or.inr ⟨rfl, c_22, c_23, c_24, c_25, c_26, c_27, rfl⟩)))))), wq_B.of ht hP9 hD9⟩, hS.F ht⟩) hS.2.2 dL_addChoice_26
set_option maxHeartbeats 4000000 in
set_option maxRecDepth 100000 in
theorem k_L_addWeak (l : Launch) (hl9 : l.stackTraces = false) (D : va_G) (ty : Nat → ClassId) (td sz : Nat) (x0 : Nat) (x1 : Nat) (x8 : Nat) (x20 : Nat) (x39 : Nat) (x41 : Nat) (x43 : Nat) (x45 : Nat) (x2 : Nat) (x3 : Nat) (x4 : Nat) (x5 : Nat) (x6 : Nat) (x7 : Nat) (x9 : Nat) (x10 : Nat) (x12 : Nat) (x14 : Nat) (x15 : Nat) (x16 : Nat) (x17 : Nat) (x18 : Nat) (x19 : Nat) (x21 : Nat) (x28 : Nat) (x35 : Nat) (x36 : Nat) (x37 : Nat) (x38 : Nat) (x46 : Nat) (x47 : Nat) (o1 : Nat) (k1 : Int32) (k2 : Int32) (k3 : Int32) : vx_Met l yL_addWeak wsL_addWeak { frames := 8, cells := 5, slots := 30, locals := 127 } (va_Pc [.ref x0, .int k1, .int k2, .int k3, .ref o1] (wq_P D ty td [(x0, .inr (15, [.ref x1, .ref x8, .ref x20, .ref x39, .ref x41, .ref x43, .ref x45])), (x1, .inr (11, [.ref x2, .int 0, .ref x3, .int 0, .ref x4, .ref x5, .int 1, .ref x6, .ref x7, .int 0])), (x3, .inl (ty 4, 20, .inr (.inr (.inr (.inr (fun _ => none)))))), (x8, .inr (8, [.ref x1, .ref x9, .ref x10, .ref x12, .ref x14, .int 0, .ref x15, .ref x16, .ref x17, .int 0, .ref x18, .ref x19, .int 0, .int 0, .int 0, .int 0])), (x20, .inr (14, [.ref x1, .ref x8, .ref x21, .ref x28, .ref x35, .int 0, .ref x36, .ref x37, .ref x38, .int 0, .int 0, .int 0, .int 0, .int 0, .int 0, .int 0, .int 0])), (x45, .inr (5, [.ref x46, .ref x47, .int 0, .int 0])), (o1, .inl (ty 1, 1, .inr (.inl (fun _ => 0))))] sz)) (va_Qi (fun (r : Int32) (u : va_W) => (r = 1 ∧ (k1 < 0) ∧ (u = [(o1, .inl (ty 1, 1, .inr (.inl (fun _ => 0))))])) ∨ (r = 1 ∧ (¬ (k1 < 0)) ∧ (¬ (k1 ≤ 3)) ∧ (u = [(o1, .inl (ty 1, 1, .inr (.inl (fun _ => 0))))])) ∨ (r = 1 ∧ (¬ (k1 < 0)) ∧ (k1 ≤ 3) ∧ (k2 < (-99)) ∧ (u = [(o1, .inl (ty 1, 1, .inr (.inl (fun _ => 0))))])) ∨ (r = 1 ∧ (¬ (k1 < 0)) ∧ (k1 ≤ 3) ∧ (¬ (k2 < (-99))) ∧ (k2 ≤ 99) ∧ (k3 < 1) ∧ (u = [(o1, .inl (ty 1, 1, .inr (.inl (fun _ => 0))))])) ∨ (r = 1 ∧ (¬ (k1 < 0)) ∧ (k1 ≤ 3) ∧ (¬ (k2 < (-99))) ∧ (k2 ≤ 99) ∧ (¬ (k3 < 1)) ∧ (¬ (k3 ≤ 3)) ∧ (u = [(o1, .inl (ty 1, 1, .inr (.inl (fun _ => 0))))])) ∨ (r = 1 ∧ (¬ (k1 < 0)) ∧ (k1 ≤ 3) ∧ (¬ (k2 < (-99))) ∧ (¬ (k2 ≤ 99)) ∧ (u = [(o1, .inl (ty 1, 1, .inr (.inl (fun _ => 0))))])) ∨ (r = 0 ∧ (¬ (k1 < 0)) ∧ (k1 ≤ 3) ∧ (¬ (k2 < (-99))) ∧ (k2 ≤ 99) ∧ (¬ (k3 < 1)) ∧ (k3 ≤ 3) ∧ (u = [(o1, .inl (ty 1, 1, .inr (.inl (fun _ => 0))))]))) (wq_B D (va_A [(x0, .inr (15, [.ref x1, .ref x8, .ref x20, .ref x39, .ref x41, .ref x43, .ref x45])), (x1, .inr (11, [.ref x2, .int 0, .ref x3, .int 0, .ref x4, .ref x5, .int 1, .ref x6, .ref x7, .int 0])), (x3, .inl (ty 4, 20, .inr (.inr (.inr (.inr (fun _ => none)))))), (x8, .inr (8, [.ref x1, .ref x9, .ref x10, .ref x12, .ref x14, .int 0, .ref x15, .ref x16, .ref x17, .int 0, .ref x18, .ref x19, .int 0, .int 0, .int 0, .int 0])), (x20, .inr (14, [.ref x1, .ref x8, .ref x21, .ref x28, .ref x35, .int 0, .ref x36, .ref x37, .ref x38, .int 0, .int 0, .int 0, .int 0, .int 0, .int 0, .int 0, .int 0])), (x45, .inr (5, [.ref x46, .ref x47, .int 0, .int 0])), (o1, .inl (ty 1, 1, .inr (.inl (fun _ => 0))))] sz)) (va_A [(x0, .inr (15, [.ref x1, .ref x8, .ref x20, .ref x39, .ref x41, .ref x43, .ref x45])), (x1, .inr (11, [.ref x2, .int 0, .ref x3, .int 0, .ref x4, .ref x5, .int 1, .ref x6, .ref x7, .int 0])), (x3, .inl (ty 4, 20, .inr (.inr (.inr (.inr (fun _ => none)))))), (x8, .inr (8, [.ref x1, .ref x9, .ref x10, .ref x12, .ref x14, .int 0, .ref x15, .ref x16, .ref x17, .int 0, .ref x18, .ref x19, .int 0, .int 0, .int 0, .int 0])), (x20, .inr (14, [.ref x1, .ref x8, .ref x21, .ref x28, .ref x35, .int 0, .ref x36, .ref x37, .ref x38, .int 0, .int 0, .int 0, .int 0, .int 0, .int 0, .int 0, .int 0])), (x45, .inr (5, [.ref x46, .ref x47, .int 0, .int 0])), (o1, .inl (ty 1, 1, .inr (.inl (fun _ => 0))))] sz)) (vx_X (fun u : String × va_W => False) (wq_BX D (va_A [(x0, .inr (15, [.ref x1, .ref x8, .ref x20, .ref x39, .ref x41, .ref x43, .ref x45])), (x1, .inr (11, [.ref x2, .int 0, .ref x3, .int 0, .ref x4, .ref x5, .int 1, .ref x6, .ref x7, .int 0])), (x3, .inl (ty 4, 20, .inr (.inr (.inr (.inr (fun _ => none)))))), (x8, .inr (8, [.ref x1, .ref x9, .ref x10, .ref x12, .ref x14, .int 0, .ref x15, .ref x16, .ref x17, .int 0, .ref x18, .ref x19, .int 0, .int 0, .int 0, .int 0])), (x20, .inr (14, [.ref x1, .ref x8, .ref x21, .ref x28, .ref x35, .int 0, .ref x36, .ref x37, .ref x38, .int 0, .int 0, .int 0, .int 0, .int 0, .int 0, .int 0, .int 0])), (x45, .inr (5, [.ref x46, .ref x47, .int 0, .int 0])), (o1, .inl (ty 1, 1, .inr (.inl (fun _ => 0))))] sz)) (va_A [(x0, .inr (15, [.ref x1, .ref x8, .ref x20, .ref x39, .ref x41, .ref x43, .ref x45])), (x1, .inr (11, [.ref x2, .int 0, .ref x3, .int 0, .ref x4, .ref x5, .int 1, .ref x6, .ref x7, .int 0])), (x3, .inl (ty 4, 20, .inr (.inr (.inr (.inr (fun _ => none)))))), (x8, .inr (8, [.ref x1, .ref x9, .ref x10, .ref x12, .ref x14, .int 0, .ref x15, .ref x16, .ref x17, .int 0, .ref x18, .ref x19, .int 0, .int 0, .int 0, .int 0])), (x20, .inr (14, [.ref x1, .ref x8, .ref x21, .ref x28, .ref x35, .int 0, .ref x36, .ref x37, .ref x38, .int 0, .int 0, .int 0, .int 0, .int 0, .int 0, .int 0, .int 0])), (x45, .inr (5, [.ref x46, .ref x47, .int 0, .int 0])), (o1, .inl (ty 1, 1, .inr (.inl (fun _ => 0))))] sz)) 5 30 (va_A [(x0, .inr (15, [.ref x1, .ref x8, .ref x20, .ref x39, .ref x41, .ref x43, .ref x45])), (x1, .inr (11, [.ref x2, .int 0, .ref x3, .int 0, .ref x4, .ref x5, .int 1, .ref x6, .ref x7, .int 0])), (x3, .inl (ty 4, 20, .inr (.inr (.inr (.inr (fun _ => none)))))), (x8, .inr (8, [.ref x1, .ref x9, .ref x10, .ref x12, .ref x14, .int 0, .ref x15, .ref x16, .ref x17, .int 0, .ref x18, .ref x19, .int 0, .int 0, .int 0, .int 0])), (x20, .inr (14, [.ref x1, .ref x8, .ref x21, .ref x28, .ref x35, .int 0, .ref x36, .ref x37, .ref x38, .int 0, .int 0, .int 0, .int 0, .int 0, .int 0, .int 0, .int 0])), (x45, .inr (5, [.ref x46, .ref x47, .int 0, .int 0])), (o1, .inl (ty 1, 1, .inr (.inl (fun _ => 0))))] sz) := by
  refine vx_ofWH (cc := cL_addWeak) (maxL := 6) (ret := (some .int)) (hh := [(0, 12, 15, 13), (0, 12, 19, 15)]) (by decide) rfl ?_
  intro p e s m args below meth c s₁ B hml hv
  obtain ⟨rfl, hsz, hP, hK, hD0, hE⟩ := hv
  have hx := B.exec
  have hb := B.bytes
  have hr := B.returns
  have hts := atoms_spec (ws := wsL_addWeak) B.pre
  have hown : s.vm.findClass RL = some m.cls := findClass_of_methodNamed B.named
  have hlocks := B.notSynchronized
  have hTab := vx_table B (hts _ List.mem_cons_self)
  subst hsz
  have hD := hD0.self (sz := s.heap.size)
  generalize hAe : va_A [(x0, .inr (15, [.ref x1, .ref x8, .ref x20, .ref x39, .ref x41, .ref x43, .ref x45])), (x1, .inr (11, [.ref x2, .int 0, .ref x3, .int 0, .ref x4, .ref x5, .int 1, .ref x6, .ref x7, .int 0])), (x3, .inl (ty 4, 20, .inr (.inr (.inr (.inr (fun _ => none)))))), (x8, .inr (8, [.ref x1, .ref x9, .ref x10, .ref x12, .ref x14, .int 0, .ref x15, .ref x16, .ref x17, .int 0, .ref x18, .ref x19, .int 0, .int 0, .int 0, .int 0])), (x20, .inr (14, [.ref x1, .ref x8, .ref x21, .ref x28, .ref x35, .int 0, .ref x36, .ref x37, .ref x38, .int 0, .int 0, .int 0, .int 0, .int 0, .int 0, .int 0, .int 0])), (x45, .inr (5, [.ref x46, .ref x47, .int 0, .int 0])), (o1, .inl (ty 1, 1, .inr (.inl (fun _ => 0))))] s.heap.size = A at hD hE ⊢
  have hA : ∀ q : Nat, s.heap.size ≤ q → A q := fun q h => by rw [← hAe]; exact Or.inr h
  have hS : va_S A s.heap s.heap [] := va_S.rf
  have hP : va_P D vwCl [(x0, .inr (15, [.ref x1, .ref x8, .ref x20, .ref x39, .ref x41, .ref x43, .ref x45])), (x1, .inr (11, [.ref x2, .int 0, .ref x3, .int 0, .ref x4, .ref x5, .int 1, .ref x6, .ref x7, .int 0])), (x3, .inl (ty 4, 20, .inr (.inr (.inr (.inr (fun _ => none)))))), (x8, .inr (8, [.ref x1, .ref x9, .ref x10, .ref x12, .ref x14, .int 0, .ref x15, .ref x16, .ref x17, .int 0, .ref x18, .ref x19, .int 0, .int 0, .int 0, .int 0])), (x20, .inr (14, [.ref x1, .ref x8, .ref x21, .ref x28, .ref x35, .int 0, .ref x36, .ref x37, .ref x38, .int 0, .int 0, .int 0, .int 0, .int 0, .int 0, .int 0, .int 0])), (x45, .inr (5, [.ref x46, .ref x47, .int 0, .int 0])), (o1, .inl (ty 1, 1, .inr (.inl (fun _ => 0))))] s.heap := hP
  have hl := lv_entry ([.ref x0, .int k1, .int k2, .int k3, .ref o1]) (n := 6) (Nat.le_of_ble_eq_true rfl)
  rw [lg_entry_eq]
  generalize (lg_sl ([.ref x0, .int k1, .int k2, .int k3, .ref o1]) ++ List.replicate (6 - (lg_sl ([.ref x0, .int k1, .int k2, .int k3, .ref o1])).length) Slot.unset).toArray = ls at hl ⊢
  have hl : lv_has ls 6 [(0, .ref x0), (1, .int k1), (2, .int k2), (3, .int k3), (4, .ref o1)] := hl
  refine lv_aload hx hb dL_addWeak_0 (lv_at hl 4 rfl) ?_
  refine lv_iconst (v := 0) hx hb dL_addWeak_2 (by decide) ?_
  refine lv_aload_n hx hb dL_addWeak_3 rfl (lv_at hl 0 rfl) ?_
  refine lv_iload_n hx hb dL_addWeak_4 rfl (lv_at hl 1 rfl) ?_
  refine lv_iload_n hx hb dL_addWeak_5 rfl (lv_at hl 2 rfl) ?_
  refine lv_iload_n hx hb dL_addWeak_6 rfl (lv_at hl 3 rfl) ?_
  refine wq_xi (wc := [(x0, .inr (15, [.ref x1, .ref x8, .ref x20, .ref x39, .ref x41, .ref x43, .ref x45])), (x1, .inr (11, [.ref x2, .int 0, .ref x3, .int 0, .ref x4, .ref x5, .int 1, .ref x6, .ref x7, .int 0])), (x3, .inl (ty 4, 20, .inr (.inr (.inr (.inr (fun _ => none)))))), (x8, .inr (8, [.ref x1, .ref x9, .ref x10, .ref x12, .ref x14, .int 0, .ref x15, .ref x16, .ref x17, .int 0, .ref x18, .ref x19, .int 0, .int 0, .int 0, .int 0])), (x20, .inr (14, [.ref x1, .ref x8, .ref x21, .ref x28, .ref x35, .int 0, .ref x36, .ref x37, .ref x38, .int 0, .int 0, .int 0, .int 0, .int 0, .int 0, .int 0, .int 0])), (x45, .inr (5, [.ref x46, .ref x47, .int 0, .int 0]))]) (wr := [(o1, .inl (ty 1, 1, .inr (.inl (fun _ => 0))))]) (vx_runV (As := [.int k1, .int k2, .int k3]) (rest := [.int 0, .ref o1]) ⟨hx, hb, hml, hown, hts⟩ (k_X10_addWeak l hl9 D ty td s.heap.size x0 x1 x8 x20 x39 x41 x43 x45 x2 x3 x4 x5 x6 x7 x9 x10 x12 x14 x15 x16 x17 x18 x19 x21 x28 x35 x36 x37 x38 x46 x47 k1 k2 k3) (cwV 3 hts gL_addWeak_X10_addWeak rfl rfl rfl (by decide +kernel) ⟨(Nat.le_of_ble_eq_true rfl), (Nat.le_of_ble_eq_true rfl)⟩) (wq_preV hP hD hK hE hS hA [0, 1, 2, 3, 4, 5] rfl (by decide) 0 15 rfl rfl) rfl rfl hl.1 rfl (lv_room (Nat.le_of_ble_eq_true rfl)) dL_addWeak_7 ⟨(Nat.le_of_ble_eq_true rfl), (Nat.le_of_ble_eq_true rfl)⟩) hS hA hP hD [0, 1, 2, 3, 4, 5] [6] rfl rfl (by decide) (by decide) (fun E9 u H locs q9 ce hw hP hD hS hce hcv hcl => ?_) (fun r u H locs hw hP hD hS => ?_)
  · rcases hw with ⟨hEq, c_1⟩ | ⟨hEq, c_2, c_3⟩ | ⟨hEq, c_4, c_5, c_6⟩ | ⟨hEq, c_7, c_8, c_9, c_10, c_11⟩ | ⟨hEq, c_12, c_13, c_14, c_15, c_16, c_17⟩ | ⟨hEq, c_18, c_19, c_20, c_21⟩
    · cases hEq
      have hP : va_P D vwCl [(o1, .inl (ty 1, 1, .inr (.inl (fun _ => 0))))] H := hP
      have hD : va_D A [(o1, .inl (ty 1, 1, .inr (.inl (fun _ => 0))))] := hD
      refine vx_widen (k := 5) (n := 30) (Nat.le_of_ble_eq_true rfl) (Nat.le_of_ble_eq_true rfl) ?_
      refine vx_catch (own := RL) (name := "java/lang/IllegalArgumentException") (E := "java/lang/IllegalArgumentException") hown [] ⟨0, 12, 15, 13⟩ [⟨0, 12, 19, 15⟩] (by rw [hTab]; rfl) (fun z hz => nomatch hz) (by decide) (by decide) (hts (.classLink RL 13 "java/lang/IllegalArgumentException") (by decide +kernel)) (va_Nw.use rfl (hE.ca "java/lang/IllegalArgumentException" "java/lang/IllegalArgumentException" (by decide +kernel))) hce hcv hcl ?_
      refine lv_astore (lv' := [(5, .ref q9), (0, .ref x0), (1, .int k1), (2, .int k2), (3, .int k3), (4, .ref o1)]) hx hb dL_addWeak_15 hl (by decide) rfl (fun ls hl => ?_)
      refine lv_iconst (v := 1) hx hb dL_addWeak_17 (by decide) ?_
      have hP9 := hP.sub (ws' := [(o1, .inl (ty 1, 1, .inr (.inl (fun _ => 0))))]) [0] rfl
      have hD9 := hD.sub (ws' := [(o1, .inl (ty 1, 1, .inr (.inl (fun _ => 0))))]) [0] (by decide) rfl
      refine W.widen (k := 5) (n := 30) (Nat.le_of_ble_eq_true rfl) (Nat.le_of_ble_eq_true rfl) ?_
      refine vx_ret ?_
      exact W.iret (v := 1) hx hb hr (fun t ht hW => ⟨⟨1, [(o1, .inl (ty 1, 1, .inr (.inl (fun _ => 0))))], rfl, (Or.inl ⟨rfl, c_1, rfl⟩), wq_B.of ht hP9 hD9⟩, hS.F ht⟩) hS.2.2 dL_addWeak_18
    · cases hEq
      have hP : va_P D vwCl [(o1, .inl (ty 1, 1, .inr (.inl (fun _ => 0))))] H := hP
      have hD : va_D A [(o1, .inl (ty 1, 1, .inr (.inl (fun _ => 0))))] := hD
      refine vx_widen (k := 5) (n := 30) (Nat.le_of_ble_eq_true rfl) (Nat.le_of_ble_eq_true rfl) ?_
      refine vx_catch (own := RL) (name := "java/lang/IllegalArgumentException") (E := "java/lang/IllegalArgumentException") hown [] ⟨0, 12, 15, 13⟩ [⟨0, 12, 19, 15⟩] (by rw [hTab]; rfl) (fun z hz => nomatch hz) (by decide) (by decide) (hts (.classLink RL 13 "java/lang/IllegalArgumentException") (by decide +kernel)) (va_Nw.use rfl (hE.ca "java/lang/IllegalArgumentException" "java/lang/IllegalArgumentException" (by decide +kernel))) hce hcv hcl ?_
      refine lv_astore (lv' := [(5, .ref q9), (0, .ref x0), (1, .int k1), (2, .int k2), (3, .int k3), (4, .ref o1)]) hx hb dL_addWeak_15 hl (by decide) rfl (fun ls hl => ?_)
      refine lv_iconst (v := 1) hx hb dL_addWeak_17 (by decide) ?_
      have hP9 := hP.sub (ws' := [(o1, .inl (ty 1, 1, .inr (.inl (fun _ => 0))))]) [0] rfl
      have hD9 := hD.sub (ws' := [(o1, .inl (ty 1, 1, .inr (.inl (fun _ => 0))))]) [0] (by decide) rfl
      refine W.widen (k := 5) (n := 30) (Nat.le_of_ble_eq_true rfl) (Nat.le_of_ble_eq_true rfl) ?_
      refine vx_ret ?_
      exact W.iret (v := 1) hx hb hr (fun t ht hW => ⟨⟨1, [(o1, .inl (ty 1, 1, .inr (.inl (fun _ => 0))))], rfl, (Or.inr (Or.inl ⟨rfl, c_2, c_3, rfl⟩)), wq_B.of ht hP9 hD9⟩, hS.F ht⟩) hS.2.2 dL_addWeak_18
    · cases hEq
      have hP : va_P D vwCl [(o1, .inl (ty 1, 1, .inr (.inl (fun _ => 0))))] H := hP
      have hD : va_D A [(o1, .inl (ty 1, 1, .inr (.inl (fun _ => 0))))] := hD
      refine vx_widen (k := 5) (n := 30) (Nat.le_of_ble_eq_true rfl) (Nat.le_of_ble_eq_true rfl) ?_
      refine vx_catch (own := RL) (name := "java/lang/IllegalArgumentException") (E := "java/lang/IllegalArgumentException") hown [] ⟨0, 12, 15, 13⟩ [⟨0, 12, 19, 15⟩] (by rw [hTab]; rfl) (fun z hz => nomatch hz) (by decide) (by decide) (hts (.classLink RL 13 "java/lang/IllegalArgumentException") (by decide +kernel)) (va_Nw.use rfl (hE.ca "java/lang/IllegalArgumentException" "java/lang/IllegalArgumentException" (by decide +kernel))) hce hcv hcl ?_
      refine lv_astore (lv' := [(5, .ref q9), (0, .ref x0), (1, .int k1), (2, .int k2), (3, .int k3), (4, .ref o1)]) hx hb dL_addWeak_15 hl (by decide) rfl (fun ls hl => ?_)
      refine lv_iconst (v := 1) hx hb dL_addWeak_17 (by decide) ?_
      have hP9 := hP.sub (ws' := [(o1, .inl (ty 1, 1, .inr (.inl (fun _ => 0))))]) [0] rfl
      have hD9 := hD.sub (ws' := [(o1, .inl (ty 1, 1, .inr (.inl (fun _ => 0))))]) [0] (by decide) rfl
      refine W.widen (k := 5) (n := 30) (Nat.le_of_ble_eq_true rfl) (Nat.le_of_ble_eq_true rfl) ?_
      refine vx_ret ?_
      exact W.iret (v := 1) hx hb hr (fun t ht hW => ⟨⟨1, [(o1, .inl (ty 1, 1, .inr (.inl (fun _ => 0))))], rfl, (Or.inr (Or.inr (Or.inl ⟨rfl, c_4, c_5, c_6, rfl⟩))), wq_B.of ht hP9 hD9⟩, hS.F ht⟩) hS.2.2 dL_addWeak_18
    · cases hEq
      have hP : va_P D vwCl [(o1, .inl (ty 1, 1, .inr (.inl (fun _ => 0))))] H := hP
      have hD : va_D A [(o1, .inl (ty 1, 1, .inr (.inl (fun _ => 0))))] := hD
      refine vx_widen (k := 5) (n := 30) (Nat.le_of_ble_eq_true rfl) (Nat.le_of_ble_eq_true rfl) ?_
      refine vx_catch (own := RL) (name := "java/lang/IllegalArgumentException") (E := "java/lang/IllegalArgumentException") hown [] ⟨0, 12, 15, 13⟩ [⟨0, 12, 19, 15⟩] (by rw [hTab]; rfl) (fun z hz => nomatch hz) (by decide) (by decide) (hts (.classLink RL 13 "java/lang/IllegalArgumentException") (by decide +kernel)) (va_Nw.use rfl (hE.ca "java/lang/IllegalArgumentException" "java/lang/IllegalArgumentException" (by decide +kernel))) hce hcv hcl ?_
      refine lv_astore (lv' := [(5, .ref q9), (0, .ref x0), (1, .int k1), (2, .int k2), (3, .int k3), (4, .ref o1)]) hx hb dL_addWeak_15 hl (by decide) rfl (fun ls hl => ?_)
      refine lv_iconst (v := 1) hx hb dL_addWeak_17 (by decide) ?_
      have hP9 := hP.sub (ws' := [(o1, .inl (ty 1, 1, .inr (.inl (fun _ => 0))))]) [0] rfl
      have hD9 := hD.sub (ws' := [(o1, .inl (ty 1, 1, .inr (.inl (fun _ => 0))))]) [0] (by decide) rfl
      refine W.widen (k := 5) (n := 30) (Nat.le_of_ble_eq_true rfl) (Nat.le_of_ble_eq_true rfl) ?_
      refine vx_ret ?_
      exact W.iret (v := 1) hx hb hr (fun t ht hW => ⟨⟨1, [(o1, .inl (ty 1, 1, .inr (.inl (fun _ => 0))))], rfl, (Or.inr (Or.inr (Or.inr (Or.inl ⟨rfl, c_7, c_8, c_9, c_10, c_11, rfl⟩)))), wq_B.of ht hP9 hD9⟩, hS.F ht⟩) hS.2.2 dL_addWeak_18
    · cases hEq
      have hP : va_P D vwCl [(o1, .inl (ty 1, 1, .inr (.inl (fun _ => 0))))] H := hP
      have hD : va_D A [(o1, .inl (ty 1, 1, .inr (.inl (fun _ => 0))))] := hD
      refine vx_widen (k := 5) (n := 30) (Nat.le_of_ble_eq_true rfl) (Nat.le_of_ble_eq_true rfl) ?_
      refine vx_catch (own := RL) (name := "java/lang/IllegalArgumentException") (E := "java/lang/IllegalArgumentException") hown [] ⟨0, 12, 15, 13⟩ [⟨0, 12, 19, 15⟩] (by rw [hTab]; rfl) (fun z hz => nomatch hz) (by decide) (by decide) (hts (.classLink RL 13 "java/lang/IllegalArgumentException") (by decide +kernel)) (va_Nw.use rfl (hE.ca "java/lang/IllegalArgumentException" "java/lang/IllegalArgumentException" (by decide +kernel))) hce hcv hcl ?_
      refine lv_astore (lv' := [(5, .ref q9), (0, .ref x0), (1, .int k1), (2, .int k2), (3, .int k3), (4, .ref o1)]) hx hb dL_addWeak_15 hl (by decide) rfl (fun ls hl => ?_)
      refine lv_iconst (v := 1) hx hb dL_addWeak_17 (by decide) ?_
      have hP9 := hP.sub (ws' := [(o1, .inl (ty 1, 1, .inr (.inl (fun _ => 0))))]) [0] rfl
      have hD9 := hD.sub (ws' := [(o1, .inl (ty 1, 1, .inr (.inl (fun _ => 0))))]) [0] (by decide) rfl
      refine W.widen (k := 5) (n := 30) (Nat.le_of_ble_eq_true rfl) (Nat.le_of_ble_eq_true rfl) ?_
      refine vx_ret ?_
      exact W.iret (v := 1) hx hb hr (fun t ht hW => ⟨⟨1, [(o1, .inl (ty 1, 1, .inr (.inl (fun _ => 0))))], rfl, (Or.inr (Or.inr (Or.inr (Or.inr (Or.inl ⟨rfl, c_12, c_13, c_14, c_15, c_16, c_17, rfl⟩))))), wq_B.of ht hP9 hD9⟩, hS.F ht⟩) hS.2.2 dL_addWeak_18
    · cases hEq
      have hP : va_P D vwCl [(o1, .inl (ty 1, 1, .inr (.inl (fun _ => 0))))] H := hP
      have hD : va_D A [(o1, .inl (ty 1, 1, .inr (.inl (fun _ => 0))))] := hD
      refine vx_widen (k := 5) (n := 30) (Nat.le_of_ble_eq_true rfl) (Nat.le_of_ble_eq_true rfl) ?_
      refine vx_catch (own := RL) (name := "java/lang/IllegalArgumentException") (E := "java/lang/IllegalArgumentException") hown [] ⟨0, 12, 15, 13⟩ [⟨0, 12, 19, 15⟩] (by rw [hTab]; rfl) (fun z hz => nomatch hz) (by decide) (by decide) (hts (.classLink RL 13 "java/lang/IllegalArgumentException") (by decide +kernel)) (va_Nw.use rfl (hE.ca "java/lang/IllegalArgumentException" "java/lang/IllegalArgumentException" (by decide +kernel))) hce hcv hcl ?_
      refine lv_astore (lv' := [(5, .ref q9), (0, .ref x0), (1, .int k1), (2, .int k2), (3, .int k3), (4, .ref o1)]) hx hb dL_addWeak_15 hl (by decide) rfl (fun ls hl => ?_)
      refine lv_iconst (v := 1) hx hb dL_addWeak_17 (by decide) ?_
      have hP9 := hP.sub (ws' := [(o1, .inl (ty 1, 1, .inr (.inl (fun _ => 0))))]) [0] rfl
      have hD9 := hD.sub (ws' := [(o1, .inl (ty 1, 1, .inr (.inl (fun _ => 0))))]) [0] (by decide) rfl
      refine W.widen (k := 5) (n := 30) (Nat.le_of_ble_eq_true rfl) (Nat.le_of_ble_eq_true rfl) ?_
      refine vx_ret ?_
      exact W.iret (v := 1) hx hb hr (fun t ht hW => ⟨⟨1, [(o1, .inl (ty 1, 1, .inr (.inl (fun _ => 0))))], rfl, (Or.inr (Or.inr (Or.inr (Or.inr (Or.inr (Or.inl ⟨rfl, c_18, c_19, c_20, c_21, rfl⟩)))))), wq_B.of ht hP9 hD9⟩, hS.F ht⟩) hS.2.2 dL_addWeak_18
  · obtain ⟨rfl, c_22, c_23, c_24, c_25, c_26, c_27, rfl⟩ := hw
    have hP : va_P D vwCl [(o1, .inl (ty 1, 1, .inr (.inl (fun _ => 0))))] H := hP
    have hD : va_D A [(o1, .inl (ty 1, 1, .inr (.inl (fun _ => 0))))] := hD
    refine W.widen (k := 5) (n := 30) (Nat.le_of_ble_eq_true rfl) (Nat.le_of_ble_eq_true rfl) ?_
    refine lv_i2l (v := 0) hx hb dL_addWeak_10 (by decide) ?_
    refine va_last (D := D) hx hb hK hP hD hS 0 1 rfl rfl (vp_in_iff.mpr (by decide)) dL_addWeak_11 (fun H locs hP hD hS => ?_)
    rw [wq_updL0] at hP hD
    have hP : va_P D vwCl [(o1, .inl (ty 1, 1, .inr (.inl (fun _ => 0))))] H := hP
    have hD : va_D A [(o1, .inl (ty 1, 1, .inr (.inl (fun _ => 0))))] := hD
    refine lv_goto (tgt := 23) hx hb dL_addWeak_12 (by decide) ?_
    refine lv_iconst (v := 0) hx hb dL_addWeak_23 (by decide) ?_
    have hP9 := hP.sub (ws' := [(o1, .inl (ty 1, 1, .inr (.inl (fun _ => 0))))]) [0] rfl
    have hD9 := hD.sub (ws' := [(o1, .inl (ty 1, 1, .inr (.inl (fun _ => 0))))]) [0] (by decide) rfl
    refine W.widen (k := 5) (n := 30) (Nat.le_of_ble_eq_true rfl) (Nat.le_of_ble_eq_true rfl) ?_
    refine vx_ret ?_
    exact W.iret (v := 0) hx hb hr (fun t ht hW => ⟨⟨0, [(o1, .inl (ty 1, 1, .inr (.inl (fun _ => 0))))], rfl, (Or.inr (Or.inr (Or.inr (Or.inr (Or.inr (Or.inr ⟨rfl, c_22, c_23, c_24, c_25, c_26, c_27, rfl⟩)))))), wq_B.of ht hP9 hD9⟩, hS.F ht⟩) hS.2.2 dL_addWeak_24
set_option maxHeartbeats 4000000 in
set_option maxRecDepth 100000 in
theorem k_L_addHead (l : Launch) (hl9 : l.stackTraces = false) (D : va_G) (ty : Nat → ClassId) (td sz : Nat) (x0 : Nat) (x1 : Nat) (x8 : Nat) (x20 : Nat) (x39 : Nat) (x41 : Nat) (x43 : Nat) (x45 : Nat) (x2 : Nat) (x3 : Nat) (x4 : Nat) (x5 : Nat) (x6 : Nat) (x7 : Nat) (o1 : Nat) (k1 : Int32) (k2 : Int32) (k3 : Int32) (k4 : Int32) : vx_Met l yL_addHead wsL_addHead { frames := 7, cells := 1, slots := 6, locals := 108 } (va_Pc [.ref x0, .int k1, .int k2, .int k3, .int k4, .ref o1] (wq_P D ty td [(x0, .inr (15, [.ref x1, .ref x8, .ref x20, .ref x39, .ref x41, .ref x43, .ref x45])), (x1, .inr (11, [.ref x2, .int 0, .ref x3, .int 0, .ref x4, .ref x5, .int 1, .ref x6, .ref x7, .int 0])), (o1, .inl (ty 1, 1, .inr (.inl (fun _ => 0))))] sz)) (va_Qi (fun (r : Int32) (u : va_W) => (r = 1 ∧ (u = [(o1, .inl (ty 1, 1, .inr (.inl (fun _ => 0))))]))) (wq_B D (va_A [(x0, .inr (15, [.ref x1, .ref x8, .ref x20, .ref x39, .ref x41, .ref x43, .ref x45])), (x1, .inr (11, [.ref x2, .int 0, .ref x3, .int 0, .ref x4, .ref x5, .int 1, .ref x6, .ref x7, .int 0])), (o1, .inl (ty 1, 1, .inr (.inl (fun _ => 0))))] sz)) (va_A [(x0, .inr (15, [.ref x1, .ref x8, .ref x20, .ref x39, .ref x41, .ref x43, .ref x45])), (x1, .inr (11, [.ref x2, .int 0, .ref x3, .int 0, .ref x4, .ref x5, .int 1, .ref x6, .ref x7, .int 0])), (o1, .inl (ty 1, 1, .inr (.inl (fun _ => 0))))] sz)) (vx_X (fun u : String × va_W => False) (wq_BX D (va_A [(x0, .inr (15, [.ref x1, .ref x8, .ref x20, .ref x39, .ref x41, .ref x43, .ref x45])), (x1, .inr (11, [.ref x2, .int 0, .ref x3, .int 0, .ref x4, .ref x5, .int 1, .ref x6, .ref x7, .int 0])), (o1, .inl (ty 1, 1, .inr (.inl (fun _ => 0))))] sz)) (va_A [(x0, .inr (15, [.ref x1, .ref x8, .ref x20, .ref x39, .ref x41, .ref x43, .ref x45])), (x1, .inr (11, [.ref x2, .int 0, .ref x3, .int 0, .ref x4, .ref x5, .int 1, .ref x6, .ref x7, .int 0])), (o1, .inl (ty 1, 1, .inr (.inl (fun _ => 0))))] sz)) 1 6 (va_A [(x0, .inr (15, [.ref x1, .ref x8, .ref x20, .ref x39, .ref x41, .ref x43, .ref x45])), (x1, .inr (11, [.ref x2, .int 0, .ref x3, .int 0, .ref x4, .ref x5, .int 1, .ref x6, .ref x7, .int 0])), (o1, .inl (ty 1, 1, .inr (.inl (fun _ => 0))))] sz) := by
  refine vx_ofWH (cc := cL_addHead) (maxL := 7) (ret := (some .int)) (hh := [(0, 14, 17, 31), (0, 14, 21, 13), (0, 14, 25, 15)]) (by decide) rfl ?_
  intro p e s m args below meth c s₁ B hml hv
  obtain ⟨rfl, hsz, hP, hK, hD0, hE⟩ := hv
  have hx := B.exec
  have hb := B.bytes
  have hr := B.returns
  have hts := atoms_spec (ws := wsL_addHead) B.pre
  have hown : s.vm.findClass RL = some m.cls := findClass_of_methodNamed B.named
  have hlocks := B.notSynchronized
  have hTab := vx_table B (hts _ List.mem_cons_self)
  subst hsz
  have hD := hD0.self (sz := s.heap.size)
  generalize hAe : va_A [(x0, .inr (15, [.ref x1, .ref x8, .ref x20, .ref x39, .ref x41, .ref x43, .ref x45])), (x1, .inr (11, [.ref x2, .int 0, .ref x3, .int 0, .ref x4, .ref x5, .int 1, .ref x6, .ref x7, .int 0])), (o1, .inl (ty 1, 1, .inr (.inl (fun _ => 0))))] s.heap.size = A at hD hE ⊢
  have hA : ∀ q : Nat, s.heap.size ≤ q → A q := fun q h => by rw [← hAe]; exact Or.inr h
  have hS : va_S A s.heap s.heap [] := va_S.rf
  have hP : va_P D vwCl [(x0, .inr (15, [.ref x1, .ref x8, .ref x20, .ref x39, .ref x41, .ref x43, .ref x45])), (x1, .inr (11, [.ref x2, .int 0, .ref x3, .int 0, .ref x4, .ref x5, .int 1, .ref x6, .ref x7, .int 0])), (o1, .inl (ty 1, 1, .inr (.inl (fun _ => 0))))] s.heap := hP
  have hl := lv_entry ([.ref x0, .int k1, .int k2, .int k3, .int k4, .ref o1]) (n := 7) (Nat.le_of_ble_eq_true rfl)
  rw [lg_entry_eq]
  generalize (lg_sl ([.ref x0, .int k1, .int k2, .int k3, .int k4, .ref o1]) ++ List.replicate (7 - (lg_sl ([.ref x0, .int k1, .int k2, .int k3, .int k4, .ref o1])).length) Slot.unset).toArray = ls at hl ⊢
  have hl : lv_has ls 7 [(0, .ref x0), (1, .int k1), (2, .int k2), (3, .int k3), (4, .int k4), (5, .ref o1)] := hl
  refine lv_aload hx hb dL_addHead_0 (lv_at hl 5 rfl) ?_
  refine lv_iconst (v := 0) hx hb dL_addHead_2 (by decide) ?_
  refine lv_aload_n hx hb dL_addHead_3 rfl (lv_at hl 0 rfl) ?_
  refine lv_iload_n hx hb dL_addHead_4 rfl (lv_at hl 1 rfl) ?_
  refine lv_iload_n hx hb dL_addHead_5 rfl (lv_at hl 2 rfl) ?_
  refine lv_iload_n hx hb dL_addHead_6 rfl (lv_at hl 3 rfl) ?_
  refine lv_iload hx hb dL_addHead_7 (lv_at hl 4 rfl) ?_
  refine wq_xi (wc := [(x0, .inr (15, [.ref x1, .ref x8, .ref x20, .ref x39, .ref x41, .ref x43, .ref x45])), (x1, .inr (11, [.ref x2, .int 0, .ref x3, .int 0, .ref x4, .ref x5, .int 1, .ref x6, .ref x7, .int 0]))]) (wr := [(o1, .inl (ty 1, 1, .inr (.inl (fun _ => 0))))]) (vx_runV (As := [.int k1, .int k2, .int k3, .int k4]) (rest := [.int 0, .ref o1]) ⟨hx, hb, hml, hown, hts⟩ (k_X10_addHead l hl9 D ty td s.heap.size x0 x1 x8 x20 x39 x41 x43 x45 x2 x3 x4 x5 x6 x7 k1 k2 k3 k4) (cwV 4 hts gL_addHead_X10_addHead rfl rfl rfl (by decide +kernel) ⟨(Nat.le_of_ble_eq_true rfl), (Nat.le_of_ble_eq_true rfl)⟩) (wq_preV hP hD hK hE hS hA [0, 1] rfl (by decide) 0 15 rfl rfl) rfl rfl hl.1 rfl (lv_room (Nat.le_of_ble_eq_true rfl)) dL_addHead_9 ⟨(Nat.le_of_ble_eq_true rfl), (Nat.le_of_ble_eq_true rfl)⟩) hS hA hP hD [0, 1] [2] rfl rfl (by decide) (by decide) (fun E9 u H locs q9 ce hw hP hD hS hce hcv hcl => ?_) (fun r u H locs hw hP hD hS => ?_)
  · have hEq := hw
    cases hEq
    have hP : va_P D vwCl [(o1, .inl (ty 1, 1, .inr (.inl (fun _ => 0))))] H := hP
    have hD : va_D A [(o1, .inl (ty 1, 1, .inr (.inl (fun _ => 0))))] := hD
    refine vx_widen (k := 1) (n := 6) (Nat.le_of_ble_eq_true rfl) (Nat.le_of_ble_eq_true rfl) ?_
    refine vx_catch (own := RL) (name := "java/lang/IndexOutOfBoundsException") (E := "java/lang/IndexOutOfBoundsException") hown [] ⟨0, 14, 17, 31⟩ [⟨0, 14, 21, 13⟩, ⟨0, 14, 25, 15⟩] (by rw [hTab]; rfl) (fun z hz => nomatch hz) (by decide) (by decide) (hts (.classLink RL 31 "java/lang/IndexOutOfBoundsException") (by decide +kernel)) (va_Nw.use rfl (hE.ca "java/lang/IndexOutOfBoundsException" "java/lang/IndexOutOfBoundsException" (by decide +kernel))) hce hcv hcl ?_
    refine lv_astore (lv' := [(6, .ref q9), (0, .ref x0), (1, .int k1), (2, .int k2), (3, .int k3), (4, .int k4), (5, .ref o1)]) hx hb dL_addHead_17 hl (by decide) rfl (fun ls hl => ?_)
    refine lv_iconst (v := 1) hx hb dL_addHead_19 (by decide) ?_
    have hP9 := hP.sub (ws' := [(o1, .inl (ty 1, 1, .inr (.inl (fun _ => 0))))]) [0] rfl
    have hD9 := hD.sub (ws' := [(o1, .inl (ty 1, 1, .inr (.inl (fun _ => 0))))]) [0] (by decide) rfl
    refine W.widen (k := 1) (n := 6) (Nat.le_of_ble_eq_true rfl) (Nat.le_of_ble_eq_true rfl) ?_
    refine vx_ret ?_
    exact W.iret (v := 1) hx hb hr (fun t ht hW => ⟨⟨1, [(o1, .inl (ty 1, 1, .inr (.inl (fun _ => 0))))], rfl, ⟨rfl, rfl⟩, wq_B.of ht hP9 hD9⟩, hS.F ht⟩) hS.2.2 dL_addHead_20
  · exact hw.elim
set_option maxHeartbeats 4000000 in
set_option maxRecDepth 100000 in
theorem k_L_addAtom (l : Launch) (hl9 : l.stackTraces = false) (D : va_G) (ty : Nat → ClassId) (td sz : Nat) (x0 : Nat) (x1 : Nat) (x8 : Nat) (x20 : Nat) (x39 : Nat) (x41 : Nat) (x43 : Nat) (x45 : Nat) (x2 : Nat) (x3 : Nat) (x4 : Nat) (x5 : Nat) (x6 : Nat) (x7 : Nat) (o1 : Nat) (k1 : Int32) (k2 : Int32) (k3 : Int32) (k4 : Int32) (k5 : Int32) : vx_Met l yL_addAtom wsL_addAtom { frames := 7, cells := 1, slots := 6, locals := 109 } (va_Pc [.ref x0, .int k1, .int k2, .int k3, .int k4, .int k5, .ref o1] (wq_P D ty td [(x0, .inr (15, [.ref x1, .ref x8, .ref x20, .ref x39, .ref x41, .ref x43, .ref x45])), (x1, .inr (11, [.ref x2, .int 0, .ref x3, .int 0, .ref x4, .ref x5, .int 1, .ref x6, .ref x7, .int 0])), (o1, .inl (ty 1, 1, .inr (.inl (fun _ => 0))))] sz)) (va_Qi (fun (r : Int32) (u : va_W) => (r = 1 ∧ (u = [(o1, .inl (ty 1, 1, .inr (.inl (fun _ => 0))))]))) (wq_B D (va_A [(x0, .inr (15, [.ref x1, .ref x8, .ref x20, .ref x39, .ref x41, .ref x43, .ref x45])), (x1, .inr (11, [.ref x2, .int 0, .ref x3, .int 0, .ref x4, .ref x5, .int 1, .ref x6, .ref x7, .int 0])), (o1, .inl (ty 1, 1, .inr (.inl (fun _ => 0))))] sz)) (va_A [(x0, .inr (15, [.ref x1, .ref x8, .ref x20, .ref x39, .ref x41, .ref x43, .ref x45])), (x1, .inr (11, [.ref x2, .int 0, .ref x3, .int 0, .ref x4, .ref x5, .int 1, .ref x6, .ref x7, .int 0])), (o1, .inl (ty 1, 1, .inr (.inl (fun _ => 0))))] sz)) (vx_X (fun u : String × va_W => False) (wq_BX D (va_A [(x0, .inr (15, [.ref x1, .ref x8, .ref x20, .ref x39, .ref x41, .ref x43, .ref x45])), (x1, .inr (11, [.ref x2, .int 0, .ref x3, .int 0, .ref x4, .ref x5, .int 1, .ref x6, .ref x7, .int 0])), (o1, .inl (ty 1, 1, .inr (.inl (fun _ => 0))))] sz)) (va_A [(x0, .inr (15, [.ref x1, .ref x8, .ref x20, .ref x39, .ref x41, .ref x43, .ref x45])), (x1, .inr (11, [.ref x2, .int 0, .ref x3, .int 0, .ref x4, .ref x5, .int 1, .ref x6, .ref x7, .int 0])), (o1, .inl (ty 1, 1, .inr (.inl (fun _ => 0))))] sz)) 1 6 (va_A [(x0, .inr (15, [.ref x1, .ref x8, .ref x20, .ref x39, .ref x41, .ref x43, .ref x45])), (x1, .inr (11, [.ref x2, .int 0, .ref x3, .int 0, .ref x4, .ref x5, .int 1, .ref x6, .ref x7, .int 0])), (o1, .inl (ty 1, 1, .inr (.inl (fun _ => 0))))] sz) := by
  refine vx_ofWH (cc := cL_addAtom) (maxL := 8) (ret := (some .int)) (hh := [(0, 16, 19, 31), (0, 16, 23, 13), (0, 16, 27, 15)]) (by decide) rfl ?_
  intro p e s m args below meth c s₁ B hml hv
  obtain ⟨rfl, hsz, hP, hK, hD0, hE⟩ := hv
  have hx := B.exec
  have hb := B.bytes
  have hr := B.returns
  have hts := atoms_spec (ws := wsL_addAtom) B.pre
  have hown : s.vm.findClass RL = some m.cls := findClass_of_methodNamed B.named
  have hlocks := B.notSynchronized
  have hTab := vx_table B (hts _ List.mem_cons_self)
  subst hsz
  have hD := hD0.self (sz := s.heap.size)
  generalize hAe : va_A [(x0, .inr (15, [.ref x1, .ref x8, .ref x20, .ref x39, .ref x41, .ref x43, .ref x45])), (x1, .inr (11, [.ref x2, .int 0, .ref x3, .int 0, .ref x4, .ref x5, .int 1, .ref x6, .ref x7, .int 0])), (o1, .inl (ty 1, 1, .inr (.inl (fun _ => 0))))] s.heap.size = A at hD hE ⊢
  have hA : ∀ q : Nat, s.heap.size ≤ q → A q := fun q h => by rw [← hAe]; exact Or.inr h
  have hS : va_S A s.heap s.heap [] := va_S.rf
  have hP : va_P D vwCl [(x0, .inr (15, [.ref x1, .ref x8, .ref x20, .ref x39, .ref x41, .ref x43, .ref x45])), (x1, .inr (11, [.ref x2, .int 0, .ref x3, .int 0, .ref x4, .ref x5, .int 1, .ref x6, .ref x7, .int 0])), (o1, .inl (ty 1, 1, .inr (.inl (fun _ => 0))))] s.heap := hP
  have hl := lv_entry ([.ref x0, .int k1, .int k2, .int k3, .int k4, .int k5, .ref o1]) (n := 8) (Nat.le_of_ble_eq_true rfl)
  rw [lg_entry_eq]
  generalize (lg_sl ([.ref x0, .int k1, .int k2, .int k3, .int k4, .int k5, .ref o1]) ++ List.replicate (8 - (lg_sl ([.ref x0, .int k1, .int k2, .int k3, .int k4, .int k5, .ref o1])).length) Slot.unset).toArray = ls at hl ⊢
  have hl : lv_has ls 8 [(0, .ref x0), (1, .int k1), (2, .int k2), (3, .int k3), (4, .int k4), (5, .int k5), (6, .ref o1)] := hl
  refine lv_aload hx hb dL_addAtom_0 (lv_at hl 6 rfl) ?_
  refine lv_iconst (v := 0) hx hb dL_addAtom_2 (by decide) ?_
  refine lv_aload_n hx hb dL_addAtom_3 rfl (lv_at hl 0 rfl) ?_
  refine lv_iload_n hx hb dL_addAtom_4 rfl (lv_at hl 1 rfl) ?_
  refine lv_iload_n hx hb dL_addAtom_5 rfl (lv_at hl 2 rfl) ?_
  refine lv_iload_n hx hb dL_addAtom_6 rfl (lv_at hl 3 rfl) ?_
  refine lv_iload hx hb dL_addAtom_7 (lv_at hl 4 rfl) ?_
  refine lv_iload hx hb dL_addAtom_9 (lv_at hl 5 rfl) ?_
  refine wq_xi (wc := [(x0, .inr (15, [.ref x1, .ref x8, .ref x20, .ref x39, .ref x41, .ref x43, .ref x45])), (x1, .inr (11, [.ref x2, .int 0, .ref x3, .int 0, .ref x4, .ref x5, .int 1, .ref x6, .ref x7, .int 0]))]) (wr := [(o1, .inl (ty 1, 1, .inr (.inl (fun _ => 0))))]) (vx_runV (As := [.int k1, .int k2, .int k3, .int k4, .int k5]) (rest := [.int 0, .ref o1]) ⟨hx, hb, hml, hown, hts⟩ (k_X10_addAtom l hl9 D ty td s.heap.size x0 x1 x8 x20 x39 x41 x43 x45 x2 x3 x4 x5 x6 x7 k1 k2 k3 k4 k5) (cwV 5 hts gL_addAtom_X10_addAtom rfl rfl rfl (by decide +kernel) ⟨(Nat.le_of_ble_eq_true rfl), (Nat.le_of_ble_eq_true rfl)⟩) (wq_preV hP hD hK hE hS hA [0, 1] rfl (by decide) 0 15 rfl rfl) rfl rfl hl.1 rfl (lv_room (Nat.le_of_ble_eq_true rfl)) dL_addAtom_11 ⟨(Nat.le_of_ble_eq_true rfl), (Nat.le_of_ble_eq_true rfl)⟩) hS hA hP hD [0, 1] [2] rfl rfl (by decide) (by decide) (fun E9 u H locs q9 ce hw hP hD hS hce hcv hcl => ?_) (fun r u H locs hw hP hD hS => ?_)
  · have hEq := hw
    cases hEq
    have hP : va_P D vwCl [(o1, .inl (ty 1, 1, .inr (.inl (fun _ => 0))))] H := hP
    have hD : va_D A [(o1, .inl (ty 1, 1, .inr (.inl (fun _ => 0))))] := hD
    refine vx_widen (k := 1) (n := 6) (Nat.le_of_ble_eq_true rfl) (Nat.le_of_ble_eq_true rfl) ?_
    refine vx_catch (own := RL) (name := "java/lang/IndexOutOfBoundsException") (E := "java/lang/IndexOutOfBoundsException") hown [] ⟨0, 16, 19, 31⟩ [⟨0, 16, 23, 13⟩, ⟨0, 16, 27, 15⟩] (by rw [hTab]; rfl) (fun z hz => nomatch hz) (by decide) (by decide) (hts (.classLink RL 31 "java/lang/IndexOutOfBoundsException") (by decide +kernel)) (va_Nw.use rfl (hE.ca "java/lang/IndexOutOfBoundsException" "java/lang/IndexOutOfBoundsException" (by decide +kernel))) hce hcv hcl ?_
    refine lv_astore (lv' := [(7, .ref q9), (0, .ref x0), (1, .int k1), (2, .int k2), (3, .int k3), (4, .int k4), (5, .int k5), (6, .ref o1)]) hx hb dL_addAtom_19 hl (by decide) rfl (fun ls hl => ?_)
    refine lv_iconst (v := 1) hx hb dL_addAtom_21 (by decide) ?_
    have hP9 := hP.sub (ws' := [(o1, .inl (ty 1, 1, .inr (.inl (fun _ => 0))))]) [0] rfl
    have hD9 := hD.sub (ws' := [(o1, .inl (ty 1, 1, .inr (.inl (fun _ => 0))))]) [0] (by decide) rfl
    refine W.widen (k := 1) (n := 6) (Nat.le_of_ble_eq_true rfl) (Nat.le_of_ble_eq_true rfl) ?_
    refine vx_ret ?_
    exact W.iret (v := 1) hx hb hr (fun t ht hW => ⟨⟨1, [(o1, .inl (ty 1, 1, .inr (.inl (fun _ => 0))))], rfl, ⟨rfl, rfl⟩, wq_B.of ht hP9 hD9⟩, hS.F ht⟩) hS.2.2 dL_addAtom_22
  · exact hw.elim
set_option maxHeartbeats 4000000 in
set_option maxRecDepth 100000 in
theorem k_L_addTest (l : Launch) (hl9 : l.stackTraces = false) (D : va_G) (ty : Nat → ClassId) (td sz : Nat) (x0 : Nat) (x1 : Nat) (x8 : Nat) (x20 : Nat) (x39 : Nat) (x41 : Nat) (x43 : Nat) (x45 : Nat) (x2 : Nat) (x3 : Nat) (x4 : Nat) (x5 : Nat) (x6 : Nat) (x7 : Nat) (o1 : Nat) (k1 : Int32) (k2 : Int32) (k3 : Int32) (k4 : Int32) : vx_Met l yL_addTest wsL_addTest { frames := 7, cells := 1, slots := 6, locals := 107 } (va_Pc [.ref x0, .int k1, .int k2, .int k3, .int k4, .ref o1] (wq_P D ty td [(x0, .inr (15, [.ref x1, .ref x8, .ref x20, .ref x39, .ref x41, .ref x43, .ref x45])), (x1, .inr (11, [.ref x2, .int 0, .ref x3, .int 0, .ref x4, .ref x5, .int 1, .ref x6, .ref x7, .int 0])), (o1, .inl (ty 1, 1, .inr (.inl (fun _ => 0))))] sz)) (va_Qi (fun (r : Int32) (u : va_W) => (r = 1 ∧ (u = [(o1, .inl (ty 1, 1, .inr (.inl (fun _ => 0))))]))) (wq_B D (va_A [(x0, .inr (15, [.ref x1, .ref x8, .ref x20, .ref x39, .ref x41, .ref x43, .ref x45])), (x1, .inr (11, [.ref x2, .int 0, .ref x3, .int 0, .ref x4, .ref x5, .int 1, .ref x6, .ref x7, .int 0])), (o1, .inl (ty 1, 1, .inr (.inl (fun _ => 0))))] sz)) (va_A [(x0, .inr (15, [.ref x1, .ref x8, .ref x20, .ref x39, .ref x41, .ref x43, .ref x45])), (x1, .inr (11, [.ref x2, .int 0, .ref x3, .int 0, .ref x4, .ref x5, .int 1, .ref x6, .ref x7, .int 0])), (o1, .inl (ty 1, 1, .inr (.inl (fun _ => 0))))] sz)) (vx_X (fun u : String × va_W => False) (wq_BX D (va_A [(x0, .inr (15, [.ref x1, .ref x8, .ref x20, .ref x39, .ref x41, .ref x43, .ref x45])), (x1, .inr (11, [.ref x2, .int 0, .ref x3, .int 0, .ref x4, .ref x5, .int 1, .ref x6, .ref x7, .int 0])), (o1, .inl (ty 1, 1, .inr (.inl (fun _ => 0))))] sz)) (va_A [(x0, .inr (15, [.ref x1, .ref x8, .ref x20, .ref x39, .ref x41, .ref x43, .ref x45])), (x1, .inr (11, [.ref x2, .int 0, .ref x3, .int 0, .ref x4, .ref x5, .int 1, .ref x6, .ref x7, .int 0])), (o1, .inl (ty 1, 1, .inr (.inl (fun _ => 0))))] sz)) 1 6 (va_A [(x0, .inr (15, [.ref x1, .ref x8, .ref x20, .ref x39, .ref x41, .ref x43, .ref x45])), (x1, .inr (11, [.ref x2, .int 0, .ref x3, .int 0, .ref x4, .ref x5, .int 1, .ref x6, .ref x7, .int 0])), (o1, .inl (ty 1, 1, .inr (.inl (fun _ => 0))))] sz) := by
  refine vx_ofWH (cc := cL_addTest) (maxL := 7) (ret := (some .int)) (hh := [(0, 14, 17, 31), (0, 14, 21, 13), (0, 14, 25, 15)]) (by decide) rfl ?_
  intro p e s m args below meth c s₁ B hml hv
  obtain ⟨rfl, hsz, hP, hK, hD0, hE⟩ := hv
  have hx := B.exec
  have hb := B.bytes
  have hr := B.returns
  have hts := atoms_spec (ws := wsL_addTest) B.pre
  have hown : s.vm.findClass RL = some m.cls := findClass_of_methodNamed B.named
  have hlocks := B.notSynchronized
  have hTab := vx_table B (hts _ List.mem_cons_self)
  subst hsz
  have hD := hD0.self (sz := s.heap.size)
  generalize hAe : va_A [(x0, .inr (15, [.ref x1, .ref x8, .ref x20, .ref x39, .ref x41, .ref x43, .ref x45])), (x1, .inr (11, [.ref x2, .int 0, .ref x3, .int 0, .ref x4, .ref x5, .int 1, .ref x6, .ref x7, .int 0])), (o1, .inl (ty 1, 1, .inr (.inl (fun _ => 0))))] s.heap.size = A at hD hE ⊢
  have hA : ∀ q : Nat, s.heap.size ≤ q → A q := fun q h => by rw [← hAe]; exact Or.inr h
  have hS : va_S A s.heap s.heap [] := va_S.rf
  have hP : va_P D vwCl [(x0, .inr (15, [.ref x1, .ref x8, .ref x20, .ref x39, .ref x41, .ref x43, .ref x45])), (x1, .inr (11, [.ref x2, .int 0, .ref x3, .int 0, .ref x4, .ref x5, .int 1, .ref x6, .ref x7, .int 0])), (o1, .inl (ty 1, 1, .inr (.inl (fun _ => 0))))] s.heap := hP
  have hl := lv_entry ([.ref x0, .int k1, .int k2, .int k3, .int k4, .ref o1]) (n := 7) (Nat.le_of_ble_eq_true rfl)
  rw [lg_entry_eq]
  generalize (lg_sl ([.ref x0, .int k1, .int k2, .int k3, .int k4, .ref o1]) ++ List.replicate (7 - (lg_sl ([.ref x0, .int k1, .int k2, .int k3, .int k4, .ref o1])).length) Slot.unset).toArray = ls at hl ⊢
  have hl : lv_has ls 7 [(0, .ref x0), (1, .int k1), (2, .int k2), (3, .int k3), (4, .int k4), (5, .ref o1)] := hl
  refine lv_aload hx hb dL_addTest_0 (lv_at hl 5 rfl) ?_
  refine lv_iconst (v := 0) hx hb dL_addTest_2 (by decide) ?_
  refine lv_aload_n hx hb dL_addTest_3 rfl (lv_at hl 0 rfl) ?_
  refine lv_iload_n hx hb dL_addTest_4 rfl (lv_at hl 1 rfl) ?_
  refine lv_iload_n hx hb dL_addTest_5 rfl (lv_at hl 2 rfl) ?_
  refine lv_iload_n hx hb dL_addTest_6 rfl (lv_at hl 3 rfl) ?_
  refine lv_iload hx hb dL_addTest_7 (lv_at hl 4 rfl) ?_
  refine wq_xi (wc := [(x0, .inr (15, [.ref x1, .ref x8, .ref x20, .ref x39, .ref x41, .ref x43, .ref x45])), (x1, .inr (11, [.ref x2, .int 0, .ref x3, .int 0, .ref x4, .ref x5, .int 1, .ref x6, .ref x7, .int 0]))]) (wr := [(o1, .inl (ty 1, 1, .inr (.inl (fun _ => 0))))]) (vx_runV (As := [.int k1, .int k2, .int k3, .int k4]) (rest := [.int 0, .ref o1]) ⟨hx, hb, hml, hown, hts⟩ (k_X10_addTest l hl9 D ty td s.heap.size x0 x1 x8 x20 x39 x41 x43 x45 x2 x3 x4 x5 x6 x7 k1 k2 k3 k4) (cwV 4 hts gL_addTest_X10_addTest rfl rfl rfl (by decide +kernel) ⟨(Nat.le_of_ble_eq_true rfl), (Nat.le_of_ble_eq_true rfl)⟩) (wq_preV hP hD hK hE hS hA [0, 1] rfl (by decide) 0 15 rfl rfl) rfl rfl hl.1 rfl (lv_room (Nat.le_of_ble_eq_true rfl)) dL_addTest_9 ⟨(Nat.le_of_ble_eq_true rfl), (Nat.le_of_ble_eq_true rfl)⟩) hS hA hP hD [0, 1] [2] rfl rfl (by decide) (by decide) (fun E9 u H locs q9 ce hw hP hD hS hce hcv hcl => ?_) (fun r u H locs hw hP hD hS => ?_)
  · have hEq := hw
    cases hEq
    have hP : va_P D vwCl [(o1, .inl (ty 1, 1, .inr (.inl (fun _ => 0))))] H := hP
    have hD : va_D A [(o1, .inl (ty 1, 1, .inr (.inl (fun _ => 0))))] := hD
    refine vx_widen (k := 1) (n := 6) (Nat.le_of_ble_eq_true rfl) (Nat.le_of_ble_eq_true rfl) ?_
    refine vx_catch (own := RL) (name := "java/lang/IndexOutOfBoundsException") (E := "java/lang/IndexOutOfBoundsException") hown [] ⟨0, 14, 17, 31⟩ [⟨0, 14, 21, 13⟩, ⟨0, 14, 25, 15⟩] (by rw [hTab]; rfl) (fun z hz => nomatch hz) (by decide) (by decide) (hts (.classLink RL 31 "java/lang/IndexOutOfBoundsException") (by decide +kernel)) (va_Nw.use rfl (hE.ca "java/lang/IndexOutOfBoundsException" "java/lang/IndexOutOfBoundsException" (by decide +kernel))) hce hcv hcl ?_
    refine lv_astore (lv' := [(6, .ref q9), (0, .ref x0), (1, .int k1), (2, .int k2), (3, .int k3), (4, .int k4), (5, .ref o1)]) hx hb dL_addTest_17 hl (by decide) rfl (fun ls hl => ?_)
    refine lv_iconst (v := 1) hx hb dL_addTest_19 (by decide) ?_
    have hP9 := hP.sub (ws' := [(o1, .inl (ty 1, 1, .inr (.inl (fun _ => 0))))]) [0] rfl
    have hD9 := hD.sub (ws' := [(o1, .inl (ty 1, 1, .inr (.inl (fun _ => 0))))]) [0] (by decide) rfl
    refine W.widen (k := 1) (n := 6) (Nat.le_of_ble_eq_true rfl) (Nat.le_of_ble_eq_true rfl) ?_
    refine vx_ret ?_
    exact W.iret (v := 1) hx hb hr (fun t ht hW => ⟨⟨1, [(o1, .inl (ty 1, 1, .inr (.inl (fun _ => 0))))], rfl, ⟨rfl, rfl⟩, wq_B.of ht hP9 hD9⟩, hS.F ht⟩) hS.2.2 dL_addTest_20
  · exact hw.elim
set_option maxHeartbeats 4000000 in
set_option maxRecDepth 100000 in
theorem k_L_addCount (l : Launch) (hl9 : l.stackTraces = false) (D : va_G) (ty : Nat → ClassId) (td sz : Nat) (x0 : Nat) (x1 : Nat) (x8 : Nat) (x20 : Nat) (x39 : Nat) (x41 : Nat) (x43 : Nat) (x45 : Nat) (x2 : Nat) (x3 : Nat) (x4 : Nat) (x5 : Nat) (x6 : Nat) (x7 : Nat) (o1 : Nat) (k1 : Int32) (k2 : Int32) (k3 : Int32) (k4 : Int32) : vx_Met l yL_addCount wsL_addCount { frames := 7, cells := 1, slots := 6, locals := 107 } (va_Pc [.ref x0, .int k1, .int k2, .int k3, .int k4, .ref o1] (wq_P D ty td [(x0, .inr (15, [.ref x1, .ref x8, .ref x20, .ref x39, .ref x41, .ref x43, .ref x45])), (x1, .inr (11, [.ref x2, .int 0, .ref x3, .int 0, .ref x4, .ref x5, .int 1, .ref x6, .ref x7, .int 0])), (o1, .inl (ty 1, 1, .inr (.inl (fun _ => 0))))] sz)) (va_Qi (fun (r : Int32) (u : va_W) => (r = 1 ∧ (u = [(o1, .inl (ty 1, 1, .inr (.inl (fun _ => 0))))]))) (wq_B D (va_A [(x0, .inr (15, [.ref x1, .ref x8, .ref x20, .ref x39, .ref x41, .ref x43, .ref x45])), (x1, .inr (11, [.ref x2, .int 0, .ref x3, .int 0, .ref x4, .ref x5, .int 1, .ref x6, .ref x7, .int 0])), (o1, .inl (ty 1, 1, .inr (.inl (fun _ => 0))))] sz)) (va_A [(x0, .inr (15, [.ref x1, .ref x8, .ref x20, .ref x39, .ref x41, .ref x43, .ref x45])), (x1, .inr (11, [.ref x2, .int 0, .ref x3, .int 0, .ref x4, .ref x5, .int 1, .ref x6, .ref x7, .int 0])), (o1, .inl (ty 1, 1, .inr (.inl (fun _ => 0))))] sz)) (vx_X (fun u : String × va_W => False) (wq_BX D (va_A [(x0, .inr (15, [.ref x1, .ref x8, .ref x20, .ref x39, .ref x41, .ref x43, .ref x45])), (x1, .inr (11, [.ref x2, .int 0, .ref x3, .int 0, .ref x4, .ref x5, .int 1, .ref x6, .ref x7, .int 0])), (o1, .inl (ty 1, 1, .inr (.inl (fun _ => 0))))] sz)) (va_A [(x0, .inr (15, [.ref x1, .ref x8, .ref x20, .ref x39, .ref x41, .ref x43, .ref x45])), (x1, .inr (11, [.ref x2, .int 0, .ref x3, .int 0, .ref x4, .ref x5, .int 1, .ref x6, .ref x7, .int 0])), (o1, .inl (ty 1, 1, .inr (.inl (fun _ => 0))))] sz)) 1 6 (va_A [(x0, .inr (15, [.ref x1, .ref x8, .ref x20, .ref x39, .ref x41, .ref x43, .ref x45])), (x1, .inr (11, [.ref x2, .int 0, .ref x3, .int 0, .ref x4, .ref x5, .int 1, .ref x6, .ref x7, .int 0])), (o1, .inl (ty 1, 1, .inr (.inl (fun _ => 0))))] sz) := by
  refine vx_ofWH (cc := cL_addCount) (maxL := 7) (ret := (some .int)) (hh := [(0, 14, 17, 31), (0, 14, 21, 13), (0, 14, 25, 15)]) (by decide) rfl ?_
  intro p e s m args below meth c s₁ B hml hv
  obtain ⟨rfl, hsz, hP, hK, hD0, hE⟩ := hv
  have hx := B.exec
  have hb := B.bytes
  have hr := B.returns
  have hts := atoms_spec (ws := wsL_addCount) B.pre
  have hown : s.vm.findClass RL = some m.cls := findClass_of_methodNamed B.named
  have hlocks := B.notSynchronized
  have hTab := vx_table B (hts _ List.mem_cons_self)
  subst hsz
  have hD := hD0.self (sz := s.heap.size)
  generalize hAe : va_A [(x0, .inr (15, [.ref x1, .ref x8, .ref x20, .ref x39, .ref x41, .ref x43, .ref x45])), (x1, .inr (11, [.ref x2, .int 0, .ref x3, .int 0, .ref x4, .ref x5, .int 1, .ref x6, .ref x7, .int 0])), (o1, .inl (ty 1, 1, .inr (.inl (fun _ => 0))))] s.heap.size = A at hD hE ⊢
  have hA : ∀ q : Nat, s.heap.size ≤ q → A q := fun q h => by rw [← hAe]; exact Or.inr h
  have hS : va_S A s.heap s.heap [] := va_S.rf
  have hP : va_P D vwCl [(x0, .inr (15, [.ref x1, .ref x8, .ref x20, .ref x39, .ref x41, .ref x43, .ref x45])), (x1, .inr (11, [.ref x2, .int 0, .ref x3, .int 0, .ref x4, .ref x5, .int 1, .ref x6, .ref x7, .int 0])), (o1, .inl (ty 1, 1, .inr (.inl (fun _ => 0))))] s.heap := hP
  have hl := lv_entry ([.ref x0, .int k1, .int k2, .int k3, .int k4, .ref o1]) (n := 7) (Nat.le_of_ble_eq_true rfl)
  rw [lg_entry_eq]
  generalize (lg_sl ([.ref x0, .int k1, .int k2, .int k3, .int k4, .ref o1]) ++ List.replicate (7 - (lg_sl ([.ref x0, .int k1, .int k2, .int k3, .int k4, .ref o1])).length) Slot.unset).toArray = ls at hl ⊢
  have hl : lv_has ls 7 [(0, .ref x0), (1, .int k1), (2, .int k2), (3, .int k3), (4, .int k4), (5, .ref o1)] := hl
  refine lv_aload hx hb dL_addCount_0 (lv_at hl 5 rfl) ?_
  refine lv_iconst (v := 0) hx hb dL_addCount_2 (by decide) ?_
  refine lv_aload_n hx hb dL_addCount_3 rfl (lv_at hl 0 rfl) ?_
  refine lv_iload_n hx hb dL_addCount_4 rfl (lv_at hl 1 rfl) ?_
  refine lv_iload_n hx hb dL_addCount_5 rfl (lv_at hl 2 rfl) ?_
  refine lv_iload_n hx hb dL_addCount_6 rfl (lv_at hl 3 rfl) ?_
  refine lv_iload hx hb dL_addCount_7 (lv_at hl 4 rfl) ?_
  refine wq_xi (wc := [(x0, .inr (15, [.ref x1, .ref x8, .ref x20, .ref x39, .ref x41, .ref x43, .ref x45])), (x1, .inr (11, [.ref x2, .int 0, .ref x3, .int 0, .ref x4, .ref x5, .int 1, .ref x6, .ref x7, .int 0]))]) (wr := [(o1, .inl (ty 1, 1, .inr (.inl (fun _ => 0))))]) (vx_runV (As := [.int k1, .int k2, .int k3, .int k4]) (rest := [.int 0, .ref o1]) ⟨hx, hb, hml, hown, hts⟩ (k_X10_addCount l hl9 D ty td s.heap.size x0 x1 x8 x20 x39 x41 x43 x45 x2 x3 x4 x5 x6 x7 k1 k2 k3 k4) (cwV 4 hts gL_addCount_X10_addCount rfl rfl rfl (by decide +kernel) ⟨(Nat.le_of_ble_eq_true rfl), (Nat.le_of_ble_eq_true rfl)⟩) (wq_preV hP hD hK hE hS hA [0, 1] rfl (by decide) 0 15 rfl rfl) rfl rfl hl.1 rfl (lv_room (Nat.le_of_ble_eq_true rfl)) dL_addCount_9 ⟨(Nat.le_of_ble_eq_true rfl), (Nat.le_of_ble_eq_true rfl)⟩) hS hA hP hD [0, 1] [2] rfl rfl (by decide) (by decide) (fun E9 u H locs q9 ce hw hP hD hS hce hcv hcl => ?_) (fun r u H locs hw hP hD hS => ?_)
  · have hEq := hw
    cases hEq
    have hP : va_P D vwCl [(o1, .inl (ty 1, 1, .inr (.inl (fun _ => 0))))] H := hP
    have hD : va_D A [(o1, .inl (ty 1, 1, .inr (.inl (fun _ => 0))))] := hD
    refine vx_widen (k := 1) (n := 6) (Nat.le_of_ble_eq_true rfl) (Nat.le_of_ble_eq_true rfl) ?_
    refine vx_catch (own := RL) (name := "java/lang/IndexOutOfBoundsException") (E := "java/lang/IndexOutOfBoundsException") hown [] ⟨0, 14, 17, 31⟩ [⟨0, 14, 21, 13⟩, ⟨0, 14, 25, 15⟩] (by rw [hTab]; rfl) (fun z hz => nomatch hz) (by decide) (by decide) (hts (.classLink RL 31 "java/lang/IndexOutOfBoundsException") (by decide +kernel)) (va_Nw.use rfl (hE.ca "java/lang/IndexOutOfBoundsException" "java/lang/IndexOutOfBoundsException" (by decide +kernel))) hce hcv hcl ?_
    refine lv_astore (lv' := [(6, .ref q9), (0, .ref x0), (1, .int k1), (2, .int k2), (3, .int k3), (4, .int k4), (5, .ref o1)]) hx hb dL_addCount_17 hl (by decide) rfl (fun ls hl => ?_)
    refine lv_iconst (v := 1) hx hb dL_addCount_19 (by decide) ?_
    have hP9 := hP.sub (ws' := [(o1, .inl (ty 1, 1, .inr (.inl (fun _ => 0))))]) [0] rfl
    have hD9 := hD.sub (ws' := [(o1, .inl (ty 1, 1, .inr (.inl (fun _ => 0))))]) [0] (by decide) rfl
    refine W.widen (k := 1) (n := 6) (Nat.le_of_ble_eq_true rfl) (Nat.le_of_ble_eq_true rfl) ?_
    refine vx_ret ?_
    exact W.iret (v := 1) hx hb hr (fun t ht hW => ⟨⟨1, [(o1, .inl (ty 1, 1, .inr (.inl (fun _ => 0))))], rfl, ⟨rfl, rfl⟩, wq_B.of ht hP9 hD9⟩, hS.F ht⟩) hS.2.2 dL_addCount_20
  · exact hw.elim
set_option maxHeartbeats 4000000 in
set_option maxRecDepth 100000 in
theorem k_L_ground (l : Launch) (hl9 : l.stackTraces = false) (D : va_G) (ty : Nat → ClassId) (td sz : Nat) (x0 : Nat) (x1 : Nat) (x8 : Nat) (x20 : Nat) (x39 : Nat) (x41 : Nat) (x43 : Nat) (x45 : Nat) (x2 : Nat) (x3 : Nat) (x4 : Nat) (x5 : Nat) (x6 : Nat) (x7 : Nat) (x9 : Nat) (x10 : Nat) (x12 : Nat) (x14 : Nat) (x15 : Nat) (x16 : Nat) (x17 : Nat) (x18 : Nat) (x19 : Nat) (x21 : Nat) (x28 : Nat) (x35 : Nat) (x36 : Nat) (x37 : Nat) (x38 : Nat) (x46 : Nat) (x47 : Nat) (o1 : Nat) (k1 : Int32) (k2 : Int32) : vx_Met l yL_ground wsL_ground { frames := 7, cells := 1, slots := 6, locals := 104 } (va_Pc [.ref x0, .int k1, .int k2, .ref o1] (wq_P D ty td [(x0, .inr (15, [.ref x1, .ref x8, .ref x20, .ref x39, .ref x41, .ref x43, .ref x45])), (x1, .inr (11, [.ref x2, .int 0, .ref x3, .int 0, .ref x4, .ref x5, .int 1, .ref x6, .ref x7, .int 0])), (x4, .inl (ty 0, 7, .inl (fun _ => 0))), (x5, .inl (ty 0, 7, .inl (fun _ => 0))), (x8, .inr (8, [.ref x1, .ref x9, .ref x10, .ref x12, .ref x14, .int 0, .ref x15, .ref x16, .ref x17, .int 0, .ref x18, .ref x19, .int 0, .int 0, .int 0, .int 0])), (x20, .inr (14, [.ref x1, .ref x8, .ref x21, .ref x28, .ref x35, .int 0, .ref x36, .ref x37, .ref x38, .int 0, .int 0, .int 0, .int 0, .int 0, .int 0, .int 0, .int 0])), (x45, .inr (5, [.ref x46, .ref x47, .int 0, .int 0])), (o1, .inl (ty 1, 1, .inr (.inl (fun _ => 0))))] sz)) (va_Qi (fun (r : Int32) (u : va_W) => (r = 1 ∧ (k1 < 1) ∧ (u = [(o1, .inl (ty 1, 1, .inr (.inl (fun _ => 0))))])) ∨ (r = 1 ∧ (¬ (k1 < 1)) ∧ (3 < k1) ∧ (u = [(o1, .inl (ty 1, 1, .inr (.inl (fun _ => 0))))])) ∨ (r = 1 ∧ (¬ (k1 < 1)) ∧ (¬ (3 < k1)) ∧ (k2 < 0) ∧ (u = [(o1, .inl (ty 1, 1, .inr (.inl (fun _ => 0))))])) ∨ (r = 1 ∧ (¬ (k1 < 1)) ∧ (¬ (3 < k1)) ∧ (¬ (k2 < 0)) ∧ (8 ≤ k2) ∧ (u = [(o1, .inl (ty 1, 1, .inr (.inl (fun _ => 0))))])) ∨ (r = 2 ∧ (¬ (k1 < 1)) ∧ (¬ (3 < k1)) ∧ (¬ (k2 < 0)) ∧ (¬ (8 ≤ k2)) ∧ (¬ (0 = k1)) ∧ ((-1) = k2) ∧ (u = [(o1, .inl (ty 1, 1, .inr (.inl (fun _ => 0))))])) ∨ (r = 2 ∧ (¬ (k1 < 1)) ∧ (¬ (3 < k1)) ∧ (¬ (k2 < 0)) ∧ (¬ (8 ≤ k2)) ∧ (0 = k1) ∧ (0 = k2) ∧ (u = [(o1, .inl (ty 1, 1, .inr (.inl (fun _ => 0))))])) ∨ (r = 0 ∧ (¬ (k1 < 1)) ∧ (¬ (3 < k1)) ∧ (¬ (k2 < 0)) ∧ (¬ (8 ≤ k2)) ∧ (¬ (0 = k1)) ∧ (¬ ((-1) = k2)) ∧ (u = [(o1, .inl (ty 1, 1, .inr (.inl (vp_updL (fun _ => 0) (0 : Int32).toNatClampNeg 1))))])) ∨ (r = 0 ∧ (¬ (k1 < 1)) ∧ (¬ (3 < k1)) ∧ (¬ (k2 < 0)) ∧ (¬ (8 ≤ k2)) ∧ (0 = k1) ∧ (¬ (0 = k2)) ∧ (u = [(o1, .inl (ty 1, 1, .inr (.inl (vp_updL (fun _ => 0) (0 : Int32).toNatClampNeg 1))))]))) (wq_B D (va_A [(x0, .inr (15, [.ref x1, .ref x8, .ref x20, .ref x39, .ref x41, .ref x43, .ref x45])), (x1, .inr (11, [.ref x2, .int 0, .ref x3, .int 0, .ref x4, .ref x5, .int 1, .ref x6, .ref x7, .int 0])), (x4, .inl (ty 0, 7, .inl (fun _ => 0))), (x5, .inl (ty 0, 7, .inl (fun _ => 0))), (x8, .inr (8, [.ref x1, .ref x9, .ref x10, .ref x12, .ref x14, .int 0, .ref x15, .ref x16, .ref x17, .int 0, .ref x18, .ref x19, .int 0, .int 0, .int 0, .int 0])), (x20, .inr (14, [.ref x1, .ref x8, .ref x21, .ref x28, .ref x35, .int 0, .ref x36, .ref x37, .ref x38, .int 0, .int 0, .int 0, .int 0, .int 0, .int 0, .int 0, .int 0])), (x45, .inr (5, [.ref x46, .ref x47, .int 0, .int 0])), (o1, .inl (ty 1, 1, .inr (.inl (fun _ => 0))))] sz)) (va_A [(x0, .inr (15, [.ref x1, .ref x8, .ref x20, .ref x39, .ref x41, .ref x43, .ref x45])), (x1, .inr (11, [.ref x2, .int 0, .ref x3, .int 0, .ref x4, .ref x5, .int 1, .ref x6, .ref x7, .int 0])), (x4, .inl (ty 0, 7, .inl (fun _ => 0))), (x5, .inl (ty 0, 7, .inl (fun _ => 0))), (x8, .inr (8, [.ref x1, .ref x9, .ref x10, .ref x12, .ref x14, .int 0, .ref x15, .ref x16, .ref x17, .int 0, .ref x18, .ref x19, .int 0, .int 0, .int 0, .int 0])), (x20, .inr (14, [.ref x1, .ref x8, .ref x21, .ref x28, .ref x35, .int 0, .ref x36, .ref x37, .ref x38, .int 0, .int 0, .int 0, .int 0, .int 0, .int 0, .int 0, .int 0])), (x45, .inr (5, [.ref x46, .ref x47, .int 0, .int 0])), (o1, .inl (ty 1, 1, .inr (.inl (fun _ => 0))))] sz)) (vx_X (fun u : String × va_W => False) (wq_BX D (va_A [(x0, .inr (15, [.ref x1, .ref x8, .ref x20, .ref x39, .ref x41, .ref x43, .ref x45])), (x1, .inr (11, [.ref x2, .int 0, .ref x3, .int 0, .ref x4, .ref x5, .int 1, .ref x6, .ref x7, .int 0])), (x4, .inl (ty 0, 7, .inl (fun _ => 0))), (x5, .inl (ty 0, 7, .inl (fun _ => 0))), (x8, .inr (8, [.ref x1, .ref x9, .ref x10, .ref x12, .ref x14, .int 0, .ref x15, .ref x16, .ref x17, .int 0, .ref x18, .ref x19, .int 0, .int 0, .int 0, .int 0])), (x20, .inr (14, [.ref x1, .ref x8, .ref x21, .ref x28, .ref x35, .int 0, .ref x36, .ref x37, .ref x38, .int 0, .int 0, .int 0, .int 0, .int 0, .int 0, .int 0, .int 0])), (x45, .inr (5, [.ref x46, .ref x47, .int 0, .int 0])), (o1, .inl (ty 1, 1, .inr (.inl (fun _ => 0))))] sz)) (va_A [(x0, .inr (15, [.ref x1, .ref x8, .ref x20, .ref x39, .ref x41, .ref x43, .ref x45])), (x1, .inr (11, [.ref x2, .int 0, .ref x3, .int 0, .ref x4, .ref x5, .int 1, .ref x6, .ref x7, .int 0])), (x4, .inl (ty 0, 7, .inl (fun _ => 0))), (x5, .inl (ty 0, 7, .inl (fun _ => 0))), (x8, .inr (8, [.ref x1, .ref x9, .ref x10, .ref x12, .ref x14, .int 0, .ref x15, .ref x16, .ref x17, .int 0, .ref x18, .ref x19, .int 0, .int 0, .int 0, .int 0])), (x20, .inr (14, [.ref x1, .ref x8, .ref x21, .ref x28, .ref x35, .int 0, .ref x36, .ref x37, .ref x38, .int 0, .int 0, .int 0, .int 0, .int 0, .int 0, .int 0, .int 0])), (x45, .inr (5, [.ref x46, .ref x47, .int 0, .int 0])), (o1, .inl (ty 1, 1, .inr (.inl (fun _ => 0))))] sz)) 1 6 (va_A [(x0, .inr (15, [.ref x1, .ref x8, .ref x20, .ref x39, .ref x41, .ref x43, .ref x45])), (x1, .inr (11, [.ref x2, .int 0, .ref x3, .int 0, .ref x4, .ref x5, .int 1, .ref x6, .ref x7, .int 0])), (x4, .inl (ty 0, 7, .inl (fun _ => 0))), (x5, .inl (ty 0, 7, .inl (fun _ => 0))), (x8, .inr (8, [.ref x1, .ref x9, .ref x10, .ref x12, .ref x14, .int 0, .ref x15, .ref x16, .ref x17, .int 0, .ref x18, .ref x19, .int 0, .int 0, .int 0, .int 0])), (x20, .inr (14, [.ref x1, .ref x8, .ref x21, .ref x28, .ref x35, .int 0, .ref x36, .ref x37, .ref x38, .int 0, .int 0, .int 0, .int 0, .int 0, .int 0, .int 0, .int 0])), (x45, .inr (5, [.ref x46, .ref x47, .int 0, .int 0])), (o1, .inl (ty 1, 1, .inr (.inl (fun _ => 0))))] sz) := by
  refine vx_ofWH (cc := cL_ground) (maxL := 5) (ret := (some .int)) (hh := [(0, 10, 13, 13), (0, 10, 17, 15)]) (by decide) rfl ?_
  intro p e s m args below meth c s₁ B hml hv
  obtain ⟨rfl, hsz, hP, hK, hD0, hE⟩ := hv
  have hx := B.exec
  have hb := B.bytes
  have hr := B.returns
  have hts := atoms_spec (ws := wsL_ground) B.pre
  have hown : s.vm.findClass RL = some m.cls := findClass_of_methodNamed B.named
  have hlocks := B.notSynchronized
  have hTab := vx_table B (hts _ List.mem_cons_self)
  subst hsz
  have hD := hD0.self (sz := s.heap.size)
  generalize hAe : va_A [(x0, .inr (15, [.ref x1, .ref x8, .ref x20, .ref x39, .ref x41, .ref x43, .ref x45])), (x1, .inr (11, [.ref x2, .int 0, .ref x3, .int 0, .ref x4, .ref x5, .int 1, .ref x6, .ref x7, .int 0])), (x4, .inl (ty 0, 7, .inl (fun _ => 0))), (x5, .inl (ty 0, 7, .inl (fun _ => 0))), (x8, .inr (8, [.ref x1, .ref x9, .ref x10, .ref x12, .ref x14, .int 0, .ref x15, .ref x16, .ref x17, .int 0, .ref x18, .ref x19, .int 0, .int 0, .int 0, .int 0])), (x20, .inr (14, [.ref x1, .ref x8, .ref x21, .ref x28, .ref x35, .int 0, .ref x36, .ref x37, .ref x38, .int 0, .int 0, .int 0, .int 0, .int 0, .int 0, .int 0, .int 0])), (x45, .inr (5, [.ref x46, .ref x47, .int 0, .int 0])), (o1, .inl (ty 1, 1, .inr (.inl (fun _ => 0))))] s.heap.size = A at hD hE ⊢
  have hA : ∀ q : Nat, s.heap.size ≤ q → A q := fun q h => by rw [← hAe]; exact Or.inr h
  have hS : va_S A s.heap s.heap [] := va_S.rf
  have hP : va_P D vwCl [(x0, .inr (15, [.ref x1, .ref x8, .ref x20, .ref x39, .ref x41, .ref x43, .ref x45])), (x1, .inr (11, [.ref x2, .int 0, .ref x3, .int 0, .ref x4, .ref x5, .int 1, .ref x6, .ref x7, .int 0])), (x4, .inl (ty 0, 7, .inl (fun _ => 0))), (x5, .inl (ty 0, 7, .inl (fun _ => 0))), (x8, .inr (8, [.ref x1, .ref x9, .ref x10, .ref x12, .ref x14, .int 0, .ref x15, .ref x16, .ref x17, .int 0, .ref x18, .ref x19, .int 0, .int 0, .int 0, .int 0])), (x20, .inr (14, [.ref x1, .ref x8, .ref x21, .ref x28, .ref x35, .int 0, .ref x36, .ref x37, .ref x38, .int 0, .int 0, .int 0, .int 0, .int 0, .int 0, .int 0, .int 0])), (x45, .inr (5, [.ref x46, .ref x47, .int 0, .int 0])), (o1, .inl (ty 1, 1, .inr (.inl (fun _ => 0))))] s.heap := hP
  have hl := lv_entry ([.ref x0, .int k1, .int k2, .ref o1]) (n := 5) (Nat.le_of_ble_eq_true rfl)
  rw [lg_entry_eq]
  generalize (lg_sl ([.ref x0, .int k1, .int k2, .ref o1]) ++ List.replicate (5 - (lg_sl ([.ref x0, .int k1, .int k2, .ref o1])).length) Slot.unset).toArray = ls at hl ⊢
  have hl : lv_has ls 5 [(0, .ref x0), (1, .int k1), (2, .int k2), (3, .ref o1)] := hl
  refine lv_aload_n hx hb dL_ground_0 rfl (lv_at hl 3 rfl) ?_
  refine lv_iconst (v := 0) hx hb dL_ground_1 (by decide) ?_
  refine lv_aload_n hx hb dL_ground_2 rfl (lv_at hl 0 rfl) ?_
  refine lv_iload_n hx hb dL_ground_3 rfl (lv_at hl 1 rfl) ?_
  refine lv_iload_n hx hb dL_ground_4 rfl (lv_at hl 2 rfl) ?_
  refine wq_xi (wc := [(x0, .inr (15, [.ref x1, .ref x8, .ref x20, .ref x39, .ref x41, .ref x43, .ref x45])), (x1, .inr (11, [.ref x2, .int 0, .ref x3, .int 0, .ref x4, .ref x5, .int 1, .ref x6, .ref x7, .int 0])), (x4, .inl (ty 0, 7, .inl (fun _ => 0))), (x5, .inl (ty 0, 7, .inl (fun _ => 0))), (x8, .inr (8, [.ref x1, .ref x9, .ref x10, .ref x12, .ref x14, .int 0, .ref x15, .ref x16, .ref x17, .int 0, .ref x18, .ref x19, .int 0, .int 0, .int 0, .int 0])), (x20, .inr (14, [.ref x1, .ref x8, .ref x21, .ref x28, .ref x35, .int 0, .ref x36, .ref x37, .ref x38, .int 0, .int 0, .int 0, .int 0, .int 0, .int 0, .int 0, .int 0])), (x45, .inr (5, [.ref x46, .ref x47, .int 0, .int 0]))]) (wr := [(o1, .inl (ty 1, 1, .inr (.inl (fun _ => 0))))]) (vx_runV (As := [.int k1, .int k2]) (rest := [.int 0, .ref o1]) ⟨hx, hb, hml, hown, hts⟩ (k_X10_ground l hl9 D ty td s.heap.size x0 x1 x8 x20 x39 x41 x43 x45 x2 x3 x4 x5 x6 x7 x9 x10 x12 x14 x15 x16 x17 x18 x19 x21 x28 x35 x36 x37 x38 x46 x47 k1 k2) (cwV 2 hts gL_ground_X10_ground rfl rfl rfl (by decide +kernel) ⟨(Nat.le_of_ble_eq_true rfl), (Nat.le_of_ble_eq_true rfl)⟩) (wq_preV hP hD hK hE hS hA [0, 1, 2, 3, 4, 5, 6] rfl (by decide) 0 15 rfl rfl) rfl rfl hl.1 rfl (lv_room (Nat.le_of_ble_eq_true rfl)) dL_ground_5 ⟨(Nat.le_of_ble_eq_true rfl), (Nat.le_of_ble_eq_true rfl)⟩) hS hA hP hD [0, 1, 2, 3, 4, 5, 6] [7] rfl rfl (by decide) (by decide) (fun E9 u H locs q9 ce hw hP hD hS hce hcv hcl => ?_) (fun r u H locs hw hP hD hS => ?_)
  · rcases hw with ⟨hEq, c_1⟩ | ⟨hEq, c_2, c_3⟩ | ⟨hEq, c_4, c_5, c_6⟩ | ⟨hEq, c_7, c_8, c_9, c_10⟩ | ⟨hEq, c_11, c_12, c_13, c_14, c_15, c_16⟩ | ⟨hEq, c_17, c_18, c_19, c_20, c_21, c_22⟩
    · cases hEq
      have hP : va_P D vwCl [(o1, .inl (ty 1, 1, .inr (.inl (fun _ => 0))))] H := hP
      have hD : va_D A [(o1, .inl (ty 1, 1, .inr (.inl (fun _ => 0))))] := hD
      refine vx_widen (k := 1) (n := 6) (Nat.le_of_ble_eq_true rfl) (Nat.le_of_ble_eq_true rfl) ?_
      refine vx_catch (own := RL) (name := "java/lang/IllegalArgumentException") (E := "java/lang/IllegalArgumentException") hown [] ⟨0, 10, 13, 13⟩ [⟨0, 10, 17, 15⟩] (by rw [hTab]; rfl) (fun z hz => nomatch hz) (by decide) (by decide) (hts (.classLink RL 13 "java/lang/IllegalArgumentException") (by decide +kernel)) (va_Nw.use rfl (hE.ca "java/lang/IllegalArgumentException" "java/lang/IllegalArgumentException" (by decide +kernel))) hce hcv hcl ?_
      refine lv_astore (lv' := [(4, .ref q9), (0, .ref x0), (1, .int k1), (2, .int k2), (3, .ref o1)]) hx hb dL_ground_13 hl (by decide) rfl (fun ls hl => ?_)
      refine lv_iconst (v := 1) hx hb dL_ground_15 (by decide) ?_
      have hP9 := hP.sub (ws' := [(o1, .inl (ty 1, 1, .inr (.inl (fun _ => 0))))]) [0] rfl
      have hD9 := hD.sub (ws' := [(o1, .inl (ty 1, 1, .inr (.inl (fun _ => 0))))]) [0] (by decide) rfl
      refine W.widen (k := 1) (n := 6) (Nat.le_of_ble_eq_true rfl) (Nat.le_of_ble_eq_true rfl) ?_
      refine vx_ret ?_
      exact W.iret (v := 1) hx hb hr (fun t ht hW => ⟨⟨1, [(o1, .inl (ty 1, 1, .inr (.inl (fun _ => 0))))], rfl, (Or.inl ⟨rfl, c_1, rfl⟩), wq_B.of ht hP9 hD9⟩, hS.F ht⟩) hS.2.2 dL_ground_16
    · cases hEq
      have hP : va_P D vwCl [(o1, .inl (ty 1, 1, .inr (.inl (fun _ => 0))))] H := hP
      have hD : va_D A [(o1, .inl (ty 1, 1, .inr (.inl (fun _ => 0))))] := hD
      refine vx_widen (k := 1) (n := 6) (Nat.le_of_ble_eq_true rfl) (Nat.le_of_ble_eq_true rfl) ?_
      refine vx_catch (own := RL) (name := "java/lang/IllegalArgumentException") (E := "java/lang/IllegalArgumentException") hown [] ⟨0, 10, 13, 13⟩ [⟨0, 10, 17, 15⟩] (by rw [hTab]; rfl) (fun z hz => nomatch hz) (by decide) (by decide) (hts (.classLink RL 13 "java/lang/IllegalArgumentException") (by decide +kernel)) (va_Nw.use rfl (hE.ca "java/lang/IllegalArgumentException" "java/lang/IllegalArgumentException" (by decide +kernel))) hce hcv hcl ?_
      refine lv_astore (lv' := [(4, .ref q9), (0, .ref x0), (1, .int k1), (2, .int k2), (3, .ref o1)]) hx hb dL_ground_13 hl (by decide) rfl (fun ls hl => ?_)
      refine lv_iconst (v := 1) hx hb dL_ground_15 (by decide) ?_
      have hP9 := hP.sub (ws' := [(o1, .inl (ty 1, 1, .inr (.inl (fun _ => 0))))]) [0] rfl
      have hD9 := hD.sub (ws' := [(o1, .inl (ty 1, 1, .inr (.inl (fun _ => 0))))]) [0] (by decide) rfl
      refine W.widen (k := 1) (n := 6) (Nat.le_of_ble_eq_true rfl) (Nat.le_of_ble_eq_true rfl) ?_
      refine vx_ret ?_
      exact W.iret (v := 1) hx hb hr (fun t ht hW => ⟨⟨1, [(o1, .inl (ty 1, 1, .inr (.inl (fun _ => 0))))], rfl, (Or.inr (Or.inl ⟨rfl, c_2, c_3, rfl⟩)), wq_B.of ht hP9 hD9⟩, hS.F ht⟩) hS.2.2 dL_ground_16
    · cases hEq
      have hP : va_P D vwCl [(o1, .inl (ty 1, 1, .inr (.inl (fun _ => 0))))] H := hP
      have hD : va_D A [(o1, .inl (ty 1, 1, .inr (.inl (fun _ => 0))))] := hD
      refine vx_widen (k := 1) (n := 6) (Nat.le_of_ble_eq_true rfl) (Nat.le_of_ble_eq_true rfl) ?_
      refine vx_catch (own := RL) (name := "java/lang/IllegalArgumentException") (E := "java/lang/IllegalArgumentException") hown [] ⟨0, 10, 13, 13⟩ [⟨0, 10, 17, 15⟩] (by rw [hTab]; rfl) (fun z hz => nomatch hz) (by decide) (by decide) (hts (.classLink RL 13 "java/lang/IllegalArgumentException") (by decide +kernel)) (va_Nw.use rfl (hE.ca "java/lang/IllegalArgumentException" "java/lang/IllegalArgumentException" (by decide +kernel))) hce hcv hcl ?_
      refine lv_astore (lv' := [(4, .ref q9), (0, .ref x0), (1, .int k1), (2, .int k2), (3, .ref o1)]) hx hb dL_ground_13 hl (by decide) rfl (fun ls hl => ?_)
      refine lv_iconst (v := 1) hx hb dL_ground_15 (by decide) ?_
      have hP9 := hP.sub (ws' := [(o1, .inl (ty 1, 1, .inr (.inl (fun _ => 0))))]) [0] rfl
      have hD9 := hD.sub (ws' := [(o1, .inl (ty 1, 1, .inr (.inl (fun _ => 0))))]) [0] (by decide) rfl
      refine W.widen (k := 1) (n := 6) (Nat.le_of_ble_eq_true rfl) (Nat.le_of_ble_eq_true rfl) ?_
      refine vx_ret ?_
      exact W.iret (v := 1) hx hb hr (fun t ht hW => ⟨⟨1, [(o1, .inl (ty 1, 1, .inr (.inl (fun _ => 0))))], rfl, (Or.inr (Or.inr (Or.inl ⟨rfl, c_4, c_5, c_6, rfl⟩))), wq_B.of ht hP9 hD9⟩, hS.F ht⟩) hS.2.2 dL_ground_16
    · cases hEq
      have hP : va_P D vwCl [(o1, .inl (ty 1, 1, .inr (.inl (fun _ => 0))))] H := hP
      have hD : va_D A [(o1, .inl (ty 1, 1, .inr (.inl (fun _ => 0))))] := hD
      refine vx_widen (k := 1) (n := 6) (Nat.le_of_ble_eq_true rfl) (Nat.le_of_ble_eq_true rfl) ?_
      refine vx_catch (own := RL) (name := "java/lang/IllegalArgumentException") (E := "java/lang/IllegalArgumentException") hown [] ⟨0, 10, 13, 13⟩ [⟨0, 10, 17, 15⟩] (by rw [hTab]; rfl) (fun z hz => nomatch hz) (by decide) (by decide) (hts (.classLink RL 13 "java/lang/IllegalArgumentException") (by decide +kernel)) (va_Nw.use rfl (hE.ca "java/lang/IllegalArgumentException" "java/lang/IllegalArgumentException" (by decide +kernel))) hce hcv hcl ?_
      refine lv_astore (lv' := [(4, .ref q9), (0, .ref x0), (1, .int k1), (2, .int k2), (3, .ref o1)]) hx hb dL_ground_13 hl (by decide) rfl (fun ls hl => ?_)
      refine lv_iconst (v := 1) hx hb dL_ground_15 (by decide) ?_
      have hP9 := hP.sub (ws' := [(o1, .inl (ty 1, 1, .inr (.inl (fun _ => 0))))]) [0] rfl
      have hD9 := hD.sub (ws' := [(o1, .inl (ty 1, 1, .inr (.inl (fun _ => 0))))]) [0] (by decide) rfl
      refine W.widen (k := 1) (n := 6) (Nat.le_of_ble_eq_true rfl) (Nat.le_of_ble_eq_true rfl) ?_
      refine vx_ret ?_
      exact W.iret (v := 1) hx hb hr (fun t ht hW => ⟨⟨1, [(o1, .inl (ty 1, 1, .inr (.inl (fun _ => 0))))], rfl, (Or.inr (Or.inr (Or.inr (Or.inl ⟨rfl, c_7, c_8, c_9, c_10, rfl⟩)))), wq_B.of ht hP9 hD9⟩, hS.F ht⟩) hS.2.2 dL_ground_16
    · cases hEq
      have hP : va_P D vwCl [(o1, .inl (ty 1, 1, .inr (.inl (fun _ => 0))))] H := hP
      have hD : va_D A [(o1, .inl (ty 1, 1, .inr (.inl (fun _ => 0))))] := hD
      refine vx_widen (k := 1) (n := 6) (Nat.le_of_ble_eq_true rfl) (Nat.le_of_ble_eq_true rfl) ?_
      refine vx_catch (own := RL) (name := "java/lang/IllegalStateException") (E := "java/lang/IllegalStateException") hown [⟨0, 10, 13, 13⟩] ⟨0, 10, 17, 15⟩ [] (by rw [hTab]; rfl) (by
          intro z hz
          rcases List.mem_cons.mp hz with rfl | hz
          · exact Or.inr ⟨by decide, "java/lang/IllegalArgumentException", (hts (.classLink RL 13 "java/lang/IllegalArgumentException") (by decide +kernel)), hE.nc "java/lang/IllegalStateException" "java/lang/IllegalArgumentException" (by decide +kernel)⟩
          cases hz) (by decide) (by decide) (hts (.classLink RL 15 "java/lang/IllegalStateException") (by decide +kernel)) (va_Nw.use rfl (hE.ca "java/lang/IllegalStateException" "java/lang/IllegalStateException" (by decide +kernel))) hce hcv hcl ?_
      refine lv_astore (lv' := [(4, .ref q9), (0, .ref x0), (1, .int k1), (2, .int k2), (3, .ref o1)]) hx hb dL_ground_17 hl (by decide) rfl (fun ls hl => ?_)
      refine lv_iconst (v := 2) hx hb dL_ground_19 (by decide) ?_
      have hP9 := hP.sub (ws' := [(o1, .inl (ty 1, 1, .inr (.inl (fun _ => 0))))]) [0] rfl
      have hD9 := hD.sub (ws' := [(o1, .inl (ty 1, 1, .inr (.inl (fun _ => 0))))]) [0] (by decide) rfl
      refine W.widen (k := 1) (n := 6) (Nat.le_of_ble_eq_true rfl) (Nat.le_of_ble_eq_true rfl) ?_
      refine vx_ret ?_
      exact W.iret (v := 2) hx hb hr (fun t ht hW => ⟨⟨2, [(o1, .inl (ty 1, 1, .inr (.inl (fun _ => 0))))], rfl, (Or.inr (Or.inr (Or.inr (Or.inr (Or.inl ⟨rfl, c_11, c_12, c_13, c_14, c_15, c_16, rfl⟩))))), wq_B.of ht hP9 hD9⟩, hS.F ht⟩) hS.2.2 dL_ground_20
    · cases hEq
      have hP : va_P D vwCl [(o1, .inl (ty 1, 1, .inr (.inl (fun _ => 0))))] H := hP
      have hD : va_D A [(o1, .inl (ty 1, 1, .inr (.inl (fun _ => 0))))] := hD
      refine vx_widen (k := 1) (n := 6) (Nat.le_of_ble_eq_true rfl) (Nat.le_of_ble_eq_true rfl) ?_
      refine vx_catch (own := RL) (name := "java/lang/IllegalStateException") (E := "java/lang/IllegalStateException") hown [⟨0, 10, 13, 13⟩] ⟨0, 10, 17, 15⟩ [] (by rw [hTab]; rfl) (by
          intro z hz
          rcases List.mem_cons.mp hz with rfl | hz
          · exact Or.inr ⟨by decide, "java/lang/IllegalArgumentException", (hts (.classLink RL 13 "java/lang/IllegalArgumentException") (by decide +kernel)), hE.nc "java/lang/IllegalStateException" "java/lang/IllegalArgumentException" (by decide +kernel)⟩
          cases hz) (by decide) (by decide) (hts (.classLink RL 15 "java/lang/IllegalStateException") (by decide +kernel)) (va_Nw.use rfl (hE.ca "java/lang/IllegalStateException" "java/lang/IllegalStateException" (by decide +kernel))) hce hcv hcl ?_
      refine lv_astore (lv' := [(4, .ref q9), (0, .ref x0), (1, .int k1), (2, .int k2), (3, .ref o1)]) hx hb dL_ground_17 hl (by decide) rfl (fun ls hl => ?_)
      refine lv_iconst (v := 2) hx hb dL_ground_19 (by decide) ?_
      have hP9 := hP.sub (ws' := [(o1, .inl (ty 1, 1, .inr (.inl (fun _ => 0))))]) [0] rfl
      have hD9 := hD.sub (ws' := [(o1, .inl (ty 1, 1, .inr (.inl (fun _ => 0))))]) [0] (by decide) rfl
      refine W.widen (k := 1) (n := 6) (Nat.le_of_ble_eq_true rfl) (Nat.le_of_ble_eq_true rfl) ?_
      refine vx_ret ?_
      exact W.iret (v := 2) hx hb hr (fun t ht hW => ⟨⟨2, [(o1, .inl (ty 1, 1, .inr (.inl (fun _ => 0))))], rfl, (Or.inr (Or.inr (Or.inr (Or.inr (Or.inr (Or.inl ⟨rfl, c_17, c_18, c_19, c_20, c_21, c_22, rfl⟩)))))), wq_B.of ht hP9 hD9⟩, hS.F ht⟩) hS.2.2 dL_ground_20
  · rcases hw with ⟨rfl, c_23, c_24, c_25, c_26, c_27, c_28, rfl⟩ | ⟨rfl, c_29, c_30, c_31, c_32, c_33, c_34, rfl⟩
    · have hP : va_P D vwCl [(o1, .inl (ty 1, 1, .inr (.inl (fun _ => 0))))] H := hP
      have hD : va_D A [(o1, .inl (ty 1, 1, .inr (.inl (fun _ => 0))))] := hD
      refine W.widen (k := 1) (n := 6) (Nat.le_of_ble_eq_true rfl) (Nat.le_of_ble_eq_true rfl) ?_
      refine lv_i2l (v := 1) hx hb dL_ground_8 (by decide) ?_
      refine va_last (D := D) hx hb hK hP hD hS 0 1 rfl rfl (vp_in_iff.mpr (by decide)) dL_ground_9 (fun H locs hP hD hS => ?_)
      have hP : va_P D vwCl [(o1, .inl (ty 1, 1, .inr (.inl (vp_updL (fun _ => 0) (0 : Int32).toNatClampNeg 1))))] H := hP
      have hD : va_D A [(o1, .inl (ty 1, 1, .inr (.inl (vp_updL (fun _ => 0) (0 : Int32).toNatClampNeg 1))))] := hD
      refine lv_goto (tgt := 21) hx hb dL_ground_10 (by decide) ?_
      refine lv_iconst (v := 0) hx hb dL_ground_21 (by decide) ?_
      have hP9 := hP.sub (ws' := [(o1, .inl (ty 1, 1, .inr (.inl (vp_updL (fun _ => 0) (0 : Int32).toNatClampNeg 1))))]) [0] rfl
      have hD9 := hD.sub (ws' := [(o1, .inl (ty 1, 1, .inr (.inl (vp_updL (fun _ => 0) (0 : Int32).toNatClampNeg 1))))]) [0] (by decide) rfl
      refine W.widen (k := 1) (n := 6) (Nat.le_of_ble_eq_true rfl) (Nat.le_of_ble_eq_true rfl) ?_
      refine vx_ret ?_
      exact W.iret (v := 0) hx hb hr (fun t ht hW => ⟨⟨0, [(o1, .inl (ty 1, 1, .inr (.inl (vp_updL (fun _ => 0) (0 : Int32).toNatClampNeg 1))))], rfl, (Or.inr (Or.inr (Or.inr (Or.inr (Or.inr (Or.inr (Or.inl ⟨rfl, c_23, c_24, c_25, c_26, c_27, c_28, rfl⟩))))))), wq_B.of ht hP9 hD9⟩, hS.F ht⟩) hS.2.2 dL_ground_22
    · have hP : va_P D vwCl [(o1, .inl (ty 1, 1, .inr (.inl (fun _ => 0))))] H := hP
      have hD : va_D A [(o1, .inl (ty 1, 1, .inr (.inl (fun _ => 0))))] := hD
      refine W.widen (k := 1) (n := 6) (Nat.le_of_ble_eq_true rfl) (Nat.le_of_ble_eq_true rfl) ?_
      refine lv_i2l (v := 1) hx hb dL_ground_8 (by decide) ?_
      refine va_last (D := D) hx hb hK hP hD hS 0 1 rfl rfl (vp_in_iff.mpr (by decide)) dL_ground_9 (fun H locs hP hD hS => ?_)
      have hP : va_P D vwCl [(o1, .inl (ty 1, 1, .inr (.inl (vp_updL (fun _ => 0) (0 : Int32).toNatClampNeg 1))))] H := hP
      have hD : va_D A [(o1, .inl (ty 1, 1, .inr (.inl (vp_updL (fun _ => 0) (0 : Int32).toNatClampNeg 1))))] := hD
      refine lv_goto (tgt := 21) hx hb dL_ground_10 (by decide) ?_
      refine lv_iconst (v := 0) hx hb dL_ground_21 (by decide) ?_
      have hP9 := hP.sub (ws' := [(o1, .inl (ty 1, 1, .inr (.inl (vp_updL (fun _ => 0) (0 : Int32).toNatClampNeg 1))))]) [0] rfl
      have hD9 := hD.sub (ws' := [(o1, .inl (ty 1, 1, .inr (.inl (vp_updL (fun _ => 0) (0 : Int32).toNatClampNeg 1))))]) [0] (by decide) rfl
      refine W.widen (k := 1) (n := 6) (Nat.le_of_ble_eq_true rfl) (Nat.le_of_ble_eq_true rfl) ?_
      refine vx_ret ?_
      exact W.iret (v := 0) hx hb hr (fun t ht hW => ⟨⟨0, [(o1, .inl (ty 1, 1, .inr (.inl (vp_updL (fun _ => 0) (0 : Int32).toNatClampNeg 1))))], rfl, (Or.inr (Or.inr (Or.inr (Or.inr (Or.inr (Or.inr (Or.inr ⟨rfl, c_29, c_30, c_31, c_32, c_33, c_34, rfl⟩))))))), wq_B.of ht hP9 hD9⟩, hS.F ht⟩) hS.2.2 dL_ground_22
set_option maxHeartbeats 4000000 in
set_option maxRecDepth 100000 in
theorem k_L_addExternal (l : Launch) (hl9 : l.stackTraces = false) (D : va_G) (ty : Nat → ClassId) (td sz : Nat) (x0 : Nat) (x1 : Nat) (x8 : Nat) (x20 : Nat) (x39 : Nat) (x41 : Nat) (x43 : Nat) (x45 : Nat) (x2 : Nat) (x3 : Nat) (x4 : Nat) (x5 : Nat) (x6 : Nat) (x7 : Nat) (o1 : Nat) (k1 : Int32) (k2 : Int32) (k3 : Int32) : vx_Met l yL_addExternal wsL_addExternal { frames := 8, cells := 1, slots := 6, locals := 130 } (va_Pc [.ref x0, .int k1, .int k2, .int k3, .ref o1] (wq_P D ty td [(x0, .inr (15, [.ref x1, .ref x8, .ref x20, .ref x39, .ref x41, .ref x43, .ref x45])), (x1, .inr (11, [.ref x2, .int 0, .ref x3, .int 0, .ref x4, .ref x5, .int 1, .ref x6, .ref x7, .int 0])), (o1, .inl (ty 1, 1, .inr (.inl (fun _ => 0))))] sz)) (va_Qi (fun (r : Int32) (u : va_W) => (r = 1 ∧ (u = [(o1, .inl (ty 1, 1, .inr (.inl (fun _ => 0))))]))) (wq_B D (va_A [(x0, .inr (15, [.ref x1, .ref x8, .ref x20, .ref x39, .ref x41, .ref x43, .ref x45])), (x1, .inr (11, [.ref x2, .int 0, .ref x3, .int 0, .ref x4, .ref x5, .int 1, .ref x6, .ref x7, .int 0])), (o1, .inl (ty 1, 1, .inr (.inl (fun _ => 0))))] sz)) (va_A [(x0, .inr (15, [.ref x1, .ref x8, .ref x20, .ref x39, .ref x41, .ref x43, .ref x45])), (x1, .inr (11, [.ref x2, .int 0, .ref x3, .int 0, .ref x4, .ref x5, .int 1, .ref x6, .ref x7, .int 0])), (o1, .inl (ty 1, 1, .inr (.inl (fun _ => 0))))] sz)) (vx_X (fun u : String × va_W => False) (wq_BX D (va_A [(x0, .inr (15, [.ref x1, .ref x8, .ref x20, .ref x39, .ref x41, .ref x43, .ref x45])), (x1, .inr (11, [.ref x2, .int 0, .ref x3, .int 0, .ref x4, .ref x5, .int 1, .ref x6, .ref x7, .int 0])), (o1, .inl (ty 1, 1, .inr (.inl (fun _ => 0))))] sz)) (va_A [(x0, .inr (15, [.ref x1, .ref x8, .ref x20, .ref x39, .ref x41, .ref x43, .ref x45])), (x1, .inr (11, [.ref x2, .int 0, .ref x3, .int 0, .ref x4, .ref x5, .int 1, .ref x6, .ref x7, .int 0])), (o1, .inl (ty 1, 1, .inr (.inl (fun _ => 0))))] sz)) 1 6 (va_A [(x0, .inr (15, [.ref x1, .ref x8, .ref x20, .ref x39, .ref x41, .ref x43, .ref x45])), (x1, .inr (11, [.ref x2, .int 0, .ref x3, .int 0, .ref x4, .ref x5, .int 1, .ref x6, .ref x7, .int 0])), (o1, .inl (ty 1, 1, .inr (.inl (fun _ => 0))))] sz) := by
  refine vx_ofWH (cc := cL_addExternal) (maxL := 6) (ret := (some .int)) (hh := [(0, 12, 15, 31), (0, 12, 19, 13), (0, 12, 23, 15)]) (by decide) rfl ?_
  intro p e s m args below meth c s₁ B hml hv
  obtain ⟨rfl, hsz, hP, hK, hD0, hE⟩ := hv
  have hx := B.exec
  have hb := B.bytes
  have hr := B.returns
  have hts := atoms_spec (ws := wsL_addExternal) B.pre
  have hown : s.vm.findClass RL = some m.cls := findClass_of_methodNamed B.named
  have hlocks := B.notSynchronized
  have hTab := vx_table B (hts _ List.mem_cons_self)
  subst hsz
  have hD := hD0.self (sz := s.heap.size)
  generalize hAe : va_A [(x0, .inr (15, [.ref x1, .ref x8, .ref x20, .ref x39, .ref x41, .ref x43, .ref x45])), (x1, .inr (11, [.ref x2, .int 0, .ref x3, .int 0, .ref x4, .ref x5, .int 1, .ref x6, .ref x7, .int 0])), (o1, .inl (ty 1, 1, .inr (.inl (fun _ => 0))))] s.heap.size = A at hD hE ⊢
  have hA : ∀ q : Nat, s.heap.size ≤ q → A q := fun q h => by rw [← hAe]; exact Or.inr h
  have hS : va_S A s.heap s.heap [] := va_S.rf
  have hP : va_P D vwCl [(x0, .inr (15, [.ref x1, .ref x8, .ref x20, .ref x39, .ref x41, .ref x43, .ref x45])), (x1, .inr (11, [.ref x2, .int 0, .ref x3, .int 0, .ref x4, .ref x5, .int 1, .ref x6, .ref x7, .int 0])), (o1, .inl (ty 1, 1, .inr (.inl (fun _ => 0))))] s.heap := hP
  have hl := lv_entry ([.ref x0, .int k1, .int k2, .int k3, .ref o1]) (n := 6) (Nat.le_of_ble_eq_true rfl)
  rw [lg_entry_eq]
  generalize (lg_sl ([.ref x0, .int k1, .int k2, .int k3, .ref o1]) ++ List.replicate (6 - (lg_sl ([.ref x0, .int k1, .int k2, .int k3, .ref o1])).length) Slot.unset).toArray = ls at hl ⊢
  have hl : lv_has ls 6 [(0, .ref x0), (1, .int k1), (2, .int k2), (3, .int k3), (4, .ref o1)] := hl
  refine lv_aload hx hb dL_addExternal_0 (lv_at hl 4 rfl) ?_
  refine lv_iconst (v := 0) hx hb dL_addExternal_2 (by decide) ?_
  refine lv_aload_n hx hb dL_addExternal_3 rfl (lv_at hl 0 rfl) ?_
  refine lv_iload_n hx hb dL_addExternal_4 rfl (lv_at hl 1 rfl) ?_
  refine lv_iload_n hx hb dL_addExternal_5 rfl (lv_at hl 2 rfl) ?_
  refine lv_iload_n hx hb dL_addExternal_6 rfl (lv_at hl 3 rfl) ?_
  refine wq_xi (wc := [(x0, .inr (15, [.ref x1, .ref x8, .ref x20, .ref x39, .ref x41, .ref x43, .ref x45])), (x1, .inr (11, [.ref x2, .int 0, .ref x3, .int 0, .ref x4, .ref x5, .int 1, .ref x6, .ref x7, .int 0]))]) (wr := [(o1, .inl (ty 1, 1, .inr (.inl (fun _ => 0))))]) (vx_runV (As := [.int k1, .int k2, .int k3]) (rest := [.int 0, .ref o1]) ⟨hx, hb, hml, hown, hts⟩ (k_X10_addExternal l hl9 D ty td s.heap.size x0 x1 x8 x20 x39 x41 x43 x45 x2 x3 x4 x5 x6 x7 k1 k2 k3) (cwV 3 hts gL_addExternal_X10_addExternal rfl rfl rfl (by decide +kernel) ⟨(Nat.le_of_ble_eq_true rfl), (Nat.le_of_ble_eq_true rfl)⟩) (wq_preV hP hD hK hE hS hA [0, 1] rfl (by decide) 0 15 rfl rfl) rfl rfl hl.1 rfl (lv_room (Nat.le_of_ble_eq_true rfl)) dL_addExternal_7 ⟨(Nat.le_of_ble_eq_true rfl), (Nat.le_of_ble_eq_true rfl)⟩) hS hA hP hD [0, 1] [2] rfl rfl (by decide) (by decide) (fun E9 u H locs q9 ce hw hP hD hS hce hcv hcl => ?_) (fun r u H locs hw hP hD hS => ?_)
  · have hEq := hw
    cases hEq
    have hP : va_P D vwCl [(o1, .inl (ty 1, 1, .inr (.inl (fun _ => 0))))] H := hP
    have hD : va_D A [(o1, .inl (ty 1, 1, .inr (.inl (fun _ => 0))))] := hD
    refine vx_widen (k := 1) (n := 6) (Nat.le_of_ble_eq_true rfl) (Nat.le_of_ble_eq_true rfl) ?_
    refine vx_catch (own := RL) (name := "java/lang/IndexOutOfBoundsException") (E := "java/lang/IndexOutOfBoundsException") hown [] ⟨0, 12, 15, 31⟩ [⟨0, 12, 19, 13⟩, ⟨0, 12, 23, 15⟩] (by rw [hTab]; rfl) (fun z hz => nomatch hz) (by decide) (by decide) (hts (.classLink RL 31 "java/lang/IndexOutOfBoundsException") (by decide +kernel)) (va_Nw.use rfl (hE.ca "java/lang/IndexOutOfBoundsException" "java/lang/IndexOutOfBoundsException" (by decide +kernel))) hce hcv hcl ?_
    refine lv_astore (lv' := [(5, .ref q9), (0, .ref x0), (1, .int k1), (2, .int k2), (3, .int k3), (4, .ref o1)]) hx hb dL_addExternal_15 hl (by decide) rfl (fun ls hl => ?_)
    refine lv_iconst (v := 1) hx hb dL_addExternal_17 (by decide) ?_
    have hP9 := hP.sub (ws' := [(o1, .inl (ty 1, 1, .inr (.inl (fun _ => 0))))]) [0] rfl
    have hD9 := hD.sub (ws' := [(o1, .inl (ty 1, 1, .inr (.inl (fun _ => 0))))]) [0] (by decide) rfl
    refine W.widen (k := 1) (n := 6) (Nat.le_of_ble_eq_true rfl) (Nat.le_of_ble_eq_true rfl) ?_
    refine vx_ret ?_
    exact W.iret (v := 1) hx hb hr (fun t ht hW => ⟨⟨1, [(o1, .inl (ty 1, 1, .inr (.inl (fun _ => 0))))], rfl, ⟨rfl, rfl⟩, wq_B.of ht hP9 hD9⟩, hS.F ht⟩) hS.2.2 dL_addExternal_18
  · exact hw.elim
set_option maxHeartbeats 4000000 in
set_option maxRecDepth 100000 in
theorem k_L_setExternal (l : Launch) (hl9 : l.stackTraces = false) (D : va_G) (ty : Nat → ClassId) (td sz : Nat) (x0 : Nat) (x1 : Nat) (x8 : Nat) (x20 : Nat) (x39 : Nat) (x41 : Nat) (x43 : Nat) (x45 : Nat) (x2 : Nat) (x3 : Nat) (x4 : Nat) (x5 : Nat) (x6 : Nat) (x7 : Nat) (o1 : Nat) (k1 : Int32) (k2 : Int32) : vx_Met l yL_setExternal wsL_setExternal { frames := 7, cells := 1, slots := 6, locals := 105 } (va_Pc [.ref x0, .int k1, .int k2, .ref o1] (wq_P D ty td [(x0, .inr (15, [.ref x1, .ref x8, .ref x20, .ref x39, .ref x41, .ref x43, .ref x45])), (x1, .inr (11, [.ref x2, .int 0, .ref x3, .int 0, .ref x4, .ref x5, .int 1, .ref x6, .ref x7, .int 0])), (o1, .inl (ty 1, 1, .inr (.inl (fun _ => 0))))] sz)) (va_Qi (fun (r : Int32) (u : va_W) => (r = 1 ∧ (u = [(o1, .inl (ty 1, 1, .inr (.inl (fun _ => 0))))]))) (wq_B D (va_A [(x0, .inr (15, [.ref x1, .ref x8, .ref x20, .ref x39, .ref x41, .ref x43, .ref x45])), (x1, .inr (11, [.ref x2, .int 0, .ref x3, .int 0, .ref x4, .ref x5, .int 1, .ref x6, .ref x7, .int 0])), (o1, .inl (ty 1, 1, .inr (.inl (fun _ => 0))))] sz)) (va_A [(x0, .inr (15, [.ref x1, .ref x8, .ref x20, .ref x39, .ref x41, .ref x43, .ref x45])), (x1, .inr (11, [.ref x2, .int 0, .ref x3, .int 0, .ref x4, .ref x5, .int 1, .ref x6, .ref x7, .int 0])), (o1, .inl (ty 1, 1, .inr (.inl (fun _ => 0))))] sz)) (vx_X (fun u : String × va_W => False) (wq_BX D (va_A [(x0, .inr (15, [.ref x1, .ref x8, .ref x20, .ref x39, .ref x41, .ref x43, .ref x45])), (x1, .inr (11, [.ref x2, .int 0, .ref x3, .int 0, .ref x4, .ref x5, .int 1, .ref x6, .ref x7, .int 0])), (o1, .inl (ty 1, 1, .inr (.inl (fun _ => 0))))] sz)) (va_A [(x0, .inr (15, [.ref x1, .ref x8, .ref x20, .ref x39, .ref x41, .ref x43, .ref x45])), (x1, .inr (11, [.ref x2, .int 0, .ref x3, .int 0, .ref x4, .ref x5, .int 1, .ref x6, .ref x7, .int 0])), (o1, .inl (ty 1, 1, .inr (.inl (fun _ => 0))))] sz)) 1 6 (va_A [(x0, .inr (15, [.ref x1, .ref x8, .ref x20, .ref x39, .ref x41, .ref x43, .ref x45])), (x1, .inr (11, [.ref x2, .int 0, .ref x3, .int 0, .ref x4, .ref x5, .int 1, .ref x6, .ref x7, .int 0])), (o1, .inl (ty 1, 1, .inr (.inl (fun _ => 0))))] sz) := by
  refine vx_ofWH (cc := cL_setExternal) (maxL := 5) (ret := (some .int)) (hh := [(0, 10, 13, 31), (0, 10, 17, 13), (0, 10, 21, 15)]) (by decide) rfl ?_
  intro p e s m args below meth c s₁ B hml hv
  obtain ⟨rfl, hsz, hP, hK, hD0, hE⟩ := hv
  have hx := B.exec
  have hb := B.bytes
  have hr := B.returns
  have hts := atoms_spec (ws := wsL_setExternal) B.pre
  have hown : s.vm.findClass RL = some m.cls := findClass_of_methodNamed B.named
  have hlocks := B.notSynchronized
  have hTab := vx_table B (hts _ List.mem_cons_self)
  subst hsz
  have hD := hD0.self (sz := s.heap.size)
  generalize hAe : va_A [(x0, .inr (15, [.ref x1, .ref x8, .ref x20, .ref x39, .ref x41, .ref x43, .ref x45])), (x1, .inr (11, [.ref x2, .int 0, .ref x3, .int 0, .ref x4, .ref x5, .int 1, .ref x6, .ref x7, .int 0])), (o1, .inl (ty 1, 1, .inr (.inl (fun _ => 0))))] s.heap.size = A at hD hE ⊢
  have hA : ∀ q : Nat, s.heap.size ≤ q → A q := fun q h => by rw [← hAe]; exact Or.inr h
  have hS : va_S A s.heap s.heap [] := va_S.rf
  have hP : va_P D vwCl [(x0, .inr (15, [.ref x1, .ref x8, .ref x20, .ref x39, .ref x41, .ref x43, .ref x45])), (x1, .inr (11, [.ref x2, .int 0, .ref x3, .int 0, .ref x4, .ref x5, .int 1, .ref x6, .ref x7, .int 0])), (o1, .inl (ty 1, 1, .inr (.inl (fun _ => 0))))] s.heap := hP
  have hl := lv_entry ([.ref x0, .int k1, .int k2, .ref o1]) (n := 5) (Nat.le_of_ble_eq_true rfl)
  rw [lg_entry_eq]
  generalize (lg_sl ([.ref x0, .int k1, .int k2, .ref o1]) ++ List.replicate (5 - (lg_sl ([.ref x0, .int k1, .int k2, .ref o1])).length) Slot.unset).toArray = ls at hl ⊢
  have hl : lv_has ls 5 [(0, .ref x0), (1, .int k1), (2, .int k2), (3, .ref o1)] := hl
  refine lv_aload_n hx hb dL_setExternal_0 rfl (lv_at hl 3 rfl) ?_
  refine lv_iconst (v := 0) hx hb dL_setExternal_1 (by decide) ?_
  refine lv_aload_n hx hb dL_setExternal_2 rfl (lv_at hl 0 rfl) ?_
  refine lv_iload_n hx hb dL_setExternal_3 rfl (lv_at hl 1 rfl) ?_
  refine lv_iload_n hx hb dL_setExternal_4 rfl (lv_at hl 2 rfl) ?_
  refine wq_xi (wc := [(x0, .inr (15, [.ref x1, .ref x8, .ref x20, .ref x39, .ref x41, .ref x43, .ref x45])), (x1, .inr (11, [.ref x2, .int 0, .ref x3, .int 0, .ref x4, .ref x5, .int 1, .ref x6, .ref x7, .int 0]))]) (wr := [(o1, .inl (ty 1, 1, .inr (.inl (fun _ => 0))))]) (vx_runV (As := [.int k1, .int k2]) (rest := [.int 0, .ref o1]) ⟨hx, hb, hml, hown, hts⟩ (k_X10_setExternal l hl9 D ty td s.heap.size x0 x1 x8 x20 x39 x41 x43 x45 x2 x3 x4 x5 x6 x7 k1 k2) (cwV 2 hts gL_setExternal_X10_setExternal rfl rfl rfl (by decide +kernel) ⟨(Nat.le_of_ble_eq_true rfl), (Nat.le_of_ble_eq_true rfl)⟩) (wq_preV hP hD hK hE hS hA [0, 1] rfl (by decide) 0 15 rfl rfl) rfl rfl hl.1 rfl (lv_room (Nat.le_of_ble_eq_true rfl)) dL_setExternal_5 ⟨(Nat.le_of_ble_eq_true rfl), (Nat.le_of_ble_eq_true rfl)⟩) hS hA hP hD [0, 1] [2] rfl rfl (by decide) (by decide) (fun E9 u H locs q9 ce hw hP hD hS hce hcv hcl => ?_) (fun r u H locs hw hP hD hS => ?_)
  · have hEq := hw
    cases hEq
    have hP : va_P D vwCl [(o1, .inl (ty 1, 1, .inr (.inl (fun _ => 0))))] H := hP
    have hD : va_D A [(o1, .inl (ty 1, 1, .inr (.inl (fun _ => 0))))] := hD
    refine vx_widen (k := 1) (n := 6) (Nat.le_of_ble_eq_true rfl) (Nat.le_of_ble_eq_true rfl) ?_
    refine vx_catch (own := RL) (name := "java/lang/IndexOutOfBoundsException") (E := "java/lang/IndexOutOfBoundsException") hown [] ⟨0, 10, 13, 31⟩ [⟨0, 10, 17, 13⟩, ⟨0, 10, 21, 15⟩] (by rw [hTab]; rfl) (fun z hz => nomatch hz) (by decide) (by decide) (hts (.classLink RL 31 "java/lang/IndexOutOfBoundsException") (by decide +kernel)) (va_Nw.use rfl (hE.ca "java/lang/IndexOutOfBoundsException" "java/lang/IndexOutOfBoundsException" (by decide +kernel))) hce hcv hcl ?_
    refine lv_astore (lv' := [(4, .ref q9), (0, .ref x0), (1, .int k1), (2, .int k2), (3, .ref o1)]) hx hb dL_setExternal_13 hl (by decide) rfl (fun ls hl => ?_)
    refine lv_iconst (v := 1) hx hb dL_setExternal_15 (by decide) ?_
    have hP9 := hP.sub (ws' := [(o1, .inl (ty 1, 1, .inr (.inl (fun _ => 0))))]) [0] rfl
    have hD9 := hD.sub (ws' := [(o1, .inl (ty 1, 1, .inr (.inl (fun _ => 0))))]) [0] (by decide) rfl
    refine W.widen (k := 1) (n := 6) (Nat.le_of_ble_eq_true rfl) (Nat.le_of_ble_eq_true rfl) ?_
    refine vx_ret ?_
    exact W.iret (v := 1) hx hb hr (fun t ht hW => ⟨⟨1, [(o1, .inl (ty 1, 1, .inr (.inl (fun _ => 0))))], rfl, ⟨rfl, rfl⟩, wq_B.of ht hP9 hD9⟩, hS.F ht⟩) hS.2.2 dL_setExternal_16
  · exact hw.elim
set_option maxHeartbeats 4000000 in
set_option maxRecDepth 100000 in
theorem k_L_assume (l : Launch) (hl9 : l.stackTraces = false) (D : va_G) (ty : Nat → ClassId) (td sz : Nat) (x0 : Nat) (x1 : Nat) (x8 : Nat) (x20 : Nat) (x39 : Nat) (x41 : Nat) (x43 : Nat) (x45 : Nat) (x2 : Nat) (x3 : Nat) (x4 : Nat) (x5 : Nat) (x6 : Nat) (x7 : Nat) (o1 : Nat) (k1 : Int32) (k2 : Int32) (k3 : Int32) (k4 : Int32) : vx_Met l yL_assume wsL_assume { frames := 8, cells := 1, slots := 6, locals := 131 } (va_Pc [.ref x0, .int k1, .int k2, .int k3, .int k4, .ref o1] (wq_P D ty td [(x0, .inr (15, [.ref x1, .ref x8, .ref x20, .ref x39, .ref x41, .ref x43, .ref x45])), (x1, .inr (11, [.ref x2, .int 0, .ref x3, .int 0, .ref x4, .ref x5, .int 1, .ref x6, .ref x7, .int 0])), (o1, .inl (ty 1, 1, .inr (.inl (fun _ => 0))))] sz)) (va_Qi (fun (r : Int32) (u : va_W) => (r = 1 ∧ (u = [(o1, .inl (ty 1, 1, .inr (.inl (fun _ => 0))))]))) (wq_B D (va_A [(x0, .inr (15, [.ref x1, .ref x8, .ref x20, .ref x39, .ref x41, .ref x43, .ref x45])), (x1, .inr (11, [.ref x2, .int 0, .ref x3, .int 0, .ref x4, .ref x5, .int 1, .ref x6, .ref x7, .int 0])), (o1, .inl (ty 1, 1, .inr (.inl (fun _ => 0))))] sz)) (va_A [(x0, .inr (15, [.ref x1, .ref x8, .ref x20, .ref x39, .ref x41, .ref x43, .ref x45])), (x1, .inr (11, [.ref x2, .int 0, .ref x3, .int 0, .ref x4, .ref x5, .int 1, .ref x6, .ref x7, .int 0])), (o1, .inl (ty 1, 1, .inr (.inl (fun _ => 0))))] sz)) (vx_X (fun u : String × va_W => False) (wq_BX D (va_A [(x0, .inr (15, [.ref x1, .ref x8, .ref x20, .ref x39, .ref x41, .ref x43, .ref x45])), (x1, .inr (11, [.ref x2, .int 0, .ref x3, .int 0, .ref x4, .ref x5, .int 1, .ref x6, .ref x7, .int 0])), (o1, .inl (ty 1, 1, .inr (.inl (fun _ => 0))))] sz)) (va_A [(x0, .inr (15, [.ref x1, .ref x8, .ref x20, .ref x39, .ref x41, .ref x43, .ref x45])), (x1, .inr (11, [.ref x2, .int 0, .ref x3, .int 0, .ref x4, .ref x5, .int 1, .ref x6, .ref x7, .int 0])), (o1, .inl (ty 1, 1, .inr (.inl (fun _ => 0))))] sz)) 1 6 (va_A [(x0, .inr (15, [.ref x1, .ref x8, .ref x20, .ref x39, .ref x41, .ref x43, .ref x45])), (x1, .inr (11, [.ref x2, .int 0, .ref x3, .int 0, .ref x4, .ref x5, .int 1, .ref x6, .ref x7, .int 0])), (o1, .inl (ty 1, 1, .inr (.inl (fun _ => 0))))] sz) := by
  refine vx_ofWH (cc := cL_assume) (maxL := 7) (ret := (some .int)) (hh := [(0, 14, 17, 31), (0, 14, 21, 13)]) (by decide) rfl ?_
  intro p e s m args below meth c s₁ B hml hv
  obtain ⟨rfl, hsz, hP, hK, hD0, hE⟩ := hv
  have hx := B.exec
  have hb := B.bytes
  have hr := B.returns
  have hts := atoms_spec (ws := wsL_assume) B.pre
  have hown : s.vm.findClass RL = some m.cls := findClass_of_methodNamed B.named
  have hlocks := B.notSynchronized
  have hTab := vx_table B (hts _ List.mem_cons_self)
  subst hsz
  have hD := hD0.self (sz := s.heap.size)
  generalize hAe : va_A [(x0, .inr (15, [.ref x1, .ref x8, .ref x20, .ref x39, .ref x41, .ref x43, .ref x45])), (x1, .inr (11, [.ref x2, .int 0, .ref x3, .int 0, .ref x4, .ref x5, .int 1, .ref x6, .ref x7, .int 0])), (o1, .inl (ty 1, 1, .inr (.inl (fun _ => 0))))] s.heap.size = A at hD hE ⊢
  have hA : ∀ q : Nat, s.heap.size ≤ q → A q := fun q h => by rw [← hAe]; exact Or.inr h
  have hS : va_S A s.heap s.heap [] := va_S.rf
  have hP : va_P D vwCl [(x0, .inr (15, [.ref x1, .ref x8, .ref x20, .ref x39, .ref x41, .ref x43, .ref x45])), (x1, .inr (11, [.ref x2, .int 0, .ref x3, .int 0, .ref x4, .ref x5, .int 1, .ref x6, .ref x7, .int 0])), (o1, .inl (ty 1, 1, .inr (.inl (fun _ => 0))))] s.heap := hP
  have hl := lv_entry ([.ref x0, .int k1, .int k2, .int k3, .int k4, .ref o1]) (n := 7) (Nat.le_of_ble_eq_true rfl)
  rw [lg_entry_eq]
  generalize (lg_sl ([.ref x0, .int k1, .int k2, .int k3, .int k4, .ref o1]) ++ List.replicate (7 - (lg_sl ([.ref x0, .int k1, .int k2, .int k3, .int k4, .ref o1])).length) Slot.unset).toArray = ls at hl ⊢
  have hl : lv_has ls 7 [(0, .ref x0), (1, .int k1), (2, .int k2), (3, .int k3), (4, .int k4), (5, .ref o1)] := hl
  refine lv_aload hx hb dL_assume_0 (lv_at hl 5 rfl) ?_
  refine lv_iconst (v := 0) hx hb dL_assume_2 (by decide) ?_
  refine lv_aload_n hx hb dL_assume_3 rfl (lv_at hl 0 rfl) ?_
  refine lv_iload_n hx hb dL_assume_4 rfl (lv_at hl 1 rfl) ?_
  refine lv_iload_n hx hb dL_assume_5 rfl (lv_at hl 2 rfl) ?_
  refine lv_iload_n hx hb dL_assume_6 rfl (lv_at hl 3 rfl) ?_
  refine lv_iload hx hb dL_assume_7 (lv_at hl 4 rfl) ?_
  refine wq_xi (wc := [(x0, .inr (15, [.ref x1, .ref x8, .ref x20, .ref x39, .ref x41, .ref x43, .ref x45])), (x1, .inr (11, [.ref x2, .int 0, .ref x3, .int 0, .ref x4, .ref x5, .int 1, .ref x6, .ref x7, .int 0]))]) (wr := [(o1, .inl (ty 1, 1, .inr (.inl (fun _ => 0))))]) (vx_runV (As := [.int k1, .int k2, .int k3, .int k4]) (rest := [.int 0, .ref o1]) ⟨hx, hb, hml, hown, hts⟩ (k_X10_assume l hl9 D ty td s.heap.size x0 x1 x8 x20 x39 x41 x43 x45 x2 x3 x4 x5 x6 x7 k1 k2 k3 k4) (cwV 4 hts gL_assume_X10_assume rfl rfl rfl (by decide +kernel) ⟨(Nat.le_of_ble_eq_true rfl), (Nat.le_of_ble_eq_true rfl)⟩) (wq_preV hP hD hK hE hS hA [0, 1] rfl (by decide) 0 15 rfl rfl) rfl rfl hl.1 rfl (lv_room (Nat.le_of_ble_eq_true rfl)) dL_assume_9 ⟨(Nat.le_of_ble_eq_true rfl), (Nat.le_of_ble_eq_true rfl)⟩) hS hA hP hD [0, 1] [2] rfl rfl (by decide) (by decide) (fun E9 u H locs q9 ce hw hP hD hS hce hcv hcl => ?_) (fun r u H locs hw hP hD hS => ?_)
  · have hEq := hw
    cases hEq
    have hP : va_P D vwCl [(o1, .inl (ty 1, 1, .inr (.inl (fun _ => 0))))] H := hP
    have hD : va_D A [(o1, .inl (ty 1, 1, .inr (.inl (fun _ => 0))))] := hD
    refine vx_widen (k := 1) (n := 6) (Nat.le_of_ble_eq_true rfl) (Nat.le_of_ble_eq_true rfl) ?_
    refine vx_catch (own := RL) (name := "java/lang/IndexOutOfBoundsException") (E := "java/lang/IndexOutOfBoundsException") hown [] ⟨0, 14, 17, 31⟩ [⟨0, 14, 21, 13⟩] (by rw [hTab]; rfl) (fun z hz => nomatch hz) (by decide) (by decide) (hts (.classLink RL 31 "java/lang/IndexOutOfBoundsException") (by decide +kernel)) (va_Nw.use rfl (hE.ca "java/lang/IndexOutOfBoundsException" "java/lang/IndexOutOfBoundsException" (by decide +kernel))) hce hcv hcl ?_
    refine lv_astore (lv' := [(6, .ref q9), (0, .ref x0), (1, .int k1), (2, .int k2), (3, .int k3), (4, .int k4), (5, .ref o1)]) hx hb dL_assume_17 hl (by decide) rfl (fun ls hl => ?_)
    refine lv_iconst (v := 1) hx hb dL_assume_19 (by decide) ?_
    have hP9 := hP.sub (ws' := [(o1, .inl (ty 1, 1, .inr (.inl (fun _ => 0))))]) [0] rfl
    have hD9 := hD.sub (ws' := [(o1, .inl (ty 1, 1, .inr (.inl (fun _ => 0))))]) [0] (by decide) rfl
    refine W.widen (k := 1) (n := 6) (Nat.le_of_ble_eq_true rfl) (Nat.le_of_ble_eq_true rfl) ?_
    refine vx_ret ?_
    exact W.iret (v := 1) hx hb hr (fun t ht hW => ⟨⟨1, [(o1, .inl (ty 1, 1, .inr (.inl (fun _ => 0))))], rfl, ⟨rfl, rfl⟩, wq_B.of ht hP9 hD9⟩, hS.F ht⟩) hS.2.2 dL_assume_20
  · exact hw.elim
set_option maxHeartbeats 4000000 in
set_option maxRecDepth 100000 in
theorem k_L_state (l : Launch) (hl9 : l.stackTraces = false) (D : va_G) (ty : Nat → ClassId) (td sz : Nat) (x0 : Nat) (x1 : Nat) (x8 : Nat) (x20 : Nat) (x39 : Nat) (x41 : Nat) (x43 : Nat) (x45 : Nat) (x2 : Nat) (x3 : Nat) (x4 : Nat) (x5 : Nat) (x6 : Nat) (x7 : Nat) (o1 : Nat) (k1 : Int32) (k2 : Int32) (k3 : Int32) : vx_Met l yL_state wsL_state { frames := 8, cells := 1, slots := 6, locals := 130 } (va_Pc [.ref x0, .int k1, .int k2, .int k3, .ref o1] (wq_P D ty td [(x0, .inr (15, [.ref x1, .ref x8, .ref x20, .ref x39, .ref x41, .ref x43, .ref x45])), (x1, .inr (11, [.ref x2, .int 0, .ref x3, .int 0, .ref x4, .ref x5, .int 1, .ref x6, .ref x7, .int 0])), (o1, .inl (ty 1, 1, .inr (.inl (fun _ => 0))))] sz)) (va_Qi (fun (r : Int32) (u : va_W) => (r = 1 ∧ (u = [(o1, .inl (ty 1, 1, .inr (.inl (fun _ => 0))))]))) (wq_B D (va_A [(x0, .inr (15, [.ref x1, .ref x8, .ref x20, .ref x39, .ref x41, .ref x43, .ref x45])), (x1, .inr (11, [.ref x2, .int 0, .ref x3, .int 0, .ref x4, .ref x5, .int 1, .ref x6, .ref x7, .int 0])), (o1, .inl (ty 1, 1, .inr (.inl (fun _ => 0))))] sz)) (va_A [(x0, .inr (15, [.ref x1, .ref x8, .ref x20, .ref x39, .ref x41, .ref x43, .ref x45])), (x1, .inr (11, [.ref x2, .int 0, .ref x3, .int 0, .ref x4, .ref x5, .int 1, .ref x6, .ref x7, .int 0])), (o1, .inl (ty 1, 1, .inr (.inl (fun _ => 0))))] sz)) (vx_X (fun u : String × va_W => False) (wq_BX D (va_A [(x0, .inr (15, [.ref x1, .ref x8, .ref x20, .ref x39, .ref x41, .ref x43, .ref x45])), (x1, .inr (11, [.ref x2, .int 0, .ref x3, .int 0, .ref x4, .ref x5, .int 1, .ref x6, .ref x7, .int 0])), (o1, .inl (ty 1, 1, .inr (.inl (fun _ => 0))))] sz)) (va_A [(x0, .inr (15, [.ref x1, .ref x8, .ref x20, .ref x39, .ref x41, .ref x43, .ref x45])), (x1, .inr (11, [.ref x2, .int 0, .ref x3, .int 0, .ref x4, .ref x5, .int 1, .ref x6, .ref x7, .int 0])), (o1, .inl (ty 1, 1, .inr (.inl (fun _ => 0))))] sz)) 1 6 (va_A [(x0, .inr (15, [.ref x1, .ref x8, .ref x20, .ref x39, .ref x41, .ref x43, .ref x45])), (x1, .inr (11, [.ref x2, .int 0, .ref x3, .int 0, .ref x4, .ref x5, .int 1, .ref x6, .ref x7, .int 0])), (o1, .inl (ty 1, 1, .inr (.inl (fun _ => 0))))] sz) := by
  refine vx_ofWH (cc := cL_state) (maxL := 6) (ret := (some .int)) (hh := [(0, 12, 15, 31), (0, 12, 19, 13)]) (by decide) rfl ?_
  intro p e s m args below meth c s₁ B hml hv
  obtain ⟨rfl, hsz, hP, hK, hD0, hE⟩ := hv
  have hx := B.exec
  have hb := B.bytes
  have hr := B.returns
  have hts := atoms_spec (ws := wsL_state) B.pre
  have hown : s.vm.findClass RL = some m.cls := findClass_of_methodNamed B.named
  have hlocks := B.notSynchronized
  have hTab := vx_table B (hts _ List.mem_cons_self)
  subst hsz
  have hD := hD0.self (sz := s.heap.size)
  generalize hAe : va_A [(x0, .inr (15, [.ref x1, .ref x8, .ref x20, .ref x39, .ref x41, .ref x43, .ref x45])), (x1, .inr (11, [.ref x2, .int 0, .ref x3, .int 0, .ref x4, .ref x5, .int 1, .ref x6, .ref x7, .int 0])), (o1, .inl (ty 1, 1, .inr (.inl (fun _ => 0))))] s.heap.size = A at hD hE ⊢
  have hA : ∀ q : Nat, s.heap.size ≤ q → A q := fun q h => by rw [← hAe]; exact Or.inr h
  have hS : va_S A s.heap s.heap [] := va_S.rf
  have hP : va_P D vwCl [(x0, .inr (15, [.ref x1, .ref x8, .ref x20, .ref x39, .ref x41, .ref x43, .ref x45])), (x1, .inr (11, [.ref x2, .int 0, .ref x3, .int 0, .ref x4, .ref x5, .int 1, .ref x6, .ref x7, .int 0])), (o1, .inl (ty 1, 1, .inr (.inl (fun _ => 0))))] s.heap := hP
  have hl := lv_entry ([.ref x0, .int k1, .int k2, .int k3, .ref o1]) (n := 6) (Nat.le_of_ble_eq_true rfl)
  rw [lg_entry_eq]
  generalize (lg_sl ([.ref x0, .int k1, .int k2, .int k3, .ref o1]) ++ List.replicate (6 - (lg_sl ([.ref x0, .int k1, .int k2, .int k3, .ref o1])).length) Slot.unset).toArray = ls at hl ⊢
  have hl : lv_has ls 6 [(0, .ref x0), (1, .int k1), (2, .int k2), (3, .int k3), (4, .ref o1)] := hl
  refine lv_aload hx hb dL_state_0 (lv_at hl 4 rfl) ?_
  refine lv_iconst (v := 0) hx hb dL_state_2 (by decide) ?_
  refine lv_aload_n hx hb dL_state_3 rfl (lv_at hl 0 rfl) ?_
  refine lv_iload_n hx hb dL_state_4 rfl (lv_at hl 1 rfl) ?_
  refine lv_iload_n hx hb dL_state_5 rfl (lv_at hl 2 rfl) ?_
  refine lv_iload_n hx hb dL_state_6 rfl (lv_at hl 3 rfl) ?_
  refine wq_xi (wc := [(x0, .inr (15, [.ref x1, .ref x8, .ref x20, .ref x39, .ref x41, .ref x43, .ref x45])), (x1, .inr (11, [.ref x2, .int 0, .ref x3, .int 0, .ref x4, .ref x5, .int 1, .ref x6, .ref x7, .int 0]))]) (wr := [(o1, .inl (ty 1, 1, .inr (.inl (fun _ => 0))))]) (vx_runV (As := [.int k1, .int k2, .int k3]) (rest := [.int 0, .ref o1]) ⟨hx, hb, hml, hown, hts⟩ (k_X10_state l hl9 D ty td s.heap.size x0 x1 x8 x20 x39 x41 x43 x45 x2 x3 x4 x5 x6 x7 k1 k2 k3) (cwV 3 hts gL_state_X10_state rfl rfl rfl (by decide +kernel) ⟨(Nat.le_of_ble_eq_true rfl), (Nat.le_of_ble_eq_true rfl)⟩) (wq_preV hP hD hK hE hS hA [0, 1] rfl (by decide) 0 15 rfl rfl) rfl rfl hl.1 rfl (lv_room (Nat.le_of_ble_eq_true rfl)) dL_state_7 ⟨(Nat.le_of_ble_eq_true rfl), (Nat.le_of_ble_eq_true rfl)⟩) hS hA hP hD [0, 1] [2] rfl rfl (by decide) (by decide) (fun E9 u H locs q9 ce hw hP hD hS hce hcv hcl => ?_) (fun r u H locs hw hP hD hS => ?_)
  · have hEq := hw
    cases hEq
    have hP : va_P D vwCl [(o1, .inl (ty 1, 1, .inr (.inl (fun _ => 0))))] H := hP
    have hD : va_D A [(o1, .inl (ty 1, 1, .inr (.inl (fun _ => 0))))] := hD
    refine vx_widen (k := 1) (n := 6) (Nat.le_of_ble_eq_true rfl) (Nat.le_of_ble_eq_true rfl) ?_
    refine vx_catch (own := RL) (name := "java/lang/IndexOutOfBoundsException") (E := "java/lang/IndexOutOfBoundsException") hown [] ⟨0, 12, 15, 31⟩ [⟨0, 12, 19, 13⟩] (by rw [hTab]; rfl) (fun z hz => nomatch hz) (by decide) (by decide) (hts (.classLink RL 31 "java/lang/IndexOutOfBoundsException") (by decide +kernel)) (va_Nw.use rfl (hE.ca "java/lang/IndexOutOfBoundsException" "java/lang/IndexOutOfBoundsException" (by decide +kernel))) hce hcv hcl ?_
    refine lv_astore (lv' := [(5, .ref q9), (0, .ref x0), (1, .int k1), (2, .int k2), (3, .int k3), (4, .ref o1)]) hx hb dL_state_15 hl (by decide) rfl (fun ls hl => ?_)
    refine lv_iconst (v := 1) hx hb dL_state_17 (by decide) ?_
    have hP9 := hP.sub (ws' := [(o1, .inl (ty 1, 1, .inr (.inl (fun _ => 0))))]) [0] rfl
    have hD9 := hD.sub (ws' := [(o1, .inl (ty 1, 1, .inr (.inl (fun _ => 0))))]) [0] (by decide) rfl
    refine W.widen (k := 1) (n := 6) (Nat.le_of_ble_eq_true rfl) (Nat.le_of_ble_eq_true rfl) ?_
    refine vx_ret ?_
    exact W.iret (v := 1) hx hb hr (fun t ht hW => ⟨⟨1, [(o1, .inl (ty 1, 1, .inr (.inl (fun _ => 0))))], rfl, ⟨rfl, rfl⟩, wq_B.of ht hP9 hD9⟩, hS.F ht⟩) hS.2.2 dL_state_18
  · exact hw.elim
set_option maxHeartbeats 4000000 in
set_option maxRecDepth 100000 in
theorem k_L_instances (l : Launch) (hl9 : l.stackTraces = false) (D : va_G) (ty : Nat → ClassId) (td sz : Nat) (x0 : Nat) (x1 : Nat) (x8 : Nat) (x20 : Nat) (x39 : Nat) (x41 : Nat) (x43 : Nat) (x45 : Nat) (x2 : Nat) (x3 : Nat) (x4 : Nat) (x5 : Nat) (x6 : Nat) (x7 : Nat) (o1 : Nat) (k1 : Int32) : vx_Met l yL_instances wsL_instances { frames := 7, cells := 1, slots := 6, locals := 103 } (va_Pc [.ref x0, .int k1, .ref o1] (wq_P D ty td [(x0, .inr (15, [.ref x1, .ref x8, .ref x20, .ref x39, .ref x41, .ref x43, .ref x45])), (x1, .inr (11, [.ref x2, .int 0, .ref x3, .int 0, .ref x4, .ref x5, .int 1, .ref x6, .ref x7, .int 0])), (o1, .inl (ty 1, 1, .inr (.inl (fun _ => 0))))] sz)) (va_Qi (fun (r : Int32) (u : va_W) => (r = 1 ∧ (u = [(o1, .inl (ty 1, 1, .inr (.inl (fun _ => 0))))]))) (wq_B D (va_A [(x0, .inr (15, [.ref x1, .ref x8, .ref x20, .ref x39, .ref x41, .ref x43, .ref x45])), (x1, .inr (11, [.ref x2, .int 0, .ref x3, .int 0, .ref x4, .ref x5, .int 1, .ref x6, .ref x7, .int 0])), (o1, .inl (ty 1, 1, .inr (.inl (fun _ => 0))))] sz)) (va_A [(x0, .inr (15, [.ref x1, .ref x8, .ref x20, .ref x39, .ref x41, .ref x43, .ref x45])), (x1, .inr (11, [.ref x2, .int 0, .ref x3, .int 0, .ref x4, .ref x5, .int 1, .ref x6, .ref x7, .int 0])), (o1, .inl (ty 1, 1, .inr (.inl (fun _ => 0))))] sz)) (vx_X (fun u : String × va_W => False) (wq_BX D (va_A [(x0, .inr (15, [.ref x1, .ref x8, .ref x20, .ref x39, .ref x41, .ref x43, .ref x45])), (x1, .inr (11, [.ref x2, .int 0, .ref x3, .int 0, .ref x4, .ref x5, .int 1, .ref x6, .ref x7, .int 0])), (o1, .inl (ty 1, 1, .inr (.inl (fun _ => 0))))] sz)) (va_A [(x0, .inr (15, [.ref x1, .ref x8, .ref x20, .ref x39, .ref x41, .ref x43, .ref x45])), (x1, .inr (11, [.ref x2, .int 0, .ref x3, .int 0, .ref x4, .ref x5, .int 1, .ref x6, .ref x7, .int 0])), (o1, .inl (ty 1, 1, .inr (.inl (fun _ => 0))))] sz)) 1 6 (va_A [(x0, .inr (15, [.ref x1, .ref x8, .ref x20, .ref x39, .ref x41, .ref x43, .ref x45])), (x1, .inr (11, [.ref x2, .int 0, .ref x3, .int 0, .ref x4, .ref x5, .int 1, .ref x6, .ref x7, .int 0])), (o1, .inl (ty 1, 1, .inr (.inl (fun _ => 0))))] sz) := by
  refine vx_ofWH (cc := cL_instances) (maxL := 4) (ret := (some .int)) (hh := [(0, 9, 12, 31)]) (by decide) rfl ?_
  intro p e s m args below meth c s₁ B hml hv
  obtain ⟨rfl, hsz, hP, hK, hD0, hE⟩ := hv
  have hx := B.exec
  have hb := B.bytes
  have hr := B.returns
  have hts := atoms_spec (ws := wsL_instances) B.pre
  have hown : s.vm.findClass RL = some m.cls := findClass_of_methodNamed B.named
  have hlocks := B.notSynchronized
  have hTab := vx_table B (hts _ List.mem_cons_self)
  subst hsz
  have hD := hD0.self (sz := s.heap.size)
  generalize hAe : va_A [(x0, .inr (15, [.ref x1, .ref x8, .ref x20, .ref x39, .ref x41, .ref x43, .ref x45])), (x1, .inr (11, [.ref x2, .int 0, .ref x3, .int 0, .ref x4, .ref x5, .int 1, .ref x6, .ref x7, .int 0])), (o1, .inl (ty 1, 1, .inr (.inl (fun _ => 0))))] s.heap.size = A at hD hE ⊢
  have hA : ∀ q : Nat, s.heap.size ≤ q → A q := fun q h => by rw [← hAe]; exact Or.inr h
  have hS : va_S A s.heap s.heap [] := va_S.rf
  have hP : va_P D vwCl [(x0, .inr (15, [.ref x1, .ref x8, .ref x20, .ref x39, .ref x41, .ref x43, .ref x45])), (x1, .inr (11, [.ref x2, .int 0, .ref x3, .int 0, .ref x4, .ref x5, .int 1, .ref x6, .ref x7, .int 0])), (o1, .inl (ty 1, 1, .inr (.inl (fun _ => 0))))] s.heap := hP
  have hl := lv_entry ([.ref x0, .int k1, .ref o1]) (n := 4) (Nat.le_of_ble_eq_true rfl)
  rw [lg_entry_eq]
  generalize (lg_sl ([.ref x0, .int k1, .ref o1]) ++ List.replicate (4 - (lg_sl ([.ref x0, .int k1, .ref o1])).length) Slot.unset).toArray = ls at hl ⊢
  have hl : lv_has ls 4 [(0, .ref x0), (1, .int k1), (2, .ref o1)] := hl
  refine lv_aload_n hx hb dL_instances_0 rfl (lv_at hl 2 rfl) ?_
  refine lv_iconst (v := 0) hx hb dL_instances_1 (by decide) ?_
  refine lv_aload_n hx hb dL_instances_2 rfl (lv_at hl 0 rfl) ?_
  refine lv_iload_n hx hb dL_instances_3 rfl (lv_at hl 1 rfl) ?_
  refine wq_xi (wc := [(x0, .inr (15, [.ref x1, .ref x8, .ref x20, .ref x39, .ref x41, .ref x43, .ref x45])), (x1, .inr (11, [.ref x2, .int 0, .ref x3, .int 0, .ref x4, .ref x5, .int 1, .ref x6, .ref x7, .int 0]))]) (wr := [(o1, .inl (ty 1, 1, .inr (.inl (fun _ => 0))))]) (vx_runV (As := [.int k1]) (rest := [.int 0, .ref o1]) ⟨hx, hb, hml, hown, hts⟩ (k_X10_instances l hl9 D ty td s.heap.size x0 x1 x8 x20 x39 x41 x43 x45 x2 x3 x4 x5 x6 x7 k1) (cwV 1 hts gL_instances_X10_instances rfl rfl rfl (by decide +kernel) ⟨(Nat.le_of_ble_eq_true rfl), (Nat.le_of_ble_eq_true rfl)⟩) (wq_preV hP hD hK hE hS hA [0, 1] rfl (by decide) 0 15 rfl rfl) rfl rfl hl.1 rfl (lv_room (Nat.le_of_ble_eq_true rfl)) dL_instances_4 ⟨(Nat.le_of_ble_eq_true rfl), (Nat.le_of_ble_eq_true rfl)⟩) hS hA hP hD [0, 1] [2] rfl rfl (by decide) (by decide) (fun E9 u H locs q9 ce hw hP hD hS hce hcv hcl => ?_) (fun r u H locs hw hP hD hS => ?_)
  · have hEq := hw
    cases hEq
    have hP : va_P D vwCl [(o1, .inl (ty 1, 1, .inr (.inl (fun _ => 0))))] H := hP
    have hD : va_D A [(o1, .inl (ty 1, 1, .inr (.inl (fun _ => 0))))] := hD
    refine vx_widen (k := 1) (n := 6) (Nat.le_of_ble_eq_true rfl) (Nat.le_of_ble_eq_true rfl) ?_
    refine vx_catch (own := RL) (name := "java/lang/IndexOutOfBoundsException") (E := "java/lang/IndexOutOfBoundsException") hown [] ⟨0, 9, 12, 31⟩ [] (by rw [hTab]; rfl) (fun z hz => nomatch hz) (by decide) (by decide) (hts (.classLink RL 31 "java/lang/IndexOutOfBoundsException") (by decide +kernel)) (va_Nw.use rfl (hE.ca "java/lang/IndexOutOfBoundsException" "java/lang/IndexOutOfBoundsException" (by decide +kernel))) hce hcv hcl ?_
    refine lv_astore_n (lv' := [(3, .ref q9), (0, .ref x0), (1, .int k1), (2, .ref o1)]) hx hb dL_instances_12 rfl hl (by decide) rfl (fun ls hl => ?_)
    refine lv_iconst (v := 1) hx hb dL_instances_13 (by decide) ?_
    have hP9 := hP.sub (ws' := [(o1, .inl (ty 1, 1, .inr (.inl (fun _ => 0))))]) [0] rfl
    have hD9 := hD.sub (ws' := [(o1, .inl (ty 1, 1, .inr (.inl (fun _ => 0))))]) [0] (by decide) rfl
    refine W.widen (k := 1) (n := 6) (Nat.le_of_ble_eq_true rfl) (Nat.le_of_ble_eq_true rfl) ?_
    refine vx_ret ?_
    exact W.iret (v := 1) hx hb hr (fun t ht hW => ⟨⟨1, [(o1, .inl (ty 1, 1, .inr (.inl (fun _ => 0))))], rfl, ⟨rfl, rfl⟩, wq_B.of ht hP9 hD9⟩, hS.F ht⟩) hS.2.2 dL_instances_14
  · exact hw.elim
set_option maxHeartbeats 4000000 in
set_option maxRecDepth 100000 in
theorem k_L_has (l : Launch) (hl9 : l.stackTraces = false) (D : va_G) (ty : Nat → ClassId) (td sz : Nat) (x0 : Nat) (x1 : Nat) (x8 : Nat) (x20 : Nat) (x39 : Nat) (x41 : Nat) (x43 : Nat) (x45 : Nat) (x46 : Nat) (x47 : Nat) (o1 : Nat) (k1 : Int32) (k2 : Int32) (k3 : Int32) (k4 : Int32) : vx_Met l yL_has wsL_has { frames := 9, cells := 1, slots := 6, locals := 148 } (va_Pc [.ref x0, .int k1, .int k2, .int k3, .int k4, .ref o1] (wq_P D ty td [(x0, .inr (15, [.ref x1, .ref x8, .ref x20, .ref x39, .ref x41, .ref x43, .ref x45])), (x45, .inr (5, [.ref x46, .ref x47, .int 0, .int 0])), (o1, .inl (ty 1, 1, .inr (.inl (fun _ => 0))))] sz)) (va_Qi (fun (r : Int32) (u : va_W) => (r = 1 ∧ (u = [(o1, .inl (ty 1, 1, .inr (.inl (fun _ => 0))))]))) (wq_B D (va_A [(x0, .inr (15, [.ref x1, .ref x8, .ref x20, .ref x39, .ref x41, .ref x43, .ref x45])), (x45, .inr (5, [.ref x46, .ref x47, .int 0, .int 0])), (o1, .inl (ty 1, 1, .inr (.inl (fun _ => 0))))] sz)) (va_A [(x0, .inr (15, [.ref x1, .ref x8, .ref x20, .ref x39, .ref x41, .ref x43, .ref x45])), (x45, .inr (5, [.ref x46, .ref x47, .int 0, .int 0])), (o1, .inl (ty 1, 1, .inr (.inl (fun _ => 0))))] sz)) (vx_X (fun u : String × va_W => False) (wq_BX D (va_A [(x0, .inr (15, [.ref x1, .ref x8, .ref x20, .ref x39, .ref x41, .ref x43, .ref x45])), (x45, .inr (5, [.ref x46, .ref x47, .int 0, .int 0])), (o1, .inl (ty 1, 1, .inr (.inl (fun _ => 0))))] sz)) (va_A [(x0, .inr (15, [.ref x1, .ref x8, .ref x20, .ref x39, .ref x41, .ref x43, .ref x45])), (x45, .inr (5, [.ref x46, .ref x47, .int 0, .int 0])), (o1, .inl (ty 1, 1, .inr (.inl (fun _ => 0))))] sz)) 1 6 (va_A [(x0, .inr (15, [.ref x1, .ref x8, .ref x20, .ref x39, .ref x41, .ref x43, .ref x45])), (x45, .inr (5, [.ref x46, .ref x47, .int 0, .int 0])), (o1, .inl (ty 1, 1, .inr (.inl (fun _ => 0))))] sz) := by
  refine vx_ofWH (cc := cL_has) (maxL := 7) (ret := (some .int)) (hh := [(0, 21, 24, 15), (0, 21, 28, 31), (0, 21, 32, 13)]) (by decide) rfl ?_
  intro p e s m args below meth c s₁ B hml hv
  obtain ⟨rfl, hsz, hP, hK, hD0, hE⟩ := hv
  have hx := B.exec
  have hb := B.bytes
  have hr := B.returns
  have hts := atoms_spec (ws := wsL_has) B.pre
  have hown : s.vm.findClass RL = some m.cls := findClass_of_methodNamed B.named
  have hlocks := B.notSynchronized
  have hTab := vx_table B (hts _ List.mem_cons_self)
  subst hsz
  have hD := hD0.self (sz := s.heap.size)
  generalize hAe : va_A [(x0, .inr (15, [.ref x1, .ref x8, .ref x20, .ref x39, .ref x41, .ref x43, .ref x45])), (x45, .inr (5, [.ref x46, .ref x47, .int 0, .int 0])), (o1, .inl (ty 1, 1, .inr (.inl (fun _ => 0))))] s.heap.size = A at hD hE ⊢
  have hA : ∀ q : Nat, s.heap.size ≤ q → A q := fun q h => by rw [← hAe]; exact Or.inr h
  have hS : va_S A s.heap s.heap [] := va_S.rf
  have hP : va_P D vwCl [(x0, .inr (15, [.ref x1, .ref x8, .ref x20, .ref x39, .ref x41, .ref x43, .ref x45])), (x45, .inr (5, [.ref x46, .ref x47, .int 0, .int 0])), (o1, .inl (ty 1, 1, .inr (.inl (fun _ => 0))))] s.heap := hP
  have hl := lv_entry ([.ref x0, .int k1, .int k2, .int k3, .int k4, .ref o1]) (n := 7) (Nat.le_of_ble_eq_true rfl)
  rw [lg_entry_eq]
  generalize (lg_sl ([.ref x0, .int k1, .int k2, .int k3, .int k4, .ref o1]) ++ List.replicate (7 - (lg_sl ([.ref x0, .int k1, .int k2, .int k3, .int k4, .ref o1])).length) Slot.unset).toArray = ls at hl ⊢
  have hl : lv_has ls 7 [(0, .ref x0), (1, .int k1), (2, .int k2), (3, .int k3), (4, .int k4), (5, .ref o1)] := hl
  refine lv_aload hx hb dL_has_0 (lv_at hl 5 rfl) ?_
  refine lv_iconst (v := 0) hx hb dL_has_2 (by decide) ?_
  refine lv_aload_n hx hb dL_has_3 rfl (lv_at hl 0 rfl) ?_
  refine lv_iload_n hx hb dL_has_4 rfl (lv_at hl 1 rfl) ?_
  refine lv_iload_n hx hb dL_has_5 rfl (lv_at hl 2 rfl) ?_
  refine lv_iload_n hx hb dL_has_6 rfl (lv_at hl 3 rfl) ?_
  refine lv_iload hx hb dL_has_7 (lv_at hl 4 rfl) ?_
  refine wq_xi (wc := [(x0, .inr (15, [.ref x1, .ref x8, .ref x20, .ref x39, .ref x41, .ref x43, .ref x45])), (x45, .inr (5, [.ref x46, .ref x47, .int 0, .int 0]))]) (wr := [(o1, .inl (ty 1, 1, .inr (.inl (fun _ => 0))))]) (vx_runV (As := [.int k1, .int k2, .int k3, .int k4]) (rest := [.int 0, .ref o1]) ⟨hx, hb, hml, hown, hts⟩ (k_X10_has l hl9 D ty td s.heap.size x0 x1 x8 x20 x39 x41 x43 x45 x46 x47 k1 k2 k3 k4) (cwV 4 hts gL_has_X10_has rfl rfl rfl (by decide +kernel) ⟨(Nat.le_of_ble_eq_true rfl), (Nat.le_of_ble_eq_true rfl)⟩) (wq_preV hP hD hK hE hS hA [0, 1] rfl (by decide) 0 15 rfl rfl) rfl rfl hl.1 rfl (lv_room (Nat.le_of_ble_eq_true rfl)) dL_has_9 ⟨(Nat.le_of_ble_eq_true rfl), (Nat.le_of_ble_eq_true rfl)⟩) hS hA hP hD [0, 1] [2] rfl rfl (by decide) (by decide) (fun E9 u H locs q9 ce hw hP hD hS hce hcv hcl => ?_) (fun r u H locs hw hP hD hS => ?_)
  · have hEq := hw
    cases hEq
    have hP : va_P D vwCl [(o1, .inl (ty 1, 1, .inr (.inl (fun _ => 0))))] H := hP
    have hD : va_D A [(o1, .inl (ty 1, 1, .inr (.inl (fun _ => 0))))] := hD
    refine vx_widen (k := 1) (n := 6) (Nat.le_of_ble_eq_true rfl) (Nat.le_of_ble_eq_true rfl) ?_
    refine vx_catch (own := RL) (name := "java/lang/IllegalStateException") (E := "java/lang/IllegalStateException") hown [] ⟨0, 21, 24, 15⟩ [⟨0, 21, 28, 31⟩, ⟨0, 21, 32, 13⟩] (by rw [hTab]; rfl) (fun z hz => nomatch hz) (by decide) (by decide) (hts (.classLink RL 15 "java/lang/IllegalStateException") (by decide +kernel)) (va_Nw.use rfl (hE.ca "java/lang/IllegalStateException" "java/lang/IllegalStateException" (by decide +kernel))) hce hcv hcl ?_
    refine lv_astore (lv' := [(6, .ref q9), (0, .ref x0), (1, .int k1), (2, .int k2), (3, .int k3), (4, .int k4), (5, .ref o1)]) hx hb dL_has_24 hl (by decide) rfl (fun ls hl => ?_)
    refine lv_iconst (v := 1) hx hb dL_has_26 (by decide) ?_
    have hP9 := hP.sub (ws' := [(o1, .inl (ty 1, 1, .inr (.inl (fun _ => 0))))]) [0] rfl
    have hD9 := hD.sub (ws' := [(o1, .inl (ty 1, 1, .inr (.inl (fun _ => 0))))]) [0] (by decide) rfl
    refine W.widen (k := 1) (n := 6) (Nat.le_of_ble_eq_true rfl) (Nat.le_of_ble_eq_true rfl) ?_
    refine vx_ret ?_
    exact W.iret (v := 1) hx hb hr (fun t ht hW => ⟨⟨1, [(o1, .inl (ty 1, 1, .inr (.inl (fun _ => 0))))], rfl, ⟨rfl, rfl⟩, wq_B.of ht hP9 hD9⟩, hS.F ht⟩) hS.2.2 dL_has_27
  · exact hw.elim
set_option maxHeartbeats 4000000 in
set_option maxRecDepth 100000 in
theorem k_L_size (l : Launch) (hl9 : l.stackTraces = false) (D : va_G) (ty : Nat → ClassId) (td sz : Nat) (x0 : Nat) (x1 : Nat) (x8 : Nat) (x20 : Nat) (x39 : Nat) (x41 : Nat) (x43 : Nat) (x45 : Nat) (x46 : Nat) (x47 : Nat) (o1 : Nat) (k1 : Int32) : vx_Met l yL_size wsL_size { frames := 9, cells := 1, slots := 6, locals := 144 } (va_Pc [.ref x0, .int k1, .ref o1] (wq_P D ty td [(x0, .inr (15, [.ref x1, .ref x8, .ref x20, .ref x39, .ref x41, .ref x43, .ref x45])), (x45, .inr (5, [.ref x46, .ref x47, .int 0, .int 0])), (o1, .inl (ty 1, 1, .inr (.inl (fun _ => 0))))] sz)) (va_Qi (fun (r : Int32) (u : va_W) => (r = 1 ∧ (u = [(o1, .inl (ty 1, 1, .inr (.inl (fun _ => 0))))]))) (wq_B D (va_A [(x0, .inr (15, [.ref x1, .ref x8, .ref x20, .ref x39, .ref x41, .ref x43, .ref x45])), (x45, .inr (5, [.ref x46, .ref x47, .int 0, .int 0])), (o1, .inl (ty 1, 1, .inr (.inl (fun _ => 0))))] sz)) (va_A [(x0, .inr (15, [.ref x1, .ref x8, .ref x20, .ref x39, .ref x41, .ref x43, .ref x45])), (x45, .inr (5, [.ref x46, .ref x47, .int 0, .int 0])), (o1, .inl (ty 1, 1, .inr (.inl (fun _ => 0))))] sz)) (vx_X (fun u : String × va_W => False) (wq_BX D (va_A [(x0, .inr (15, [.ref x1, .ref x8, .ref x20, .ref x39, .ref x41, .ref x43, .ref x45])), (x45, .inr (5, [.ref x46, .ref x47, .int 0, .int 0])), (o1, .inl (ty 1, 1, .inr (.inl (fun _ => 0))))] sz)) (va_A [(x0, .inr (15, [.ref x1, .ref x8, .ref x20, .ref x39, .ref x41, .ref x43, .ref x45])), (x45, .inr (5, [.ref x46, .ref x47, .int 0, .int 0])), (o1, .inl (ty 1, 1, .inr (.inl (fun _ => 0))))] sz)) 1 6 (va_A [(x0, .inr (15, [.ref x1, .ref x8, .ref x20, .ref x39, .ref x41, .ref x43, .ref x45])), (x45, .inr (5, [.ref x46, .ref x47, .int 0, .int 0])), (o1, .inl (ty 1, 1, .inr (.inl (fun _ => 0))))] sz) := by
  refine vx_ofWH (cc := cL_size) (maxL := 4) (ret := (some .int)) (hh := [(0, 9, 12, 15), (0, 9, 15, 31)]) (by decide) rfl ?_
  intro p e s m args below meth c s₁ B hml hv
  obtain ⟨rfl, hsz, hP, hK, hD0, hE⟩ := hv
  have hx := B.exec
  have hb := B.bytes
  have hr := B.returns
  have hts := atoms_spec (ws := wsL_size) B.pre
  have hown : s.vm.findClass RL = some m.cls := findClass_of_methodNamed B.named
  have hlocks := B.notSynchronized
  have hTab := vx_table B (hts _ List.mem_cons_self)
  subst hsz
  have hD := hD0.self (sz := s.heap.size)
  generalize hAe : va_A [(x0, .inr (15, [.ref x1, .ref x8, .ref x20, .ref x39, .ref x41, .ref x43, .ref x45])), (x45, .inr (5, [.ref x46, .ref x47, .int 0, .int 0])), (o1, .inl (ty 1, 1, .inr (.inl (fun _ => 0))))] s.heap.size = A at hD hE ⊢
  have hA : ∀ q : Nat, s.heap.size ≤ q → A q := fun q h => by rw [← hAe]; exact Or.inr h
  have hS : va_S A s.heap s.heap [] := va_S.rf
  have hP : va_P D vwCl [(x0, .inr (15, [.ref x1, .ref x8, .ref x20, .ref x39, .ref x41, .ref x43, .ref x45])), (x45, .inr (5, [.ref x46, .ref x47, .int 0, .int 0])), (o1, .inl (ty 1, 1, .inr (.inl (fun _ => 0))))] s.heap := hP
  have hl := lv_entry ([.ref x0, .int k1, .ref o1]) (n := 4) (Nat.le_of_ble_eq_true rfl)
  rw [lg_entry_eq]
  generalize (lg_sl ([.ref x0, .int k1, .ref o1]) ++ List.replicate (4 - (lg_sl ([.ref x0, .int k1, .ref o1])).length) Slot.unset).toArray = ls at hl ⊢
  have hl : lv_has ls 4 [(0, .ref x0), (1, .int k1), (2, .ref o1)] := hl
  refine lv_aload_n hx hb dL_size_0 rfl (lv_at hl 2 rfl) ?_
  refine lv_iconst (v := 0) hx hb dL_size_1 (by decide) ?_
  refine lv_aload_n hx hb dL_size_2 rfl (lv_at hl 0 rfl) ?_
  refine lv_iload_n hx hb dL_size_3 rfl (lv_at hl 1 rfl) ?_
  refine wq_xi (wc := [(x0, .inr (15, [.ref x1, .ref x8, .ref x20, .ref x39, .ref x41, .ref x43, .ref x45])), (x45, .inr (5, [.ref x46, .ref x47, .int 0, .int 0]))]) (wr := [(o1, .inl (ty 1, 1, .inr (.inl (fun _ => 0))))]) (vx_runV (As := [.int k1]) (rest := [.int 0, .ref o1]) ⟨hx, hb, hml, hown, hts⟩ (k_X10_size l hl9 D ty td s.heap.size x0 x1 x8 x20 x39 x41 x43 x45 x46 x47 k1) (cwV 1 hts gL_size_X10_size rfl rfl rfl (by decide +kernel) ⟨(Nat.le_of_ble_eq_true rfl), (Nat.le_of_ble_eq_true rfl)⟩) (wq_preV hP hD hK hE hS hA [0, 1] rfl (by decide) 0 15 rfl rfl) rfl rfl hl.1 rfl (lv_room (Nat.le_of_ble_eq_true rfl)) dL_size_4 ⟨(Nat.le_of_ble_eq_true rfl), (Nat.le_of_ble_eq_true rfl)⟩) hS hA hP hD [0, 1] [2] rfl rfl (by decide) (by decide) (fun E9 u H locs q9 ce hw hP hD hS hce hcv hcl => ?_) (fun r u H locs hw hP hD hS => ?_)
  · have hEq := hw
    cases hEq
    have hP : va_P D vwCl [(o1, .inl (ty 1, 1, .inr (.inl (fun _ => 0))))] H := hP
    have hD : va_D A [(o1, .inl (ty 1, 1, .inr (.inl (fun _ => 0))))] := hD
    refine vx_widen (k := 1) (n := 6) (Nat.le_of_ble_eq_true rfl) (Nat.le_of_ble_eq_true rfl) ?_
    refine vx_catch (own := RL) (name := "java/lang/IllegalStateException") (E := "java/lang/IllegalStateException") hown [] ⟨0, 9, 12, 15⟩ [⟨0, 9, 15, 31⟩] (by rw [hTab]; rfl) (fun z hz => nomatch hz) (by decide) (by decide) (hts (.classLink RL 15 "java/lang/IllegalStateException") (by decide +kernel)) (va_Nw.use rfl (hE.ca "java/lang/IllegalStateException" "java/lang/IllegalStateException" (by decide +kernel))) hce hcv hcl ?_
    refine lv_astore_n (lv' := [(3, .ref q9), (0, .ref x0), (1, .int k1), (2, .ref o1)]) hx hb dL_size_12 rfl hl (by decide) rfl (fun ls hl => ?_)
    refine lv_iconst (v := 1) hx hb dL_size_13 (by decide) ?_
    have hP9 := hP.sub (ws' := [(o1, .inl (ty 1, 1, .inr (.inl (fun _ => 0))))]) [0] rfl
    have hD9 := hD.sub (ws' := [(o1, .inl (ty 1, 1, .inr (.inl (fun _ => 0))))]) [0] (by decide) rfl
    refine W.widen (k := 1) (n := 6) (Nat.le_of_ble_eq_true rfl) (Nat.le_of_ble_eq_true rfl) ?_
    refine vx_ret ?_
    exact W.iret (v := 1) hx hb hr (fun t ht hW => ⟨⟨1, [(o1, .inl (ty 1, 1, .inr (.inl (fun _ => 0))))], rfl, ⟨rfl, rfl⟩, wq_B.of ht hP9 hD9⟩, hS.F ht⟩) hS.2.2 dL_size_14
  · exact hw.elim
set_option maxHeartbeats 4000000 in
set_option maxRecDepth 100000 in
theorem k_L_cost (l : Launch) (hl9 : l.stackTraces = false) (D : va_G) (ty : Nat → ClassId) (td sz : Nat) (x0 : Nat) (x1 : Nat) (x8 : Nat) (x20 : Nat) (x39 : Nat) (x41 : Nat) (x43 : Nat) (x45 : Nat) (x46 : Nat) (x47 : Nat) (o1 : Nat) (k1 : Int32) (k2 : Int32) : vx_Met l yL_cost wsL_cost { frames := 9, cells := 1, slots := 6, locals := 145 } (va_Pc [.ref x0, .int k1, .int k2, .ref o1] (wq_P D ty td [(x0, .inr (15, [.ref x1, .ref x8, .ref x20, .ref x39, .ref x41, .ref x43, .ref x45])), (x45, .inr (5, [.ref x46, .ref x47, .int 0, .int 0])), (o1, .inl (ty 1, 1, .inr (.inl (fun _ => 0))))] sz)) (va_Qi (fun (r : Int32) (u : va_W) => (r = 1 ∧ (u = [(o1, .inl (ty 1, 1, .inr (.inl (fun _ => 0))))]))) (wq_B D (va_A [(x0, .inr (15, [.ref x1, .ref x8, .ref x20, .ref x39, .ref x41, .ref x43, .ref x45])), (x45, .inr (5, [.ref x46, .ref x47, .int 0, .int 0])), (o1, .inl (ty 1, 1, .inr (.inl (fun _ => 0))))] sz)) (va_A [(x0, .inr (15, [.ref x1, .ref x8, .ref x20, .ref x39, .ref x41, .ref x43, .ref x45])), (x45, .inr (5, [.ref x46, .ref x47, .int 0, .int 0])), (o1, .inl (ty 1, 1, .inr (.inl (fun _ => 0))))] sz)) (vx_X (fun u : String × va_W => False) (wq_BX D (va_A [(x0, .inr (15, [.ref x1, .ref x8, .ref x20, .ref x39, .ref x41, .ref x43, .ref x45])), (x45, .inr (5, [.ref x46, .ref x47, .int 0, .int 0])), (o1, .inl (ty 1, 1, .inr (.inl (fun _ => 0))))] sz)) (va_A [(x0, .inr (15, [.ref x1, .ref x8, .ref x20, .ref x39, .ref x41, .ref x43, .ref x45])), (x45, .inr (5, [.ref x46, .ref x47, .int 0, .int 0])), (o1, .inl (ty 1, 1, .inr (.inl (fun _ => 0))))] sz)) 1 6 (va_A [(x0, .inr (15, [.ref x1, .ref x8, .ref x20, .ref x39, .ref x41, .ref x43, .ref x45])), (x45, .inr (5, [.ref x46, .ref x47, .int 0, .int 0])), (o1, .inl (ty 1, 1, .inr (.inl (fun _ => 0))))] sz) := by
  refine vx_ofWH (cc := cL_cost) (maxL := 5) (ret := (some .int)) (hh := [(0, 9, 12, 15), (0, 9, 16, 31), (0, 9, 20, 13)]) (by decide) rfl ?_
  intro p e s m args below meth c s₁ B hml hv
  obtain ⟨rfl, hsz, hP, hK, hD0, hE⟩ := hv
  have hx := B.exec
  have hb := B.bytes
  have hr := B.returns
  have hts := atoms_spec (ws := wsL_cost) B.pre
  have hown : s.vm.findClass RL = some m.cls := findClass_of_methodNamed B.named
  have hlocks := B.notSynchronized
  have hTab := vx_table B (hts _ List.mem_cons_self)
  subst hsz
  have hD := hD0.self (sz := s.heap.size)
  generalize hAe : va_A [(x0, .inr (15, [.ref x1, .ref x8, .ref x20, .ref x39, .ref x41, .ref x43, .ref x45])), (x45, .inr (5, [.ref x46, .ref x47, .int 0, .int 0])), (o1, .inl (ty 1, 1, .inr (.inl (fun _ => 0))))] s.heap.size = A at hD hE ⊢
  have hA : ∀ q : Nat, s.heap.size ≤ q → A q := fun q h => by rw [← hAe]; exact Or.inr h
  have hS : va_S A s.heap s.heap [] := va_S.rf
  have hP : va_P D vwCl [(x0, .inr (15, [.ref x1, .ref x8, .ref x20, .ref x39, .ref x41, .ref x43, .ref x45])), (x45, .inr (5, [.ref x46, .ref x47, .int 0, .int 0])), (o1, .inl (ty 1, 1, .inr (.inl (fun _ => 0))))] s.heap := hP
  have hl := lv_entry ([.ref x0, .int k1, .int k2, .ref o1]) (n := 5) (Nat.le_of_ble_eq_true rfl)
  rw [lg_entry_eq]
  generalize (lg_sl ([.ref x0, .int k1, .int k2, .ref o1]) ++ List.replicate (5 - (lg_sl ([.ref x0, .int k1, .int k2, .ref o1])).length) Slot.unset).toArray = ls at hl ⊢
  have hl : lv_has ls 5 [(0, .ref x0), (1, .int k1), (2, .int k2), (3, .ref o1)] := hl
  refine lv_aload_n hx hb dL_cost_0 rfl (lv_at hl 3 rfl) ?_
  refine lv_iconst (v := 0) hx hb dL_cost_1 (by decide) ?_
  refine lv_aload_n hx hb dL_cost_2 rfl (lv_at hl 0 rfl) ?_
  refine lv_iload_n hx hb dL_cost_3 rfl (lv_at hl 1 rfl) ?_
  refine lv_iload_n hx hb dL_cost_4 rfl (lv_at hl 2 rfl) ?_
  refine wq_xl (wc := [(x0, .inr (15, [.ref x1, .ref x8, .ref x20, .ref x39, .ref x41, .ref x43, .ref x45])), (x45, .inr (5, [.ref x46, .ref x47, .int 0, .int 0]))]) (wr := [(o1, .inl (ty 1, 1, .inr (.inl (fun _ => 0))))]) (vx_runV (As := [.int k1, .int k2]) (rest := [.int 0, .ref o1]) ⟨hx, hb, hml, hown, hts⟩ (k_X10_cost l hl9 D ty td s.heap.size x0 x1 x8 x20 x39 x41 x43 x45 x46 x47 k1 k2) (cwV 2 hts gL_cost_X10_cost rfl rfl rfl (by decide +kernel) ⟨(Nat.le_of_ble_eq_true rfl), (Nat.le_of_ble_eq_true rfl)⟩) (wq_preV hP hD hK hE hS hA [0, 1] rfl (by decide) 0 15 rfl rfl) rfl rfl hl.1 rfl (lv_room (Nat.le_of_ble_eq_true rfl)) dL_cost_5 ⟨(Nat.le_of_ble_eq_true rfl), (Nat.le_of_ble_eq_true rfl)⟩) hS hA hP hD [0, 1] [2] rfl rfl (by decide) (by decide) (fun E9 u H locs q9 ce hw hP hD hS hce hcv hcl => ?_) (fun r u H locs hw hP hD hS => ?_)
  · have hEq := hw
    cases hEq
    have hP : va_P D vwCl [(o1, .inl (ty 1, 1, .inr (.inl (fun _ => 0))))] H := hP
    have hD : va_D A [(o1, .inl (ty 1, 1, .inr (.inl (fun _ => 0))))] := hD
    refine vx_widen (k := 1) (n := 6) (Nat.le_of_ble_eq_true rfl) (Nat.le_of_ble_eq_true rfl) ?_
    refine vx_catch (own := RL) (name := "java/lang/IllegalStateException") (E := "java/lang/IllegalStateException") hown [] ⟨0, 9, 12, 15⟩ [⟨0, 9, 16, 31⟩, ⟨0, 9, 20, 13⟩] (by rw [hTab]; rfl) (fun z hz => nomatch hz) (by decide) (by decide) (hts (.classLink RL 15 "java/lang/IllegalStateException") (by decide +kernel)) (va_Nw.use rfl (hE.ca "java/lang/IllegalStateException" "java/lang/IllegalStateException" (by decide +kernel))) hce hcv hcl ?_
    refine lv_astore (lv' := [(4, .ref q9), (0, .ref x0), (1, .int k1), (2, .int k2), (3, .ref o1)]) hx hb dL_cost_12 hl (by decide) rfl (fun ls hl => ?_)
    refine lv_iconst (v := 1) hx hb dL_cost_14 (by decide) ?_
    have hP9 := hP.sub (ws' := [(o1, .inl (ty 1, 1, .inr (.inl (fun _ => 0))))]) [0] rfl
    have hD9 := hD.sub (ws' := [(o1, .inl (ty 1, 1, .inr (.inl (fun _ => 0))))]) [0] (by decide) rfl
    refine W.widen (k := 1) (n := 6) (Nat.le_of_ble_eq_true rfl) (Nat.le_of_ble_eq_true rfl) ?_
    refine vx_ret ?_
    exact W.iret (v := 1) hx hb hr (fun t ht hW => ⟨⟨1, [(o1, .inl (ty 1, 1, .inr (.inl (fun _ => 0))))], rfl, ⟨rfl, rfl⟩, wq_B.of ht hP9 hD9⟩, hS.F ht⟩) hS.2.2 dL_cost_15
  · exact hw.elim
set_option maxHeartbeats 4000000 in
set_option maxRecDepth 100000 in
theorem k_L_best (l : Launch) (hl9 : l.stackTraces = false) (D : va_G) (ty : Nat → ClassId) (td sz : Nat) (x0 : Nat) (x1 : Nat) (x8 : Nat) (x20 : Nat) (x39 : Nat) (x41 : Nat) (x43 : Nat) (x45 : Nat) (x46 : Nat) (x47 : Nat) (o1 : Nat) : vx_Met l yL_best wsL_best { frames := 8, cells := 1, slots := 6, locals := 122 } (va_Pc [.ref x0, .ref o1] (wq_P D ty td [(x0, .inr (15, [.ref x1, .ref x8, .ref x20, .ref x39, .ref x41, .ref x43, .ref x45])), (x45, .inr (5, [.ref x46, .ref x47, .int 0, .int 0])), (o1, .inl (ty 1, 1, .inr (.inl (fun _ => 0))))] sz)) (va_Qi (fun (r : Int32) (u : va_W) => (r = 1 ∧ (u = [(o1, .inl (ty 1, 1, .inr (.inl (fun _ => 0))))]))) (wq_B D (va_A [(x0, .inr (15, [.ref x1, .ref x8, .ref x20, .ref x39, .ref x41, .ref x43, .ref x45])), (x45, .inr (5, [.ref x46, .ref x47, .int 0, .int 0])), (o1, .inl (ty 1, 1, .inr (.inl (fun _ => 0))))] sz)) (va_A [(x0, .inr (15, [.ref x1, .ref x8, .ref x20, .ref x39, .ref x41, .ref x43, .ref x45])), (x45, .inr (5, [.ref x46, .ref x47, .int 0, .int 0])), (o1, .inl (ty 1, 1, .inr (.inl (fun _ => 0))))] sz)) (vx_X (fun u : String × va_W => False) (wq_BX D (va_A [(x0, .inr (15, [.ref x1, .ref x8, .ref x20, .ref x39, .ref x41, .ref x43, .ref x45])), (x45, .inr (5, [.ref x46, .ref x47, .int 0, .int 0])), (o1, .inl (ty 1, 1, .inr (.inl (fun _ => 0))))] sz)) (va_A [(x0, .inr (15, [.ref x1, .ref x8, .ref x20, .ref x39, .ref x41, .ref x43, .ref x45])), (x45, .inr (5, [.ref x46, .ref x47, .int 0, .int 0])), (o1, .inl (ty 1, 1, .inr (.inl (fun _ => 0))))] sz)) 1 6 (va_A [(x0, .inr (15, [.ref x1, .ref x8, .ref x20, .ref x39, .ref x41, .ref x43, .ref x45])), (x45, .inr (5, [.ref x46, .ref x47, .int 0, .int 0])), (o1, .inl (ty 1, 1, .inr (.inl (fun _ => 0))))] sz) := by
  refine vx_ofWH (cc := cL_best) (maxL := 3) (ret := (some .int)) (hh := [(0, 8, 11, 15)]) (by decide) rfl ?_
  intro p e s m args below meth c s₁ B hml hv
  obtain ⟨rfl, hsz, hP, hK, hD0, hE⟩ := hv
  have hx := B.exec
  have hb := B.bytes
  have hr := B.returns
  have hts := atoms_spec (ws := wsL_best) B.pre
  have hown : s.vm.findClass RL = some m.cls := findClass_of_methodNamed B.named
  have hlocks := B.notSynchronized
  have hTab := vx_table B (hts _ List.mem_cons_self)
  subst hsz
  have hD := hD0.self (sz := s.heap.size)
  generalize hAe : va_A [(x0, .inr (15, [.ref x1, .ref x8, .ref x20, .ref x39, .ref x41, .ref x43, .ref x45])), (x45, .inr (5, [.ref x46, .ref x47, .int 0, .int 0])), (o1, .inl (ty 1, 1, .inr (.inl (fun _ => 0))))] s.heap.size = A at hD hE ⊢
  have hA : ∀ q : Nat, s.heap.size ≤ q → A q := fun q h => by rw [← hAe]; exact Or.inr h
  have hS : va_S A s.heap s.heap [] := va_S.rf
  have hP : va_P D vwCl [(x0, .inr (15, [.ref x1, .ref x8, .ref x20, .ref x39, .ref x41, .ref x43, .ref x45])), (x45, .inr (5, [.ref x46, .ref x47, .int 0, .int 0])), (o1, .inl (ty 1, 1, .inr (.inl (fun _ => 0))))] s.heap := hP
  have hl := lv_entry ([.ref x0, .ref o1]) (n := 3) (Nat.le_of_ble_eq_true rfl)
  rw [lg_entry_eq]
  generalize (lg_sl ([.ref x0, .ref o1]) ++ List.replicate (3 - (lg_sl ([.ref x0, .ref o1])).length) Slot.unset).toArray = ls at hl ⊢
  have hl : lv_has ls 3 [(0, .ref x0), (1, .ref o1)] := hl
  refine lv_aload_n hx hb dL_best_0 rfl (lv_at hl 1 rfl) ?_
  refine lv_iconst (v := 0) hx hb dL_best_1 (by decide) ?_
  refine lv_aload_n hx hb dL_best_2 rfl (lv_at hl 0 rfl) ?_
  refine wq_xi (wc := [(x0, .inr (15, [.ref x1, .ref x8, .ref x20, .ref x39, .ref x41, .ref x43, .ref x45])), (x45, .inr (5, [.ref x46, .ref x47, .int 0, .int 0]))]) (wr := [(o1, .inl (ty 1, 1, .inr (.inl (fun _ => 0))))]) (vx_runV (As := []) (rest := [.int 0, .ref o1]) ⟨hx, hb, hml, hown, hts⟩ (k_X10_best l hl9 D ty td s.heap.size x0 x1 x8 x20 x39 x41 x43 x45 x46 x47) (cwV 0 hts gL_best_X10_best rfl rfl rfl (by decide +kernel) ⟨(Nat.le_of_ble_eq_true rfl), (Nat.le_of_ble_eq_true rfl)⟩) (wq_preV hP hD hK hE hS hA [0, 1] rfl (by decide) 0 15 rfl rfl) rfl rfl hl.1 rfl (lv_room (Nat.le_of_ble_eq_true rfl)) dL_best_3 ⟨(Nat.le_of_ble_eq_true rfl), (Nat.le_of_ble_eq_true rfl)⟩) hS hA hP hD [0, 1] [2] rfl rfl (by decide) (by decide) (fun E9 u H locs q9 ce hw hP hD hS hce hcv hcl => ?_) (fun r u H locs hw hP hD hS => ?_)
  · have hEq := hw
    cases hEq
    have hP : va_P D vwCl [(o1, .inl (ty 1, 1, .inr (.inl (fun _ => 0))))] H := hP
    have hD : va_D A [(o1, .inl (ty 1, 1, .inr (.inl (fun _ => 0))))] := hD
    refine vx_widen (k := 1) (n := 6) (Nat.le_of_ble_eq_true rfl) (Nat.le_of_ble_eq_true rfl) ?_
    refine vx_catch (own := RL) (name := "java/lang/IllegalStateException") (E := "java/lang/IllegalStateException") hown [] ⟨0, 8, 11, 15⟩ [] (by rw [hTab]; rfl) (fun z hz => nomatch hz) (by decide) (by decide) (hts (.classLink RL 15 "java/lang/IllegalStateException") (by decide +kernel)) (va_Nw.use rfl (hE.ca "java/lang/IllegalStateException" "java/lang/IllegalStateException" (by decide +kernel))) hce hcv hcl ?_
    refine lv_astore_n (lv' := [(2, .ref q9), (0, .ref x0), (1, .ref o1)]) hx hb dL_best_11 rfl hl (by decide) rfl (fun ls hl => ?_)
    refine lv_iconst (v := 1) hx hb dL_best_12 (by decide) ?_
    have hP9 := hP.sub (ws' := [(o1, .inl (ty 1, 1, .inr (.inl (fun _ => 0))))]) [0] rfl
    have hD9 := hD.sub (ws' := [(o1, .inl (ty 1, 1, .inr (.inl (fun _ => 0))))]) [0] (by decide) rfl
    refine W.widen (k := 1) (n := 6) (Nat.le_of_ble_eq_true rfl) (Nat.le_of_ble_eq_true rfl) ?_
    refine vx_ret ?_
    exact W.iret (v := 1) hx hb hr (fun t ht hW => ⟨⟨1, [(o1, .inl (ty 1, 1, .inr (.inl (fun _ => 0))))], rfl, ⟨rfl, rfl⟩, wq_B.of ht hP9 hD9⟩, hS.F ht⟩) hS.2.2 dL_best_13
  · exact hw.elim
set_option maxHeartbeats 4000000 in
set_option maxRecDepth 100000 in
theorem k_L_projected (l : Launch) (hl9 : l.stackTraces = false) (D : va_G) (ty : Nat → ClassId) (td sz : Nat) (x0 : Nat) (x1 : Nat) (x8 : Nat) (x20 : Nat) (x39 : Nat) (x41 : Nat) (x43 : Nat) (x45 : Nat) (x46 : Nat) (x47 : Nat) (o1 : Nat) (k1 : Int32) : vx_Met l yL_projected wsL_projected { frames := 8, cells := 1, slots := 6, locals := 123 } (va_Pc [.ref x0, .int k1, .ref o1] (wq_P D ty td [(x0, .inr (15, [.ref x1, .ref x8, .ref x20, .ref x39, .ref x41, .ref x43, .ref x45])), (x45, .inr (5, [.ref x46, .ref x47, .int 0, .int 0])), (o1, .inl (ty 1, 1, .inr (.inl (fun _ => 0))))] sz)) (va_Qi (fun (r : Int32) (u : va_W) => (r = 1 ∧ (u = [(o1, .inl (ty 1, 1, .inr (.inl (fun _ => 0))))]))) (wq_B D (va_A [(x0, .inr (15, [.ref x1, .ref x8, .ref x20, .ref x39, .ref x41, .ref x43, .ref x45])), (x45, .inr (5, [.ref x46, .ref x47, .int 0, .int 0])), (o1, .inl (ty 1, 1, .inr (.inl (fun _ => 0))))] sz)) (va_A [(x0, .inr (15, [.ref x1, .ref x8, .ref x20, .ref x39, .ref x41, .ref x43, .ref x45])), (x45, .inr (5, [.ref x46, .ref x47, .int 0, .int 0])), (o1, .inl (ty 1, 1, .inr (.inl (fun _ => 0))))] sz)) (vx_X (fun u : String × va_W => False) (wq_BX D (va_A [(x0, .inr (15, [.ref x1, .ref x8, .ref x20, .ref x39, .ref x41, .ref x43, .ref x45])), (x45, .inr (5, [.ref x46, .ref x47, .int 0, .int 0])), (o1, .inl (ty 1, 1, .inr (.inl (fun _ => 0))))] sz)) (va_A [(x0, .inr (15, [.ref x1, .ref x8, .ref x20, .ref x39, .ref x41, .ref x43, .ref x45])), (x45, .inr (5, [.ref x46, .ref x47, .int 0, .int 0])), (o1, .inl (ty 1, 1, .inr (.inl (fun _ => 0))))] sz)) 1 6 (va_A [(x0, .inr (15, [.ref x1, .ref x8, .ref x20, .ref x39, .ref x41, .ref x43, .ref x45])), (x45, .inr (5, [.ref x46, .ref x47, .int 0, .int 0])), (o1, .inl (ty 1, 1, .inr (.inl (fun _ => 0))))] sz) := by
  refine vx_ofWH (cc := cL_projected) (maxL := 4) (ret := (some .int)) (hh := [(0, 9, 12, 15), (0, 9, 15, 31)]) (by decide) rfl ?_
  intro p e s m args below meth c s₁ B hml hv
  obtain ⟨rfl, hsz, hP, hK, hD0, hE⟩ := hv
  have hx := B.exec
  have hb := B.bytes
  have hr := B.returns
  have hts := atoms_spec (ws := wsL_projected) B.pre
  have hown : s.vm.findClass RL = some m.cls := findClass_of_methodNamed B.named
  have hlocks := B.notSynchronized
  have hTab := vx_table B (hts _ List.mem_cons_self)
  subst hsz
  have hD := hD0.self (sz := s.heap.size)
  generalize hAe : va_A [(x0, .inr (15, [.ref x1, .ref x8, .ref x20, .ref x39, .ref x41, .ref x43, .ref x45])), (x45, .inr (5, [.ref x46, .ref x47, .int 0, .int 0])), (o1, .inl (ty 1, 1, .inr (.inl (fun _ => 0))))] s.heap.size = A at hD hE ⊢
  have hA : ∀ q : Nat, s.heap.size ≤ q → A q := fun q h => by rw [← hAe]; exact Or.inr h
  have hS : va_S A s.heap s.heap [] := va_S.rf
  have hP : va_P D vwCl [(x0, .inr (15, [.ref x1, .ref x8, .ref x20, .ref x39, .ref x41, .ref x43, .ref x45])), (x45, .inr (5, [.ref x46, .ref x47, .int 0, .int 0])), (o1, .inl (ty 1, 1, .inr (.inl (fun _ => 0))))] s.heap := hP
  have hl := lv_entry ([.ref x0, .int k1, .ref o1]) (n := 4) (Nat.le_of_ble_eq_true rfl)
  rw [lg_entry_eq]
  generalize (lg_sl ([.ref x0, .int k1, .ref o1]) ++ List.replicate (4 - (lg_sl ([.ref x0, .int k1, .ref o1])).length) Slot.unset).toArray = ls at hl ⊢
  have hl : lv_has ls 4 [(0, .ref x0), (1, .int k1), (2, .ref o1)] := hl
  refine lv_aload_n hx hb dL_projected_0 rfl (lv_at hl 2 rfl) ?_
  refine lv_iconst (v := 0) hx hb dL_projected_1 (by decide) ?_
  refine lv_aload_n hx hb dL_projected_2 rfl (lv_at hl 0 rfl) ?_
  refine lv_iload_n hx hb dL_projected_3 rfl (lv_at hl 1 rfl) ?_
  refine wq_xi (wc := [(x0, .inr (15, [.ref x1, .ref x8, .ref x20, .ref x39, .ref x41, .ref x43, .ref x45])), (x45, .inr (5, [.ref x46, .ref x47, .int 0, .int 0]))]) (wr := [(o1, .inl (ty 1, 1, .inr (.inl (fun _ => 0))))]) (vx_runV (As := [.int k1]) (rest := [.int 0, .ref o1]) ⟨hx, hb, hml, hown, hts⟩ (k_X10_projected l hl9 D ty td s.heap.size x0 x1 x8 x20 x39 x41 x43 x45 x46 x47 k1) (cwV 1 hts gL_projected_X10_projected rfl rfl rfl (by decide +kernel) ⟨(Nat.le_of_ble_eq_true rfl), (Nat.le_of_ble_eq_true rfl)⟩) (wq_preV hP hD hK hE hS hA [0, 1] rfl (by decide) 0 15 rfl rfl) rfl rfl hl.1 rfl (lv_room (Nat.le_of_ble_eq_true rfl)) dL_projected_4 ⟨(Nat.le_of_ble_eq_true rfl), (Nat.le_of_ble_eq_true rfl)⟩) hS hA hP hD [0, 1] [2] rfl rfl (by decide) (by decide) (fun E9 u H locs q9 ce hw hP hD hS hce hcv hcl => ?_) (fun r u H locs hw hP hD hS => ?_)
  · have hEq := hw
    cases hEq
    have hP : va_P D vwCl [(o1, .inl (ty 1, 1, .inr (.inl (fun _ => 0))))] H := hP
    have hD : va_D A [(o1, .inl (ty 1, 1, .inr (.inl (fun _ => 0))))] := hD
    refine vx_widen (k := 1) (n := 6) (Nat.le_of_ble_eq_true rfl) (Nat.le_of_ble_eq_true rfl) ?_
    refine vx_catch (own := RL) (name := "java/lang/IllegalStateException") (E := "java/lang/IllegalStateException") hown [] ⟨0, 9, 12, 15⟩ [⟨0, 9, 15, 31⟩] (by rw [hTab]; rfl) (fun z hz => nomatch hz) (by decide) (by decide) (hts (.classLink RL 15 "java/lang/IllegalStateException") (by decide +kernel)) (va_Nw.use rfl (hE.ca "java/lang/IllegalStateException" "java/lang/IllegalStateException" (by decide +kernel))) hce hcv hcl ?_
    refine lv_astore_n (lv' := [(3, .ref q9), (0, .ref x0), (1, .int k1), (2, .ref o1)]) hx hb dL_projected_12 rfl hl (by decide) rfl (fun ls hl => ?_)
    refine lv_iconst (v := 1) hx hb dL_projected_13 (by decide) ?_
    have hP9 := hP.sub (ws' := [(o1, .inl (ty 1, 1, .inr (.inl (fun _ => 0))))]) [0] rfl
    have hD9 := hD.sub (ws' := [(o1, .inl (ty 1, 1, .inr (.inl (fun _ => 0))))]) [0] (by decide) rfl
    refine W.widen (k := 1) (n := 6) (Nat.le_of_ble_eq_true rfl) (Nat.le_of_ble_eq_true rfl) ?_
    refine vx_ret ?_
    exact W.iret (v := 1) hx hb hr (fun t ht hW => ⟨⟨1, [(o1, .inl (ty 1, 1, .inr (.inl (fun _ => 0))))], rfl, ⟨rfl, rfl⟩, wq_B.of ht hP9 hD9⟩, hS.F ht⟩) hS.2.2 dL_projected_14
  · exact hw.elim
set_option maxHeartbeats 4000000 in
set_option maxRecDepth 100000 in
theorem k_L_holds (l : Launch) (hl9 : l.stackTraces = false) (D : va_G) (ty : Nat → ClassId) (td sz : Nat) (x0 : Nat) (x1 : Nat) (x8 : Nat) (x20 : Nat) (x39 : Nat) (x41 : Nat) (x43 : Nat) (x45 : Nat) (x46 : Nat) (x47 : Nat) (o1 : Nat) (k1 : Int32) (k2 : Int32) (k3 : Int32) : vx_Met l yL_holds wsL_holds { frames := 8, cells := 1, slots := 6, locals := 126 } (va_Pc [.ref x0, .int k1, .int k2, .int k3, .ref o1] (wq_P D ty td [(x0, .inr (15, [.ref x1, .ref x8, .ref x20, .ref x39, .ref x41, .ref x43, .ref x45])), (x45, .inr (5, [.ref x46, .ref x47, .int 0, .int 0])), (o1, .inl (ty 1, 1, .inr (.inl (fun _ => 0))))] sz)) (va_Qi (fun (r : Int32) (u : va_W) => (r = 1 ∧ (u = [(o1, .inl (ty 1, 1, .inr (.inl (fun _ => 0))))]))) (wq_B D (va_A [(x0, .inr (15, [.ref x1, .ref x8, .ref x20, .ref x39, .ref x41, .ref x43, .ref x45])), (x45, .inr (5, [.ref x46, .ref x47, .int 0, .int 0])), (o1, .inl (ty 1, 1, .inr (.inl (fun _ => 0))))] sz)) (va_A [(x0, .inr (15, [.ref x1, .ref x8, .ref x20, .ref x39, .ref x41, .ref x43, .ref x45])), (x45, .inr (5, [.ref x46, .ref x47, .int 0, .int 0])), (o1, .inl (ty 1, 1, .inr (.inl (fun _ => 0))))] sz)) (vx_X (fun u : String × va_W => False) (wq_BX D (va_A [(x0, .inr (15, [.ref x1, .ref x8, .ref x20, .ref x39, .ref x41, .ref x43, .ref x45])), (x45, .inr (5, [.ref x46, .ref x47, .int 0, .int 0])), (o1, .inl (ty 1, 1, .inr (.inl (fun _ => 0))))] sz)) (va_A [(x0, .inr (15, [.ref x1, .ref x8, .ref x20, .ref x39, .ref x41, .ref x43, .ref x45])), (x45, .inr (5, [.ref x46, .ref x47, .int 0, .int 0])), (o1, .inl (ty 1, 1, .inr (.inl (fun _ => 0))))] sz)) 1 6 (va_A [(x0, .inr (15, [.ref x1, .ref x8, .ref x20, .ref x39, .ref x41, .ref x43, .ref x45])), (x45, .inr (5, [.ref x46, .ref x47, .int 0, .int 0])), (o1, .inl (ty 1, 1, .inr (.inl (fun _ => 0))))] sz) := by
  refine vx_ofWH (cc := cL_holds) (maxL := 6) (ret := (some .int)) (hh := [(0, 12, 15, 15), (0, 12, 19, 31), (0, 12, 23, 13)]) (by decide) rfl ?_
  intro p e s m args below meth c s₁ B hml hv
  obtain ⟨rfl, hsz, hP, hK, hD0, hE⟩ := hv
  have hx := B.exec
  have hb := B.bytes
  have hr := B.returns
  have hts := atoms_spec (ws := wsL_holds) B.pre
  have hown : s.vm.findClass RL = some m.cls := findClass_of_methodNamed B.named
  have hlocks := B.notSynchronized
  have hTab := vx_table B (hts _ List.mem_cons_self)
  subst hsz
  have hD := hD0.self (sz := s.heap.size)
  generalize hAe : va_A [(x0, .inr (15, [.ref x1, .ref x8, .ref x20, .ref x39, .ref x41, .ref x43, .ref x45])), (x45, .inr (5, [.ref x46, .ref x47, .int 0, .int 0])), (o1, .inl (ty 1, 1, .inr (.inl (fun _ => 0))))] s.heap.size = A at hD hE ⊢
  have hA : ∀ q : Nat, s.heap.size ≤ q → A q := fun q h => by rw [← hAe]; exact Or.inr h
  have hS : va_S A s.heap s.heap [] := va_S.rf
  have hP : va_P D vwCl [(x0, .inr (15, [.ref x1, .ref x8, .ref x20, .ref x39, .ref x41, .ref x43, .ref x45])), (x45, .inr (5, [.ref x46, .ref x47, .int 0, .int 0])), (o1, .inl (ty 1, 1, .inr (.inl (fun _ => 0))))] s.heap := hP
  have hl := lv_entry ([.ref x0, .int k1, .int k2, .int k3, .ref o1]) (n := 6) (Nat.le_of_ble_eq_true rfl)
  rw [lg_entry_eq]
  generalize (lg_sl ([.ref x0, .int k1, .int k2, .int k3, .ref o1]) ++ List.replicate (6 - (lg_sl ([.ref x0, .int k1, .int k2, .int k3, .ref o1])).length) Slot.unset).toArray = ls at hl ⊢
  have hl : lv_has ls 6 [(0, .ref x0), (1, .int k1), (2, .int k2), (3, .int k3), (4, .ref o1)] := hl
  refine lv_aload hx hb dL_holds_0 (lv_at hl 4 rfl) ?_
  refine lv_iconst (v := 0) hx hb dL_holds_2 (by decide) ?_
  refine lv_aload_n hx hb dL_holds_3 rfl (lv_at hl 0 rfl) ?_
  refine lv_iload_n hx hb dL_holds_4 rfl (lv_at hl 1 rfl) ?_
  refine lv_iload_n hx hb dL_holds_5 rfl (lv_at hl 2 rfl) ?_
  refine lv_iload_n hx hb dL_holds_6 rfl (lv_at hl 3 rfl) ?_
  refine wq_xi (wc := [(x0, .inr (15, [.ref x1, .ref x8, .ref x20, .ref x39, .ref x41, .ref x43, .ref x45])), (x45, .inr (5, [.ref x46, .ref x47, .int 0, .int 0]))]) (wr := [(o1, .inl (ty 1, 1, .inr (.inl (fun _ => 0))))]) (vx_runV (As := [.int k1, .int k2, .int k3]) (rest := [.int 0, .ref o1]) ⟨hx, hb, hml, hown, hts⟩ (k_X10_holds l hl9 D ty td s.heap.size x0 x1 x8 x20 x39 x41 x43 x45 x46 x47 k1 k2 k3) (cwV 3 hts gL_holds_X10_holds rfl rfl rfl (by decide +kernel) ⟨(Nat.le_of_ble_eq_true rfl), (Nat.le_of_ble_eq_true rfl)⟩) (wq_preV hP hD hK hE hS hA [0, 1] rfl (by decide) 0 15 rfl rfl) rfl rfl hl.1 rfl (lv_room (Nat.le_of_ble_eq_true rfl)) dL_holds_7 ⟨(Nat.le_of_ble_eq_true rfl), (Nat.le_of_ble_eq_true rfl)⟩) hS hA hP hD [0, 1] [2] rfl rfl (by decide) (by decide) (fun E9 u H locs q9 ce hw hP hD hS hce hcv hcl => ?_) (fun r u H locs hw hP hD hS => ?_)
  · have hEq := hw
    cases hEq
    have hP : va_P D vwCl [(o1, .inl (ty 1, 1, .inr (.inl (fun _ => 0))))] H := hP
    have hD : va_D A [(o1, .inl (ty 1, 1, .inr (.inl (fun _ => 0))))] := hD
    refine vx_widen (k := 1) (n := 6) (Nat.le_of_ble_eq_true rfl) (Nat.le_of_ble_eq_true rfl) ?_
    refine vx_catch (own := RL) (name := "java/lang/IllegalStateException") (E := "java/lang/IllegalStateException") hown [] ⟨0, 12, 15, 15⟩ [⟨0, 12, 19, 31⟩, ⟨0, 12, 23, 13⟩] (by rw [hTab]; rfl) (fun z hz => nomatch hz) (by decide) (by decide) (hts (.classLink RL 15 "java/lang/IllegalStateException") (by decide +kernel)) (va_Nw.use rfl (hE.ca "java/lang/IllegalStateException" "java/lang/IllegalStateException" (by decide +kernel))) hce hcv hcl ?_
    refine lv_astore (lv' := [(5, .ref q9), (0, .ref x0), (1, .int k1), (2, .int k2), (3, .int k3), (4, .ref o1)]) hx hb dL_holds_15 hl (by decide) rfl (fun ls hl => ?_)
    refine lv_iconst (v := 1) hx hb dL_holds_17 (by decide) ?_
    have hP9 := hP.sub (ws' := [(o1, .inl (ty 1, 1, .inr (.inl (fun _ => 0))))]) [0] rfl
    have hD9 := hD.sub (ws' := [(o1, .inl (ty 1, 1, .inr (.inl (fun _ => 0))))]) [0] (by decide) rfl
    refine W.widen (k := 1) (n := 6) (Nat.le_of_ble_eq_true rfl) (Nat.le_of_ble_eq_true rfl) ?_
    refine vx_ret ?_
    exact W.iret (v := 1) hx hb hr (fun t ht hW => ⟨⟨1, [(o1, .inl (ty 1, 1, .inr (.inl (fun _ => 0))))], rfl, ⟨rfl, rfl⟩, wq_B.of ht hP9 hD9⟩, hS.F ht⟩) hS.2.2 dL_holds_18
  · exact hw.elim
set_option maxHeartbeats 4000000 in
set_option maxRecDepth 100000 in
theorem k_L_reason (l : Launch) (hl9 : l.stackTraces = false) (D : va_G) (ty : Nat → ClassId) (td sz : Nat) (x0 : Nat) (x1 : Nat) (x8 : Nat) (x20 : Nat) (x39 : Nat) (x41 : Nat) (x43 : Nat) (x45 : Nat) (x46 : Nat) (x47 : Nat) (o1 : Nat) (k1 : Int32) (k2 : Int32) (k3 : Int32) (k4 : Int32) : vx_Met l yL_reason wsL_reason { frames := 9, cells := 1, slots := 6, locals := 150 } (va_Pc [.ref x0, .int k1, .int k2, .int k3, .int k4, .ref o1] (wq_P D ty td [(x0, .inr (15, [.ref x1, .ref x8, .ref x20, .ref x39, .ref x41, .ref x43, .ref x45])), (x45, .inr (5, [.ref x46, .ref x47, .int 0, .int 0])), (o1, .inl (ty 1, 1, .inr (.inl (fun _ => 0))))] sz)) (va_Qi (fun (r : Int32) (u : va_W) => (r = 1 ∧ (u = [(o1, .inl (ty 1, 1, .inr (.inl (fun _ => 0))))]))) (wq_B D (va_A [(x0, .inr (15, [.ref x1, .ref x8, .ref x20, .ref x39, .ref x41, .ref x43, .ref x45])), (x45, .inr (5, [.ref x46, .ref x47, .int 0, .int 0])), (o1, .inl (ty 1, 1, .inr (.inl (fun _ => 0))))] sz)) (va_A [(x0, .inr (15, [.ref x1, .ref x8, .ref x20, .ref x39, .ref x41, .ref x43, .ref x45])), (x45, .inr (5, [.ref x46, .ref x47, .int 0, .int 0])), (o1, .inl (ty 1, 1, .inr (.inl (fun _ => 0))))] sz)) (vx_X (fun u : String × va_W => False) (wq_BX D (va_A [(x0, .inr (15, [.ref x1, .ref x8, .ref x20, .ref x39, .ref x41, .ref x43, .ref x45])), (x45, .inr (5, [.ref x46, .ref x47, .int 0, .int 0])), (o1, .inl (ty 1, 1, .inr (.inl (fun _ => 0))))] sz)) (va_A [(x0, .inr (15, [.ref x1, .ref x8, .ref x20, .ref x39, .ref x41, .ref x43, .ref x45])), (x45, .inr (5, [.ref x46, .ref x47, .int 0, .int 0])), (o1, .inl (ty 1, 1, .inr (.inl (fun _ => 0))))] sz)) 1 6 (va_A [(x0, .inr (15, [.ref x1, .ref x8, .ref x20, .ref x39, .ref x41, .ref x43, .ref x45])), (x45, .inr (5, [.ref x46, .ref x47, .int 0, .int 0])), (o1, .inl (ty 1, 1, .inr (.inl (fun _ => 0))))] sz) := by
  refine vx_ofWH (cc := cL_reason) (maxL := 7) (ret := (some .int)) (hh := [(0, 14, 17, 15), (0, 14, 21, 31), (0, 14, 25, 13), (0, 14, 29, 101)]) (by decide) rfl ?_
  intro p e s m args below meth c s₁ B hml hv
  obtain ⟨rfl, hsz, hP, hK, hD0, hE⟩ := hv
  have hx := B.exec
  have hb := B.bytes
  have hr := B.returns
  have hts := atoms_spec (ws := wsL_reason) B.pre
  have hown : s.vm.findClass RL = some m.cls := findClass_of_methodNamed B.named
  have hlocks := B.notSynchronized
  have hTab := vx_table B (hts _ List.mem_cons_self)
  subst hsz
  have hD := hD0.self (sz := s.heap.size)
  generalize hAe : va_A [(x0, .inr (15, [.ref x1, .ref x8, .ref x20, .ref x39, .ref x41, .ref x43, .ref x45])), (x45, .inr (5, [.ref x46, .ref x47, .int 0, .int 0])), (o1, .inl (ty 1, 1, .inr (.inl (fun _ => 0))))] s.heap.size = A at hD hE ⊢
  have hA : ∀ q : Nat, s.heap.size ≤ q → A q := fun q h => by rw [← hAe]; exact Or.inr h
  have hS : va_S A s.heap s.heap [] := va_S.rf
  have hP : va_P D vwCl [(x0, .inr (15, [.ref x1, .ref x8, .ref x20, .ref x39, .ref x41, .ref x43, .ref x45])), (x45, .inr (5, [.ref x46, .ref x47, .int 0, .int 0])), (o1, .inl (ty 1, 1, .inr (.inl (fun _ => 0))))] s.heap := hP
  have hl := lv_entry ([.ref x0, .int k1, .int k2, .int k3, .int k4, .ref o1]) (n := 7) (Nat.le_of_ble_eq_true rfl)
  rw [lg_entry_eq]
  generalize (lg_sl ([.ref x0, .int k1, .int k2, .int k3, .int k4, .ref o1]) ++ List.replicate (7 - (lg_sl ([.ref x0, .int k1, .int k2, .int k3, .int k4, .ref o1])).length) Slot.unset).toArray = ls at hl ⊢
  have hl : lv_has ls 7 [(0, .ref x0), (1, .int k1), (2, .int k2), (3, .int k3), (4, .int k4), (5, .ref o1)] := hl
  refine lv_aload hx hb dL_reason_0 (lv_at hl 5 rfl) ?_
  refine lv_iconst (v := 0) hx hb dL_reason_2 (by decide) ?_
  refine lv_aload_n hx hb dL_reason_3 rfl (lv_at hl 0 rfl) ?_
  refine lv_iload_n hx hb dL_reason_4 rfl (lv_at hl 1 rfl) ?_
  refine lv_iload_n hx hb dL_reason_5 rfl (lv_at hl 2 rfl) ?_
  refine lv_iload_n hx hb dL_reason_6 rfl (lv_at hl 3 rfl) ?_
  refine lv_iload hx hb dL_reason_7 (lv_at hl 4 rfl) ?_
  refine wq_xi (wc := [(x0, .inr (15, [.ref x1, .ref x8, .ref x20, .ref x39, .ref x41, .ref x43, .ref x45])), (x45, .inr (5, [.ref x46, .ref x47, .int 0, .int 0]))]) (wr := [(o1, .inl (ty 1, 1, .inr (.inl (fun _ => 0))))]) (vx_runV (As := [.int k1, .int k2, .int k3, .int k4]) (rest := [.int 0, .ref o1]) ⟨hx, hb, hml, hown, hts⟩ (k_X10_reason l hl9 D ty td s.heap.size x0 x1 x8 x20 x39 x41 x43 x45 x46 x47 k1 k2 k3 k4) (cwV 4 hts gL_reason_X10_reason rfl rfl rfl (by decide +kernel) ⟨(Nat.le_of_ble_eq_true rfl), (Nat.le_of_ble_eq_true rfl)⟩) (wq_preV hP hD hK hE hS hA [0, 1] rfl (by decide) 0 15 rfl rfl) rfl rfl hl.1 rfl (lv_room (Nat.le_of_ble_eq_true rfl)) dL_reason_9 ⟨(Nat.le_of_ble_eq_true rfl), (Nat.le_of_ble_eq_true rfl)⟩) hS hA hP hD [0, 1] [2] rfl rfl (by decide) (by decide) (fun E9 u H locs q9 ce hw hP hD hS hce hcv hcl => ?_) (fun r u H locs hw hP hD hS => ?_)
  · have hEq := hw
    cases hEq
    have hP : va_P D vwCl [(o1, .inl (ty 1, 1, .inr (.inl (fun _ => 0))))] H := hP
    have hD : va_D A [(o1, .inl (ty 1, 1, .inr (.inl (fun _ => 0))))] := hD
    refine vx_widen (k := 1) (n := 6) (Nat.le_of_ble_eq_true rfl) (Nat.le_of_ble_eq_true rfl) ?_
    refine vx_catch (own := RL) (name := "java/lang/IllegalStateException") (E := "java/lang/IllegalStateException") hown [] ⟨0, 14, 17, 15⟩ [⟨0, 14, 21, 31⟩, ⟨0, 14, 25, 13⟩, ⟨0, 14, 29, 101⟩] (by rw [hTab]; rfl) (fun z hz => nomatch hz) (by decide) (by decide) (hts (.classLink RL 15 "java/lang/IllegalStateException") (by decide +kernel)) (va_Nw.use rfl (hE.ca "java/lang/IllegalStateException" "java/lang/IllegalStateException" (by decide +kernel))) hce hcv hcl ?_
    refine lv_astore (lv' := [(6, .ref q9), (0, .ref x0), (1, .int k1), (2, .int k2), (3, .int k3), (4, .int k4), (5, .ref o1)]) hx hb dL_reason_17 hl (by decide) rfl (fun ls hl => ?_)
    refine lv_iconst (v := 1) hx hb dL_reason_19 (by decide) ?_
    have hP9 := hP.sub (ws' := [(o1, .inl (ty 1, 1, .inr (.inl (fun _ => 0))))]) [0] rfl
    have hD9 := hD.sub (ws' := [(o1, .inl (ty 1, 1, .inr (.inl (fun _ => 0))))]) [0] (by decide) rfl
    refine W.widen (k := 1) (n := 6) (Nat.le_of_ble_eq_true rfl) (Nat.le_of_ble_eq_true rfl) ?_
    refine vx_ret ?_
    exact W.iret (v := 1) hx hb hr (fun t ht hW => ⟨⟨1, [(o1, .inl (ty 1, 1, .inr (.inl (fun _ => 0))))], rfl, ⟨rfl, rfl⟩, wq_B.of ht hP9 hD9⟩, hS.F ht⟩) hS.2.2 dL_reason_20
  · exact hw.elim
set_option maxHeartbeats 4000000 in
set_option maxRecDepth 100000 in
theorem k_L_share (l : Launch) (hl9 : l.stackTraces = false) (D : va_G) (ty : Nat → ClassId) (td sz : Nat) (x0 : Nat) (x1 : Nat) (x8 : Nat) (x20 : Nat) (x39 : Nat) (x41 : Nat) (x43 : Nat) (x45 : Nat) (x46 : Nat) (x47 : Nat) (o1 : Nat) (k1 : Int32) (k2 : Int32) (k3 : Int32) : vx_Met l yL_share wsL_share { frames := 8, cells := 1, slots := 6, locals := 126 } (va_Pc [.ref x0, .int k1, .int k2, .int k3, .ref o1] (wq_P D ty td [(x0, .inr (15, [.ref x1, .ref x8, .ref x20, .ref x39, .ref x41, .ref x43, .ref x45])), (x45, .inr (5, [.ref x46, .ref x47, .int 0, .int 0])), (o1, .inl (ty 7, 1, .inr (.inr (.inr (.inl (fun _ => 0))))))] sz)) (va_Qi (fun (r : Int32) (u : va_W) => (r = 1 ∧ (u = [(o1, .inl (ty 7, 1, .inr (.inr (.inr (.inl (fun _ => 0))))))]))) (wq_B D (va_A [(x0, .inr (15, [.ref x1, .ref x8, .ref x20, .ref x39, .ref x41, .ref x43, .ref x45])), (x45, .inr (5, [.ref x46, .ref x47, .int 0, .int 0])), (o1, .inl (ty 7, 1, .inr (.inr (.inr (.inl (fun _ => 0))))))] sz)) (va_A [(x0, .inr (15, [.ref x1, .ref x8, .ref x20, .ref x39, .ref x41, .ref x43, .ref x45])), (x45, .inr (5, [.ref x46, .ref x47, .int 0, .int 0])), (o1, .inl (ty 7, 1, .inr (.inr (.inr (.inl (fun _ => 0))))))] sz)) (vx_X (fun u : String × va_W => False) (wq_BX D (va_A [(x0, .inr (15, [.ref x1, .ref x8, .ref x20, .ref x39, .ref x41, .ref x43, .ref x45])), (x45, .inr (5, [.ref x46, .ref x47, .int 0, .int 0])), (o1, .inl (ty 7, 1, .inr (.inr (.inr (.inl (fun _ => 0))))))] sz)) (va_A [(x0, .inr (15, [.ref x1, .ref x8, .ref x20, .ref x39, .ref x41, .ref x43, .ref x45])), (x45, .inr (5, [.ref x46, .ref x47, .int 0, .int 0])), (o1, .inl (ty 7, 1, .inr (.inr (.inr (.inl (fun _ => 0))))))] sz)) 1 6 (va_A [(x0, .inr (15, [.ref x1, .ref x8, .ref x20, .ref x39, .ref x41, .ref x43, .ref x45])), (x45, .inr (5, [.ref x46, .ref x47, .int 0, .int 0])), (o1, .inl (ty 7, 1, .inr (.inr (.inr (.inl (fun _ => 0))))))] sz) := by
  refine vx_ofWH (cc := cL_share) (maxL := 6) (ret := (some .int)) (hh := [(0, 12, 15, 15), (0, 12, 19, 31), (0, 12, 23, 13), (0, 12, 27, 107)]) (by decide) rfl ?_
  intro p e s m args below meth c s₁ B hml hv
  obtain ⟨rfl, hsz, hP, hK, hD0, hE⟩ := hv
  have hx := B.exec
  have hb := B.bytes
  have hr := B.returns
  have hts := atoms_spec (ws := wsL_share) B.pre
  have hown : s.vm.findClass RL = some m.cls := findClass_of_methodNamed B.named
  have hlocks := B.notSynchronized
  have hTab := vx_table B (hts _ List.mem_cons_self)
  subst hsz
  have hD := hD0.self (sz := s.heap.size)
  generalize hAe : va_A [(x0, .inr (15, [.ref x1, .ref x8, .ref x20, .ref x39, .ref x41, .ref x43, .ref x45])), (x45, .inr (5, [.ref x46, .ref x47, .int 0, .int 0])), (o1, .inl (ty 7, 1, .inr (.inr (.inr (.inl (fun _ => 0))))))] s.heap.size = A at hD hE ⊢
  have hA : ∀ q : Nat, s.heap.size ≤ q → A q := fun q h => by rw [← hAe]; exact Or.inr h
  have hS : va_S A s.heap s.heap [] := va_S.rf
  have hP : va_P D vwCl [(x0, .inr (15, [.ref x1, .ref x8, .ref x20, .ref x39, .ref x41, .ref x43, .ref x45])), (x45, .inr (5, [.ref x46, .ref x47, .int 0, .int 0])), (o1, .inl (ty 7, 1, .inr (.inr (.inr (.inl (fun _ => 0))))))] s.heap := hP
  have hl := lv_entry ([.ref x0, .int k1, .int k2, .int k3, .ref o1]) (n := 6) (Nat.le_of_ble_eq_true rfl)
  rw [lg_entry_eq]
  generalize (lg_sl ([.ref x0, .int k1, .int k2, .int k3, .ref o1]) ++ List.replicate (6 - (lg_sl ([.ref x0, .int k1, .int k2, .int k3, .ref o1])).length) Slot.unset).toArray = ls at hl ⊢
  have hl : lv_has ls 6 [(0, .ref x0), (1, .int k1), (2, .int k2), (3, .int k3), (4, .ref o1)] := hl
  refine lv_aload hx hb dL_share_0 (lv_at hl 4 rfl) ?_
  refine lv_iconst (v := 0) hx hb dL_share_2 (by decide) ?_
  refine lv_aload_n hx hb dL_share_3 rfl (lv_at hl 0 rfl) ?_
  refine lv_iload_n hx hb dL_share_4 rfl (lv_at hl 1 rfl) ?_
  refine lv_iload_n hx hb dL_share_5 rfl (lv_at hl 2 rfl) ?_
  refine lv_iload_n hx hb dL_share_6 rfl (lv_at hl 3 rfl) ?_
  refine wq_xf (wc := [(x0, .inr (15, [.ref x1, .ref x8, .ref x20, .ref x39, .ref x41, .ref x43, .ref x45])), (x45, .inr (5, [.ref x46, .ref x47, .int 0, .int 0]))]) (wr := [(o1, .inl (ty 7, 1, .inr (.inr (.inr (.inl (fun _ => 0))))))]) (vx_runV (As := [.int k1, .int k2, .int k3]) (rest := [.int 0, .ref o1]) ⟨hx, hb, hml, hown, hts⟩ (k_X10_share l hl9 D ty td s.heap.size x0 x1 x8 x20 x39 x41 x43 x45 x46 x47 k1 k2 k3) (cwV 3 hts gL_share_X10_share rfl rfl rfl (by decide +kernel) ⟨(Nat.le_of_ble_eq_true rfl), (Nat.le_of_ble_eq_true rfl)⟩) (wq_preV hP hD hK hE hS hA [0, 1] rfl (by decide) 0 15 rfl rfl) rfl rfl hl.1 rfl (lv_room (Nat.le_of_ble_eq_true rfl)) dL_share_7 ⟨(Nat.le_of_ble_eq_true rfl), (Nat.le_of_ble_eq_true rfl)⟩) hS hA hP hD [0, 1] [2] rfl rfl (by decide) (by decide) (fun E9 u H locs q9 ce hw hP hD hS hce hcv hcl => ?_) (fun r u H locs hw hP hD hS => ?_)
  · have hEq := hw
    cases hEq
    have hP : va_P D vwCl [(o1, .inl (ty 7, 1, .inr (.inr (.inr (.inl (fun _ => 0))))))] H := hP
    have hD : va_D A [(o1, .inl (ty 7, 1, .inr (.inr (.inr (.inl (fun _ => 0))))))] := hD
    refine vx_widen (k := 1) (n := 6) (Nat.le_of_ble_eq_true rfl) (Nat.le_of_ble_eq_true rfl) ?_
    refine vx_catch (own := RL) (name := "java/lang/IllegalStateException") (E := "java/lang/IllegalStateException") hown [] ⟨0, 12, 15, 15⟩ [⟨0, 12, 19, 31⟩, ⟨0, 12, 23, 13⟩, ⟨0, 12, 27, 107⟩] (by rw [hTab]; rfl) (fun z hz => nomatch hz) (by decide) (by decide) (hts (.classLink RL 15 "java/lang/IllegalStateException") (by decide +kernel)) (va_Nw.use rfl (hE.ca "java/lang/IllegalStateException" "java/lang/IllegalStateException" (by decide +kernel))) hce hcv hcl ?_
    refine lv_astore (lv' := [(5, .ref q9), (0, .ref x0), (1, .int k1), (2, .int k2), (3, .int k3), (4, .ref o1)]) hx hb dL_share_15 hl (by decide) rfl (fun ls hl => ?_)
    refine lv_iconst (v := 1) hx hb dL_share_17 (by decide) ?_
    have hP9 := hP.sub (ws' := [(o1, .inl (ty 7, 1, .inr (.inr (.inr (.inl (fun _ => 0))))))]) [0] rfl
    have hD9 := hD.sub (ws' := [(o1, .inl (ty 7, 1, .inr (.inr (.inr (.inl (fun _ => 0))))))]) [0] (by decide) rfl
    refine W.widen (k := 1) (n := 6) (Nat.le_of_ble_eq_true rfl) (Nat.le_of_ble_eq_true rfl) ?_
    refine vx_ret ?_
    exact W.iret (v := 1) hx hb hr (fun t ht hW => ⟨⟨1, [(o1, .inl (ty 7, 1, .inr (.inr (.inr (.inl (fun _ => 0))))))], rfl, ⟨rfl, rfl⟩, wq_B.of ht hP9 hD9⟩, hS.F ht⟩) hS.2.2 dL_share_18
  · exact hw.elim
set_option maxHeartbeats 4000000 in
set_option maxRecDepth 100000 in
theorem k_L_commonest (l : Launch) (hl9 : l.stackTraces = false) (D : va_G) (ty : Nat → ClassId) (td sz : Nat) (x0 : Nat) (x1 : Nat) (x8 : Nat) (x20 : Nat) (x39 : Nat) (x41 : Nat) (x43 : Nat) (x45 : Nat) (x46 : Nat) (x47 : Nat) (o1 : Nat) : vx_Met l yL_commonest wsL_commonest { frames := 8, cells := 1, slots := 6, locals := 126 } (va_Pc [.ref x0, .ref o1] (wq_P D ty td [(x0, .inr (15, [.ref x1, .ref x8, .ref x20, .ref x39, .ref x41, .ref x43, .ref x45])), (x45, .inr (5, [.ref x46, .ref x47, .int 0, .int 0])), (o1, .inl (ty 1, 1, .inr (.inl (fun _ => 0))))] sz)) (va_Qi (fun (r : Int32) (u : va_W) => (r = 1 ∧ (u = [(o1, .inl (ty 1, 1, .inr (.inl (fun _ => 0))))]))) (wq_B D (va_A [(x0, .inr (15, [.ref x1, .ref x8, .ref x20, .ref x39, .ref x41, .ref x43, .ref x45])), (x45, .inr (5, [.ref x46, .ref x47, .int 0, .int 0])), (o1, .inl (ty 1, 1, .inr (.inl (fun _ => 0))))] sz)) (va_A [(x0, .inr (15, [.ref x1, .ref x8, .ref x20, .ref x39, .ref x41, .ref x43, .ref x45])), (x45, .inr (5, [.ref x46, .ref x47, .int 0, .int 0])), (o1, .inl (ty 1, 1, .inr (.inl (fun _ => 0))))] sz)) (vx_X (fun u : String × va_W => False) (wq_BX D (va_A [(x0, .inr (15, [.ref x1, .ref x8, .ref x20, .ref x39, .ref x41, .ref x43, .ref x45])), (x45, .inr (5, [.ref x46, .ref x47, .int 0, .int 0])), (o1, .inl (ty 1, 1, .inr (.inl (fun _ => 0))))] sz)) (va_A [(x0, .inr (15, [.ref x1, .ref x8, .ref x20, .ref x39, .ref x41, .ref x43, .ref x45])), (x45, .inr (5, [.ref x46, .ref x47, .int 0, .int 0])), (o1, .inl (ty 1, 1, .inr (.inl (fun _ => 0))))] sz)) 1 6 (va_A [(x0, .inr (15, [.ref x1, .ref x8, .ref x20, .ref x39, .ref x41, .ref x43, .ref x45])), (x45, .inr (5, [.ref x46, .ref x47, .int 0, .int 0])), (o1, .inl (ty 1, 1, .inr (.inl (fun _ => 0))))] sz) := by
  refine vx_ofWH (cc := cL_commonest) (maxL := 3) (ret := (some .int)) (hh := [(0, 8, 11, 15), (0, 8, 14, 101)]) (by decide) rfl ?_
  intro p e s m args below meth c s₁ B hml hv
  obtain ⟨rfl, hsz, hP, hK, hD0, hE⟩ := hv
  have hx := B.exec
  have hb := B.bytes
  have hr := B.returns
  have hts := atoms_spec (ws := wsL_commonest) B.pre
  have hown : s.vm.findClass RL = some m.cls := findClass_of_methodNamed B.named
  have hlocks := B.notSynchronized
  have hTab := vx_table B (hts _ List.mem_cons_self)
  subst hsz
  have hD := hD0.self (sz := s.heap.size)
  generalize hAe : va_A [(x0, .inr (15, [.ref x1, .ref x8, .ref x20, .ref x39, .ref x41, .ref x43, .ref x45])), (x45, .inr (5, [.ref x46, .ref x47, .int 0, .int 0])), (o1, .inl (ty 1, 1, .inr (.inl (fun _ => 0))))] s.heap.size = A at hD hE ⊢
  have hA : ∀ q : Nat, s.heap.size ≤ q → A q := fun q h => by rw [← hAe]; exact Or.inr h
  have hS : va_S A s.heap s.heap [] := va_S.rf
  have hP : va_P D vwCl [(x0, .inr (15, [.ref x1, .ref x8, .ref x20, .ref x39, .ref x41, .ref x43, .ref x45])), (x45, .inr (5, [.ref x46, .ref x47, .int 0, .int 0])), (o1, .inl (ty 1, 1, .inr (.inl (fun _ => 0))))] s.heap := hP
  have hl := lv_entry ([.ref x0, .ref o1]) (n := 3) (Nat.le_of_ble_eq_true rfl)
  rw [lg_entry_eq]
  generalize (lg_sl ([.ref x0, .ref o1]) ++ List.replicate (3 - (lg_sl ([.ref x0, .ref o1])).length) Slot.unset).toArray = ls at hl ⊢
  have hl : lv_has ls 3 [(0, .ref x0), (1, .ref o1)] := hl
  refine lv_aload_n hx hb dL_commonest_0 rfl (lv_at hl 1 rfl) ?_
  refine lv_iconst (v := 0) hx hb dL_commonest_1 (by decide) ?_
  refine lv_aload_n hx hb dL_commonest_2 rfl (lv_at hl 0 rfl) ?_
  refine wq_xi (wc := [(x0, .inr (15, [.ref x1, .ref x8, .ref x20, .ref x39, .ref x41, .ref x43, .ref x45])), (x45, .inr (5, [.ref x46, .ref x47, .int 0, .int 0]))]) (wr := [(o1, .inl (ty 1, 1, .inr (.inl (fun _ => 0))))]) (vx_runV (As := []) (rest := [.int 0, .ref o1]) ⟨hx, hb, hml, hown, hts⟩ (k_X10_commonest l hl9 D ty td s.heap.size x0 x1 x8 x20 x39 x41 x43 x45 x46 x47) (cwV 0 hts gL_commonest_X10_commonest rfl rfl rfl (by decide +kernel) ⟨(Nat.le_of_ble_eq_true rfl), (Nat.le_of_ble_eq_true rfl)⟩) (wq_preV hP hD hK hE hS hA [0, 1] rfl (by decide) 0 15 rfl rfl) rfl rfl hl.1 rfl (lv_room (Nat.le_of_ble_eq_true rfl)) dL_commonest_3 ⟨(Nat.le_of_ble_eq_true rfl), (Nat.le_of_ble_eq_true rfl)⟩) hS hA hP hD [0, 1] [2] rfl rfl (by decide) (by decide) (fun E9 u H locs q9 ce hw hP hD hS hce hcv hcl => ?_) (fun r u H locs hw hP hD hS => ?_)
  · have hEq := hw
    cases hEq
    have hP : va_P D vwCl [(o1, .inl (ty 1, 1, .inr (.inl (fun _ => 0))))] H := hP
    have hD : va_D A [(o1, .inl (ty 1, 1, .inr (.inl (fun _ => 0))))] := hD
    refine vx_widen (k := 1) (n := 6) (Nat.le_of_ble_eq_true rfl) (Nat.le_of_ble_eq_true rfl) ?_
    refine vx_catch (own := RL) (name := "java/lang/IllegalStateException") (E := "java/lang/IllegalStateException") hown [] ⟨0, 8, 11, 15⟩ [⟨0, 8, 14, 101⟩] (by rw [hTab]; rfl) (fun z hz => nomatch hz) (by decide) (by decide) (hts (.classLink RL 15 "java/lang/IllegalStateException") (by decide +kernel)) (va_Nw.use rfl (hE.ca "java/lang/IllegalStateException" "java/lang/IllegalStateException" (by decide +kernel))) hce hcv hcl ?_
    refine lv_astore_n (lv' := [(2, .ref q9), (0, .ref x0), (1, .ref o1)]) hx hb dL_commonest_11 rfl hl (by decide) rfl (fun ls hl => ?_)
    refine lv_iconst (v := 1) hx hb dL_commonest_12 (by decide) ?_
    have hP9 := hP.sub (ws' := [(o1, .inl (ty 1, 1, .inr (.inl (fun _ => 0))))]) [0] rfl
    have hD9 := hD.sub (ws' := [(o1, .inl (ty 1, 1, .inr (.inl (fun _ => 0))))]) [0] (by decide) rfl
    refine W.widen (k := 1) (n := 6) (Nat.le_of_ble_eq_true rfl) (Nat.le_of_ble_eq_true rfl) ?_
    refine vx_ret ?_
    exact W.iret (v := 1) hx hb hr (fun t ht hW => ⟨⟨1, [(o1, .inl (ty 1, 1, .inr (.inl (fun _ => 0))))], rfl, ⟨rfl, rfl⟩, wq_B.of ht hP9 hD9⟩, hS.F ht⟩) hS.2.2 dL_commonest_13
  · exact hw.elim
set_option maxHeartbeats 4000000 in
set_option maxRecDepth 100000 in
theorem k_L_meanSize (l : Launch) (hl9 : l.stackTraces = false) (D : va_G) (ty : Nat → ClassId) (td sz : Nat) (x0 : Nat) (x1 : Nat) (x8 : Nat) (x20 : Nat) (x39 : Nat) (x41 : Nat) (x43 : Nat) (x45 : Nat) (x46 : Nat) (x47 : Nat) (o1 : Nat) : vx_Met l yL_meanSize wsL_meanSize { frames := 8, cells := 1, slots := 6, locals := 124 } (va_Pc [.ref x0, .ref o1] (wq_P D ty td [(x0, .inr (15, [.ref x1, .ref x8, .ref x20, .ref x39, .ref x41, .ref x43, .ref x45])), (x45, .inr (5, [.ref x46, .ref x47, .int 0, .int 0])), (o1, .inl (ty 7, 1, .inr (.inr (.inr (.inl (fun _ => 0))))))] sz)) (va_Qi (fun (r : Int32) (u : va_W) => (r = 1 ∧ (u = [(o1, .inl (ty 7, 1, .inr (.inr (.inr (.inl (fun _ => 0))))))]))) (wq_B D (va_A [(x0, .inr (15, [.ref x1, .ref x8, .ref x20, .ref x39, .ref x41, .ref x43, .ref x45])), (x45, .inr (5, [.ref x46, .ref x47, .int 0, .int 0])), (o1, .inl (ty 7, 1, .inr (.inr (.inr (.inl (fun _ => 0))))))] sz)) (va_A [(x0, .inr (15, [.ref x1, .ref x8, .ref x20, .ref x39, .ref x41, .ref x43, .ref x45])), (x45, .inr (5, [.ref x46, .ref x47, .int 0, .int 0])), (o1, .inl (ty 7, 1, .inr (.inr (.inr (.inl (fun _ => 0))))))] sz)) (vx_X (fun u : String × va_W => False) (wq_BX D (va_A [(x0, .inr (15, [.ref x1, .ref x8, .ref x20, .ref x39, .ref x41, .ref x43, .ref x45])), (x45, .inr (5, [.ref x46, .ref x47, .int 0, .int 0])), (o1, .inl (ty 7, 1, .inr (.inr (.inr (.inl (fun _ => 0))))))] sz)) (va_A [(x0, .inr (15, [.ref x1, .ref x8, .ref x20, .ref x39, .ref x41, .ref x43, .ref x45])), (x45, .inr (5, [.ref x46, .ref x47, .int 0, .int 0])), (o1, .inl (ty 7, 1, .inr (.inr (.inr (.inl (fun _ => 0))))))] sz)) 1 6 (va_A [(x0, .inr (15, [.ref x1, .ref x8, .ref x20, .ref x39, .ref x41, .ref x43, .ref x45])), (x45, .inr (5, [.ref x46, .ref x47, .int 0, .int 0])), (o1, .inl (ty 7, 1, .inr (.inr (.inr (.inl (fun _ => 0))))))] sz) := by
  refine vx_ofWH (cc := cL_meanSize) (maxL := 3) (ret := (some .int)) (hh := [(0, 7, 10, 15), (0, 7, 13, 107)]) (by decide) rfl ?_
  intro p e s m args below meth c s₁ B hml hv
  obtain ⟨rfl, hsz, hP, hK, hD0, hE⟩ := hv
  have hx := B.exec
  have hb := B.bytes
  have hr := B.returns
  have hts := atoms_spec (ws := wsL_meanSize) B.pre
  have hown : s.vm.findClass RL = some m.cls := findClass_of_methodNamed B.named
  have hlocks := B.notSynchronized
  have hTab := vx_table B (hts _ List.mem_cons_self)
  subst hsz
  have hD := hD0.self (sz := s.heap.size)
  generalize hAe : va_A [(x0, .inr (15, [.ref x1, .ref x8, .ref x20, .ref x39, .ref x41, .ref x43, .ref x45])), (x45, .inr (5, [.ref x46, .ref x47, .int 0, .int 0])), (o1, .inl (ty 7, 1, .inr (.inr (.inr (.inl (fun _ => 0))))))] s.heap.size = A at hD hE ⊢
  have hA : ∀ q : Nat, s.heap.size ≤ q → A q := fun q h => by rw [← hAe]; exact Or.inr h
  have hS : va_S A s.heap s.heap [] := va_S.rf
  have hP : va_P D vwCl [(x0, .inr (15, [.ref x1, .ref x8, .ref x20, .ref x39, .ref x41, .ref x43, .ref x45])), (x45, .inr (5, [.ref x46, .ref x47, .int 0, .int 0])), (o1, .inl (ty 7, 1, .inr (.inr (.inr (.inl (fun _ => 0))))))] s.heap := hP
  have hl := lv_entry ([.ref x0, .ref o1]) (n := 3) (Nat.le_of_ble_eq_true rfl)
  rw [lg_entry_eq]
  generalize (lg_sl ([.ref x0, .ref o1]) ++ List.replicate (3 - (lg_sl ([.ref x0, .ref o1])).length) Slot.unset).toArray = ls at hl ⊢
  have hl : lv_has ls 3 [(0, .ref x0), (1, .ref o1)] := hl
  refine lv_aload_n hx hb dL_meanSize_0 rfl (lv_at hl 1 rfl) ?_
  refine lv_iconst (v := 0) hx hb dL_meanSize_1 (by decide) ?_
  refine lv_aload_n hx hb dL_meanSize_2 rfl (lv_at hl 0 rfl) ?_
  refine wq_xd (wc := [(x0, .inr (15, [.ref x1, .ref x8, .ref x20, .ref x39, .ref x41, .ref x43, .ref x45])), (x45, .inr (5, [.ref x46, .ref x47, .int 0, .int 0]))]) (wr := [(o1, .inl (ty 7, 1, .inr (.inr (.inr (.inl (fun _ => 0))))))]) (vx_runV (As := []) (rest := [.int 0, .ref o1]) ⟨hx, hb, hml, hown, hts⟩ (k_X10_meanSize l hl9 D ty td s.heap.size x0 x1 x8 x20 x39 x41 x43 x45 x46 x47) (cwV 0 hts gL_meanSize_X10_meanSize rfl rfl rfl (by decide +kernel) ⟨(Nat.le_of_ble_eq_true rfl), (Nat.le_of_ble_eq_true rfl)⟩) (wq_preV hP hD hK hE hS hA [0, 1] rfl (by decide) 0 15 rfl rfl) rfl rfl hl.1 rfl (lv_room (Nat.le_of_ble_eq_true rfl)) dL_meanSize_3 ⟨(Nat.le_of_ble_eq_true rfl), (Nat.le_of_ble_eq_true rfl)⟩) hS hA hP hD [0, 1] [2] rfl rfl (by decide) (by decide) (fun E9 u H locs q9 ce hw hP hD hS hce hcv hcl => ?_) (fun r u H locs hw hP hD hS => ?_)
  · have hEq := hw
    cases hEq
    have hP : va_P D vwCl [(o1, .inl (ty 7, 1, .inr (.inr (.inr (.inl (fun _ => 0))))))] H := hP
    have hD : va_D A [(o1, .inl (ty 7, 1, .inr (.inr (.inr (.inl (fun _ => 0))))))] := hD
    refine vx_widen (k := 1) (n := 6) (Nat.le_of_ble_eq_true rfl) (Nat.le_of_ble_eq_true rfl) ?_
    refine vx_catch (own := RL) (name := "java/lang/IllegalStateException") (E := "java/lang/IllegalStateException") hown [] ⟨0, 7, 10, 15⟩ [⟨0, 7, 13, 107⟩] (by rw [hTab]; rfl) (fun z hz => nomatch hz) (by decide) (by decide) (hts (.classLink RL 15 "java/lang/IllegalStateException") (by decide +kernel)) (va_Nw.use rfl (hE.ca "java/lang/IllegalStateException" "java/lang/IllegalStateException" (by decide +kernel))) hce hcv hcl ?_
    refine lv_astore_n (lv' := [(2, .ref q9), (0, .ref x0), (1, .ref o1)]) hx hb dL_meanSize_10 rfl hl (by decide) rfl (fun ls hl => ?_)
    refine lv_iconst (v := 1) hx hb dL_meanSize_11 (by decide) ?_
    have hP9 := hP.sub (ws' := [(o1, .inl (ty 7, 1, .inr (.inr (.inr (.inl (fun _ => 0))))))]) [0] rfl
    have hD9 := hD.sub (ws' := [(o1, .inl (ty 7, 1, .inr (.inr (.inr (.inl (fun _ => 0))))))]) [0] (by decide) rfl
    refine W.widen (k := 1) (n := 6) (Nat.le_of_ble_eq_true rfl) (Nat.le_of_ble_eq_true rfl) ?_
    refine vx_ret ?_
    exact W.iret (v := 1) hx hb hr (fun t ht hW => ⟨⟨1, [(o1, .inl (ty 7, 1, .inr (.inr (.inr (.inl (fun _ => 0))))))], rfl, ⟨rfl, rfl⟩, wq_B.of ht hP9 hD9⟩, hS.F ht⟩) hS.2.2 dL_meanSize_12
  · exact hw.elim
