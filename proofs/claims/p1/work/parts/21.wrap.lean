theorem dL_addExternal_0 : decode cL_addExternal 0 = .ok (.aload 4, 2) := by decide +kernel
theorem dL_addExternal_2 : decode cL_addExternal 2 = .ok (.iconst 0, 1) := by decide +kernel
theorem dL_addExternal_3 : decode cL_addExternal 3 = .ok (.aload_n 0, 1) := by decide +kernel
theorem dL_addExternal_4 : decode cL_addExternal 4 = .ok (.iload_n 1, 1) := by decide +kernel
theorem dL_addExternal_5 : decode cL_addExternal 5 = .ok (.iload_n 2, 1) := by decide +kernel
theorem dL_addExternal_6 : decode cL_addExternal 6 = .ok (.iload_n 3, 1) := by decide +kernel
theorem dL_addExternal_7 : decode cL_addExternal 7 = .ok (.invokevirtual 48, 3) := by decide +kernel
theorem dL_addExternal_10 : decode cL_addExternal 10 = .ok (.i2l, 1) := by decide +kernel
theorem dL_addExternal_11 : decode cL_addExternal 11 = .ok (.lastore, 1) := by decide +kernel
theorem dL_addExternal_12 : decode cL_addExternal 12 = .ok (.goto 15, 3) := by decide +kernel
theorem dL_addExternal_15 : decode cL_addExternal 15 = .ok (.astore 5, 2) := by decide +kernel
theorem dL_addExternal_17 : decode cL_addExternal 17 = .ok (.iconst 1, 1) := by decide +kernel
theorem dL_addExternal_18 : decode cL_addExternal 18 = .ok (.ireturn, 1) := by decide +kernel
theorem dL_addExternal_19 : decode cL_addExternal 19 = .ok (.astore 5, 2) := by decide +kernel
theorem dL_addExternal_21 : decode cL_addExternal 21 = .ok (.iconst 2, 1) := by decide +kernel
theorem dL_addExternal_22 : decode cL_addExternal 22 = .ok (.ireturn, 1) := by decide +kernel
theorem dL_addExternal_23 : decode cL_addExternal 23 = .ok (.astore 5, 2) := by decide +kernel
theorem dL_addExternal_25 : decode cL_addExternal 25 = .ok (.iconst 3, 1) := by decide +kernel
theorem dL_addExternal_26 : decode cL_addExternal 26 = .ok (.ireturn, 1) := by decide +kernel
theorem dL_addExternal_27 : decode cL_addExternal 27 = .ok (.iconst 0, 1) := by decide +kernel
theorem dL_addExternal_28 : decode cL_addExternal 28 = .ok (.ireturn, 1) := by decide +kernel
theorem dL_setExternal_0 : decode cL_setExternal 0 = .ok (.aload_n 3, 1) := by decide +kernel
theorem dL_setExternal_1 : decode cL_setExternal 1 = .ok (.iconst 0, 1) := by decide +kernel
theorem dL_setExternal_2 : decode cL_setExternal 2 = .ok (.aload_n 0, 1) := by decide +kernel
theorem dL_setExternal_3 : decode cL_setExternal 3 = .ok (.iload_n 1, 1) := by decide +kernel
theorem dL_setExternal_4 : decode cL_setExternal 4 = .ok (.iload_n 2, 1) := by decide +kernel
theorem dL_setExternal_5 : decode cL_setExternal 5 = .ok (.invokevirtual 51, 3) := by decide +kernel
theorem dL_setExternal_8 : decode cL_setExternal 8 = .ok (.i2l, 1) := by decide +kernel
theorem dL_setExternal_9 : decode cL_setExternal 9 = .ok (.lastore, 1) := by decide +kernel
theorem dL_setExternal_10 : decode cL_setExternal 10 = .ok (.goto 15, 3) := by decide +kernel
theorem dL_setExternal_13 : decode cL_setExternal 13 = .ok (.astore 4, 2) := by decide +kernel
theorem dL_setExternal_15 : decode cL_setExternal 15 = .ok (.iconst 1, 1) := by decide +kernel
theorem dL_setExternal_16 : decode cL_setExternal 16 = .ok (.ireturn, 1) := by decide +kernel
theorem dL_setExternal_17 : decode cL_setExternal 17 = .ok (.astore 4, 2) := by decide +kernel
theorem dL_setExternal_19 : decode cL_setExternal 19 = .ok (.iconst 2, 1) := by decide +kernel
theorem dL_setExternal_20 : decode cL_setExternal 20 = .ok (.ireturn, 1) := by decide +kernel
theorem dL_setExternal_21 : decode cL_setExternal 21 = .ok (.astore 4, 2) := by decide +kernel
theorem dL_setExternal_23 : decode cL_setExternal 23 = .ok (.iconst 3, 1) := by decide +kernel
theorem dL_setExternal_24 : decode cL_setExternal 24 = .ok (.ireturn, 1) := by decide +kernel
theorem dL_setExternal_25 : decode cL_setExternal 25 = .ok (.iconst 0, 1) := by decide +kernel
theorem dL_setExternal_26 : decode cL_setExternal 26 = .ok (.ireturn, 1) := by decide +kernel
theorem dL_assume_0 : decode cL_assume 0 = .ok (.aload 5, 2) := by decide +kernel
theorem dL_assume_2 : decode cL_assume 2 = .ok (.iconst 0, 1) := by decide +kernel
theorem dL_assume_3 : decode cL_assume 3 = .ok (.aload_n 0, 1) := by decide +kernel
theorem dL_assume_4 : decode cL_assume 4 = .ok (.iload_n 1, 1) := by decide +kernel
theorem dL_assume_5 : decode cL_assume 5 = .ok (.iload_n 2, 1) := by decide +kernel
theorem dL_assume_6 : decode cL_assume 6 = .ok (.iload_n 3, 1) := by decide +kernel
theorem dL_assume_7 : decode cL_assume 7 = .ok (.iload 4, 2) := by decide +kernel
theorem dL_assume_9 : decode cL_assume 9 = .ok (.invokevirtual 55, 3) := by decide +kernel
theorem dL_assume_12 : decode cL_assume 12 = .ok (.i2l, 1) := by decide +kernel
theorem dL_assume_13 : decode cL_assume 13 = .ok (.lastore, 1) := by decide +kernel
theorem dL_assume_14 : decode cL_assume 14 = .ok (.goto 11, 3) := by decide +kernel
theorem dL_assume_17 : decode cL_assume 17 = .ok (.astore 6, 2) := by decide +kernel
theorem dL_assume_19 : decode cL_assume 19 = .ok (.iconst 1, 1) := by decide +kernel
theorem dL_assume_20 : decode cL_assume 20 = .ok (.ireturn, 1) := by decide +kernel
theorem dL_assume_21 : decode cL_assume 21 = .ok (.astore 6, 2) := by decide +kernel
theorem dL_assume_23 : decode cL_assume 23 = .ok (.iconst 2, 1) := by decide +kernel
theorem dL_assume_24 : decode cL_assume 24 = .ok (.ireturn, 1) := by decide +kernel
theorem dL_assume_25 : decode cL_assume 25 = .ok (.iconst 0, 1) := by decide +kernel
theorem dL_assume_26 : decode cL_assume 26 = .ok (.ireturn, 1) := by decide +kernel
theorem dL_state_0 : decode cL_state 0 = .ok (.aload 4, 2) := by decide +kernel
theorem dL_state_2 : decode cL_state 2 = .ok (.iconst 0, 1) := by decide +kernel
theorem dL_state_3 : decode cL_state 3 = .ok (.aload_n 0, 1) := by decide +kernel
theorem dL_state_4 : decode cL_state 4 = .ok (.iload_n 1, 1) := by decide +kernel
theorem dL_state_5 : decode cL_state 5 = .ok (.iload_n 2, 1) := by decide +kernel
theorem dL_state_6 : decode cL_state 6 = .ok (.iload_n 3, 1) := by decide +kernel
theorem dL_state_7 : decode cL_state 7 = .ok (.invokevirtual 59, 3) := by decide +kernel
theorem dL_state_10 : decode cL_state 10 = .ok (.i2l, 1) := by decide +kernel
theorem dL_state_11 : decode cL_state 11 = .ok (.lastore, 1) := by decide +kernel
theorem dL_state_12 : decode cL_state 12 = .ok (.goto 11, 3) := by decide +kernel
theorem dL_state_15 : decode cL_state 15 = .ok (.astore 5, 2) := by decide +kernel
theorem dL_state_17 : decode cL_state 17 = .ok (.iconst 1, 1) := by decide +kernel
theorem dL_state_18 : decode cL_state 18 = .ok (.ireturn, 1) := by decide +kernel
theorem dL_state_19 : decode cL_state 19 = .ok (.astore 5, 2) := by decide +kernel
theorem dL_state_21 : decode cL_state 21 = .ok (.iconst 2, 1) := by decide +kernel
theorem dL_state_22 : decode cL_state 22 = .ok (.ireturn, 1) := by decide +kernel
theorem dL_state_23 : decode cL_state 23 = .ok (.iconst 0, 1) := by decide +kernel
theorem dL_state_24 : decode cL_state 24 = .ok (.ireturn, 1) := by decide +kernel
theorem dL_instances_0 : decode cL_instances 0 = .ok (.aload_n 2, 1) := by decide +kernel
theorem dL_instances_1 : decode cL_instances 1 = .ok (.iconst 0, 1) := by decide +kernel
theorem dL_instances_2 : decode cL_instances 2 = .ok (.aload_n 0, 1) := by decide +kernel
theorem dL_instances_3 : decode cL_instances 3 = .ok (.iload_n 1, 1) := by decide +kernel
theorem dL_instances_4 : decode cL_instances 4 = .ok (.invokevirtual 63, 3) := by decide +kernel
theorem dL_instances_7 : decode cL_instances 7 = .ok (.i2l, 1) := by decide +kernel
theorem dL_instances_8 : decode cL_instances 8 = .ok (.lastore, 1) := by decide +kernel
theorem dL_instances_9 : decode cL_instances 9 = .ok (.goto 6, 3) := by decide +kernel
theorem dL_instances_12 : decode cL_instances 12 = .ok (.astore_n 3, 1) := by decide +kernel
theorem dL_instances_13 : decode cL_instances 13 = .ok (.iconst 1, 1) := by decide +kernel
theorem dL_instances_14 : decode cL_instances 14 = .ok (.ireturn, 1) := by decide +kernel
theorem dL_instances_15 : decode cL_instances 15 = .ok (.iconst 0, 1) := by decide +kernel
theorem dL_instances_16 : decode cL_instances 16 = .ok (.ireturn, 1) := by decide +kernel
theorem dL_has_0 : decode cL_has 0 = .ok (.aload 5, 2) := by decide +kernel
theorem dL_has_2 : decode cL_has 2 = .ok (.iconst 0, 1) := by decide +kernel
theorem dL_has_3 : decode cL_has 3 = .ok (.aload_n 0, 1) := by decide +kernel
theorem dL_has_4 : decode cL_has 4 = .ok (.iload_n 1, 1) := by decide +kernel
theorem dL_has_5 : decode cL_has 5 = .ok (.iload_n 2, 1) := by decide +kernel
theorem dL_has_6 : decode cL_has 6 = .ok (.iload_n 3, 1) := by decide +kernel
theorem dL_has_7 : decode cL_has 7 = .ok (.iload 4, 2) := by decide +kernel
theorem dL_has_9 : decode cL_has 9 = .ok (.invokevirtual 78, 3) := by decide +kernel
theorem dL_has_12 : decode cL_has 12 = .ok (.ifCond .eq 7, 3) := by decide +kernel
theorem dL_has_15 : decode cL_has 15 = .ok (.lconst 1, 1) := by decide +kernel
theorem dL_has_16 : decode cL_has 16 = .ok (.goto 4, 3) := by decide +kernel
theorem dL_has_19 : decode cL_has 19 = .ok (.lconst 0, 1) := by decide +kernel
theorem dL_has_20 : decode cL_has 20 = .ok (.lastore, 1) := by decide +kernel
theorem dL_has_21 : decode cL_has 21 = .ok (.goto 15, 3) := by decide +kernel
theorem dL_has_24 : decode cL_has 24 = .ok (.astore 6, 2) := by decide +kernel
theorem dL_has_26 : decode cL_has 26 = .ok (.iconst 1, 1) := by decide +kernel
theorem dL_has_27 : decode cL_has 27 = .ok (.ireturn, 1) := by decide +kernel
theorem dL_has_28 : decode cL_has 28 = .ok (.astore 6, 2) := by decide +kernel
theorem dL_has_30 : decode cL_has 30 = .ok (.iconst 2, 1) := by decide +kernel
theorem dL_has_31 : decode cL_has 31 = .ok (.ireturn, 1) := by decide +kernel
theorem dL_has_32 : decode cL_has 32 = .ok (.astore 6, 2) := by decide +kernel
theorem dL_has_34 : decode cL_has 34 = .ok (.iconst 3, 1) := by decide +kernel
theorem dL_has_35 : decode cL_has 35 = .ok (.ireturn, 1) := by decide +kernel
theorem dL_has_36 : decode cL_has 36 = .ok (.iconst 0, 1) := by decide +kernel
theorem dL_has_37 : decode cL_has 37 = .ok (.ireturn, 1) := by decide +kernel
theorem dL_size_0 : decode cL_size 0 = .ok (.aload_n 2, 1) := by decide +kernel
theorem dL_size_1 : decode cL_size 1 = .ok (.iconst 0, 1) := by decide +kernel
theorem dL_size_2 : decode cL_size 2 = .ok (.aload_n 0, 1) := by decide +kernel
theorem dL_size_3 : decode cL_size 3 = .ok (.iload_n 1, 1) := by decide +kernel
theorem dL_size_4 : decode cL_size 4 = .ok (.invokevirtual 82, 3) := by decide +kernel
theorem dL_size_7 : decode cL_size 7 = .ok (.i2l, 1) := by decide +kernel
theorem dL_size_8 : decode cL_size 8 = .ok (.lastore, 1) := by decide +kernel
theorem dL_size_9 : decode cL_size 9 = .ok (.goto 9, 3) := by decide +kernel
theorem dL_size_12 : decode cL_size 12 = .ok (.astore_n 3, 1) := by decide +kernel
theorem dL_size_13 : decode cL_size 13 = .ok (.iconst 1, 1) := by decide +kernel
theorem dL_size_14 : decode cL_size 14 = .ok (.ireturn, 1) := by decide +kernel
theorem dL_size_15 : decode cL_size 15 = .ok (.astore_n 3, 1) := by decide +kernel
theorem dL_size_16 : decode cL_size 16 = .ok (.iconst 2, 1) := by decide +kernel
theorem dL_size_17 : decode cL_size 17 = .ok (.ireturn, 1) := by decide +kernel
theorem dL_size_18 : decode cL_size 18 = .ok (.iconst 0, 1) := by decide +kernel
theorem dL_size_19 : decode cL_size 19 = .ok (.ireturn, 1) := by decide +kernel
theorem dL_cost_0 : decode cL_cost 0 = .ok (.aload_n 3, 1) := by decide +kernel
theorem dL_cost_1 : decode cL_cost 1 = .ok (.iconst 0, 1) := by decide +kernel
theorem dL_cost_2 : decode cL_cost 2 = .ok (.aload_n 0, 1) := by decide +kernel
theorem dL_cost_3 : decode cL_cost 3 = .ok (.iload_n 1, 1) := by decide +kernel
theorem dL_cost_4 : decode cL_cost 4 = .ok (.iload_n 2, 1) := by decide +kernel
theorem dL_cost_5 : decode cL_cost 5 = .ok (.invokevirtual 85, 3) := by decide +kernel
theorem dL_cost_8 : decode cL_cost 8 = .ok (.lastore, 1) := by decide +kernel
theorem dL_cost_9 : decode cL_cost 9 = .ok (.goto 15, 3) := by decide +kernel
theorem dL_cost_12 : decode cL_cost 12 = .ok (.astore 4, 2) := by decide +kernel
theorem dL_cost_14 : decode cL_cost 14 = .ok (.iconst 1, 1) := by decide +kernel
theorem dL_cost_15 : decode cL_cost 15 = .ok (.ireturn, 1) := by decide +kernel
theorem dL_cost_16 : decode cL_cost 16 = .ok (.astore 4, 2) := by decide +kernel
theorem dL_cost_18 : decode cL_cost 18 = .ok (.iconst 2, 1) := by decide +kernel
theorem dL_cost_19 : decode cL_cost 19 = .ok (.ireturn, 1) := by decide +kernel
theorem dL_cost_20 : decode cL_cost 20 = .ok (.astore 4, 2) := by decide +kernel
theorem dL_cost_22 : decode cL_cost 22 = .ok (.iconst 3, 1) := by decide +kernel
theorem dL_cost_23 : decode cL_cost 23 = .ok (.ireturn, 1) := by decide +kernel
theorem dL_cost_24 : decode cL_cost 24 = .ok (.iconst 0, 1) := by decide +kernel
theorem dL_cost_25 : decode cL_cost 25 = .ok (.ireturn, 1) := by decide +kernel
theorem dL_best_0 : decode cL_best 0 = .ok (.aload_n 1, 1) := by decide +kernel
theorem dL_best_1 : decode cL_best 1 = .ok (.iconst 0, 1) := by decide +kernel
theorem dL_best_2 : decode cL_best 2 = .ok (.aload_n 0, 1) := by decide +kernel
theorem dL_best_3 : decode cL_best 3 = .ok (.invokevirtual 89, 3) := by decide +kernel
theorem dL_best_6 : decode cL_best 6 = .ok (.i2l, 1) := by decide +kernel
theorem dL_best_7 : decode cL_best 7 = .ok (.lastore, 1) := by decide +kernel
theorem dL_best_8 : decode cL_best 8 = .ok (.goto 6, 3) := by decide +kernel
theorem dL_best_11 : decode cL_best 11 = .ok (.astore_n 2, 1) := by decide +kernel
theorem dL_best_12 : decode cL_best 12 = .ok (.iconst 1, 1) := by decide +kernel
theorem dL_best_13 : decode cL_best 13 = .ok (.ireturn, 1) := by decide +kernel
theorem dL_best_14 : decode cL_best 14 = .ok (.iconst 0, 1) := by decide +kernel
theorem dL_best_15 : decode cL_best 15 = .ok (.ireturn, 1) := by decide +kernel
def vs_k_L_addExternal : List Cond := .codeWith yL_addExternal cL_addExternal 6 (some .int) [(0, 12, 15, 31), (0, 12, 19, 13), (0, 12, 23, 15)] :: ([.methodLink RL 48 yX10_addExternal, .instanceMethod yX10_addExternal, .selects RX10 yX10_addExternal yX10_addExternal, .initialized RX10, .classLink RL 31 "java/lang/IndexOutOfBoundsException"] ++ (vs_k_X10_addExternal))
set_option maxRecDepth 20000 in
theorem gv_k_L_addExternal_0 : GoodIn vs_k_L_addExternal (wsV RL 48 RX10 yX10_addExternal vs_k_X10_addExternal) := goodIn_app (goodIn_sub (by decide +kernel) (by decide +kernel)) (goodIn_sub (fun _ h => List.mem_cons_of_mem _ (List.mem_append_right _ (h))) (by decide +kernel))
set_option maxHeartbeats 4000000 in
set_option maxRecDepth 100000 in
theorem k_L_addExternal (l : Launch) (hl9 : l.stackTraces = false) (D : va_G) (ty : Nat → ClassId) (td mi sz : Nat) (x0 : Nat) (x1 : Nat) (x8 : Nat) (x20 : Nat) (x39 : Nat) (x41 : Nat) (x43 : Nat) (x45 : Nat) (x2 : Nat) (x3 : Nat) (x4 : Nat) (x5 : Nat) (x6 : Nat) (x7 : Nat) (o1 : Nat) (k1 : Int32) (k2 : Int32) (k3 : Int32) : vx_Met l yL_addExternal vs_k_L_addExternal { frames := 8, cells := 1, slots := 6, locals := 130 } (va_Pc [.ref x0, .int k1, .int k2, .int k3, .ref o1] (wq_P D ty td mi [(x0, .inr (15, [.ref x1, .ref x8, .ref x20, .ref x39, .ref x41, .ref x43, .ref x45])), (x1, .inr (11, [.ref x2, .int 0, .ref x3, .int 0, .ref x4, .ref x5, .int 1, .ref x6, .ref x7, .int 0])), (o1, .inl (ty 1, 1, .inr (.inl (fun _ => 0))))] sz)) (va_Qi (fun (r : Int32) (u : va_W) => (r = 1 ∧ (u = [(o1, .inl (ty 1, 1, .inr (.inl (fun _ => 0))))]))) (wq_B D (va_A [(x0, .inr (15, [.ref x1, .ref x8, .ref x20, .ref x39, .ref x41, .ref x43, .ref x45])), (x1, .inr (11, [.ref x2, .int 0, .ref x3, .int 0, .ref x4, .ref x5, .int 1, .ref x6, .ref x7, .int 0])), (o1, .inl (ty 1, 1, .inr (.inl (fun _ => 0))))] sz)) (va_A [(x0, .inr (15, [.ref x1, .ref x8, .ref x20, .ref x39, .ref x41, .ref x43, .ref x45])), (x1, .inr (11, [.ref x2, .int 0, .ref x3, .int 0, .ref x4, .ref x5, .int 1, .ref x6, .ref x7, .int 0])), (o1, .inl (ty 1, 1, .inr (.inl (fun _ => 0))))] sz)) (vx_X (fun u : String × va_W => False) (wq_BX D (va_A [(x0, .inr (15, [.ref x1, .ref x8, .ref x20, .ref x39, .ref x41, .ref x43, .ref x45])), (x1, .inr (11, [.ref x2, .int 0, .ref x3, .int 0, .ref x4, .ref x5, .int 1, .ref x6, .ref x7, .int 0])), (o1, .inl (ty 1, 1, .inr (.inl (fun _ => 0))))] sz)) (va_A [(x0, .inr (15, [.ref x1, .ref x8, .ref x20, .ref x39, .ref x41, .ref x43, .ref x45])), (x1, .inr (11, [.ref x2, .int 0, .ref x3, .int 0, .ref x4, .ref x5, .int 1, .ref x6, .ref x7, .int 0])), (o1, .inl (ty 1, 1, .inr (.inl (fun _ => 0))))] sz)) 1 6 (va_A [(x0, .inr (15, [.ref x1, .ref x8, .ref x20, .ref x39, .ref x41, .ref x43, .ref x45])), (x1, .inr (11, [.ref x2, .int 0, .ref x3, .int 0, .ref x4, .ref x5, .int 1, .ref x6, .ref x7, .int 0])), (o1, .inl (ty 1, 1, .inr (.inl (fun _ => 0))))] sz) := by
  refine vx_ofWH (cc := cL_addExternal) (maxL := 6) (ret := (some .int)) (hh := [(0, 12, 15, 31), (0, 12, 19, 13), (0, 12, 23, 15)]) (by decide) rfl ?_
  intro p e s m args below meth c s₁ B hml hv
  obtain ⟨rfl, hsz, hP, hK, hD0, hE⟩ := hv
  have hx := B.exec
  have hb := B.bytes
  have hr := B.returns
  have hts := atoms_spec (ws := vs_k_L_addExternal) B.pre
  have hown : s.vm.findClass RL = some m.cls := findClass_of_methodNamed B.named
  have hlocks := B.notSynchronized
  have hTab := vx_table (x := yL_walk) B (hts _ List.mem_cons_self)
  subst hsz
  have hD := hD0.self (sz := s.heap.size)
  generalize hAe : va_A [(x0, .inr (15, [.ref x1, .ref x8, .ref x20, .ref x39, .ref x41, .ref x43, .ref x45])), (x1, .inr (11, [.ref x2, .int 0, .ref x3, .int 0, .ref x4, .ref x5, .int 1, .ref x6, .ref x7, .int 0])), (o1, .inl (ty 1, 1, .inr (.inl (fun _ => 0))))] s.heap.size = A at hD hE ⊢
  have hA : ∀ q : Nat, s.heap.size ≤ q → A q := fun q h => by rw [← hAe]; exact Or.inr h
  have hS : va_S A s.heap s.heap [] := va_S.rf
  have hP : va_P D vwCl [(x0, .inr (15, [.ref x1, .ref x8, .ref x20, .ref x39, .ref x41, .ref x43, .ref x45])), (x1, .inr (11, [.ref x2, .int 0, .ref x3, .int 0, .ref x4, .ref x5, .int 1, .ref x6, .ref x7, .int 0])), (o1, .inl (ty 1, 1, .inr (.inl (fun _ => 0))))] s.heap := hP
  have hl := lv_entry ([.ref x0, .int k1, .int k2, .int k3, .ref o1]) (n := 6) (Nat.le_of_ble_eq_true rfl)
  rw [lg_entry_eq]
  generalize (lg_sl ([.ref x0, .int k1, .int k2, .int k3, .ref o1]) ++ List.replicate (6 - (lg_sl ([.ref x0, .int k1, .int k2, .int k3, .ref o1])).length) Slot.unset).toArray = ls at hl ⊢
  have hl : lv_has ls 6 [(0, .ref x0), (1, .int k1), (2, .int k2), (3, .int k3), (4, .ref o1)] := hl
  refine lv_aload hx hb dL_addExternal_0 (lv_at hl 4 rfl) ?_
  refine lv_iconst (v := 0) hx hb dL_addExternal_2 (by decide) ?_
  refine lv_aload_n hx hb dL_addExternal_3 rfl (lv_at hl 0 rfl) ?_
  refine lv_iload_n hx hb dL_addExternal_4 rfl (lv_at hl 1 rfl) ?_
  refine lv_iload_n hx hb dL_addExternal_5 rfl (lv_at hl 2 rfl) ?_
  refine lv_iload_n hx hb dL_addExternal_6 rfl (lv_at hl 3 rfl) ?_
  refine wq_xi (wc := [(x0, .inr (15, [.ref x1, .ref x8, .ref x20, .ref x39, .ref x41, .ref x43, .ref x45])), (x1, .inr (11, [.ref x2, .int 0, .ref x3, .int 0, .ref x4, .ref x5, .int 1, .ref x6, .ref x7, .int 0]))]) (wr := [(o1, .inl (ty 1, 1, .inr (.inl (fun _ => 0))))]) (vx_runV (As := [.int k1, .int k2, .int k3]) (rest := [.int 0, .ref o1]) ⟨hx, hb, hml, hown, hts⟩ (k_X10_addExternal l hl9 D ty td mi s.heap.size x0 x1 x8 x20 x39 x41 x43 x45 x2 x3 x4 x5 x6 x7 k1 k2 k3) (cwV 3 hts gv_k_L_addExternal_0 rfl rfl rfl (by decide +kernel) ⟨(Nat.le_of_ble_eq_true rfl), (Nat.le_of_ble_eq_true rfl)⟩) (wq_preV hP hD hK hE hS hA [0, 1] rfl (by decide) 0 15 rfl rfl) rfl rfl hl.1 rfl (lv_room (Nat.le_of_ble_eq_true rfl)) dL_addExternal_7 ⟨(Nat.le_of_ble_eq_true rfl), (Nat.le_of_ble_eq_true rfl)⟩) hS hA hP hD [0, 1] [2] rfl rfl (by decide) (by decide) (fun E9 u H locs q9 ce hw hP hD hS hce hcv hcl => ?_) (fun r u H locs hw hP hD hS => ?_)
  · have hEq := hw
    cases hEq
    have hP : va_P D vwCl [(o1, .inl (ty 1, 1, .inr (.inl (fun _ => 0))))] H := hP
    have hD : va_D A [(o1, .inl (ty 1, 1, .inr (.inl (fun _ => 0))))] := hD
    refine vx_widen (k := 1) (n := 6) (Nat.le_of_ble_eq_true rfl) (Nat.le_of_ble_eq_true rfl) ?_
    refine vx_catch (own := RL) (name := "java/lang/IndexOutOfBoundsException") (E := "java/lang/IndexOutOfBoundsException") hown [] ⟨0, 12, 15, 31⟩ [⟨0, 12, 19, 13⟩, ⟨0, 12, 23, 15⟩] (by rw [hTab]; rfl) (fun z hz => nomatch hz) (by decide) (by decide) (hts (.classLink RL 31 "java/lang/IndexOutOfBoundsException") (by decide +kernel)) (va_Nw.use rfl (hE.ca "java/lang/IndexOutOfBoundsException" "java/lang/IndexOutOfBoundsException" (by decide +kernel))) hce hcv hcl ?_
    refine lv_astore (lv' := [(5, .ref q9), (0, .ref x0), (1, .int k1), (2, .int k2), (3, .int k3), (4, .ref o1)]) hx hb dL_addExternal_15 hl (by decide) rfl (fun ls hl => ?_)
    refine lv_iconst (v := 1) hx hb dL_addExternal_17 (by decide) ?_
    have hP9 := hP.sub (ws' := [(o1, .inl (ty 1, 1, .inr (.inl (fun _ => 0))))]) [0] rfl
    have hD9 := hD.sub (ws' := [(o1, .inl (ty 1, 1, .inr (.inl (fun _ => 0))))]) [0] (by decide) rfl
    refine W.widen (k := 1) (n := 6) (Nat.le_of_ble_eq_true rfl) (Nat.le_of_ble_eq_true rfl) ?_
    refine vx_ret ?_
    exact W.iret (v := 1) hx hb hr (fun t ht hW => ⟨⟨1, [(o1, .inl (ty 1, 1, .inr (.inl (fun _ => 0))))], rfl, ⟨rfl, rfl⟩, wq_B.of ht hP9 hD9⟩, hS.F ht⟩) hS.2.2 dL_addExternal_18
  · exact hw.elim
def vs_k_L_setExternal : List Cond := .codeWith yL_setExternal cL_setExternal 5 (some .int) [(0, 10, 13, 31), (0, 10, 17, 13), (0, 10, 21, 15)] :: ([.methodLink RL 51 yX10_setExternal, .instanceMethod yX10_setExternal, .selects RX10 yX10_setExternal yX10_setExternal, .initialized RX10, .classLink RL 31 "java/lang/IndexOutOfBoundsException"] ++ (vs_k_X10_setExternal))
set_option maxRecDepth 20000 in
theorem gv_k_L_setExternal_0 : GoodIn vs_k_L_setExternal (wsV RL 51 RX10 yX10_setExternal vs_k_X10_setExternal) := goodIn_app (goodIn_sub (by decide +kernel) (by decide +kernel)) (goodIn_sub (fun _ h => List.mem_cons_of_mem _ (List.mem_append_right _ (h))) (by decide +kernel))
set_option maxHeartbeats 4000000 in
set_option maxRecDepth 100000 in
theorem k_L_setExternal (l : Launch) (hl9 : l.stackTraces = false) (D : va_G) (ty : Nat → ClassId) (td mi sz : Nat) (x0 : Nat) (x1 : Nat) (x8 : Nat) (x20 : Nat) (x39 : Nat) (x41 : Nat) (x43 : Nat) (x45 : Nat) (x2 : Nat) (x3 : Nat) (x4 : Nat) (x5 : Nat) (x6 : Nat) (x7 : Nat) (o1 : Nat) (k1 : Int32) (k2 : Int32) : vx_Met l yL_setExternal vs_k_L_setExternal { frames := 7, cells := 1, slots := 6, locals := 105 } (va_Pc [.ref x0, .int k1, .int k2, .ref o1] (wq_P D ty td mi [(x0, .inr (15, [.ref x1, .ref x8, .ref x20, .ref x39, .ref x41, .ref x43, .ref x45])), (x1, .inr (11, [.ref x2, .int 0, .ref x3, .int 0, .ref x4, .ref x5, .int 1, .ref x6, .ref x7, .int 0])), (o1, .inl (ty 1, 1, .inr (.inl (fun _ => 0))))] sz)) (va_Qi (fun (r : Int32) (u : va_W) => (r = 1 ∧ (u = [(o1, .inl (ty 1, 1, .inr (.inl (fun _ => 0))))]))) (wq_B D (va_A [(x0, .inr (15, [.ref x1, .ref x8, .ref x20, .ref x39, .ref x41, .ref x43, .ref x45])), (x1, .inr (11, [.ref x2, .int 0, .ref x3, .int 0, .ref x4, .ref x5, .int 1, .ref x6, .ref x7, .int 0])), (o1, .inl (ty 1, 1, .inr (.inl (fun _ => 0))))] sz)) (va_A [(x0, .inr (15, [.ref x1, .ref x8, .ref x20, .ref x39, .ref x41, .ref x43, .ref x45])), (x1, .inr (11, [.ref x2, .int 0, .ref x3, .int 0, .ref x4, .ref x5, .int 1, .ref x6, .ref x7, .int 0])), (o1, .inl (ty 1, 1, .inr (.inl (fun _ => 0))))] sz)) (vx_X (fun u : String × va_W => False) (wq_BX D (va_A [(x0, .inr (15, [.ref x1, .ref x8, .ref x20, .ref x39, .ref x41, .ref x43, .ref x45])), (x1, .inr (11, [.ref x2, .int 0, .ref x3, .int 0, .ref x4, .ref x5, .int 1, .ref x6, .ref x7, .int 0])), (o1, .inl (ty 1, 1, .inr (.inl (fun _ => 0))))] sz)) (va_A [(x0, .inr (15, [.ref x1, .ref x8, .ref x20, .ref x39, .ref x41, .ref x43, .ref x45])), (x1, .inr (11, [.ref x2, .int 0, .ref x3, .int 0, .ref x4, .ref x5, .int 1, .ref x6, .ref x7, .int 0])), (o1, .inl (ty 1, 1, .inr (.inl (fun _ => 0))))] sz)) 1 6 (va_A [(x0, .inr (15, [.ref x1, .ref x8, .ref x20, .ref x39, .ref x41, .ref x43, .ref x45])), (x1, .inr (11, [.ref x2, .int 0, .ref x3, .int 0, .ref x4, .ref x5, .int 1, .ref x6, .ref x7, .int 0])), (o1, .inl (ty 1, 1, .inr (.inl (fun _ => 0))))] sz) := by
  refine vx_ofWH (cc := cL_setExternal) (maxL := 5) (ret := (some .int)) (hh := [(0, 10, 13, 31), (0, 10, 17, 13), (0, 10, 21, 15)]) (by decide) rfl ?_
  intro p e s m args below meth c s₁ B hml hv
  obtain ⟨rfl, hsz, hP, hK, hD0, hE⟩ := hv
  have hx := B.exec
  have hb := B.bytes
  have hr := B.returns
  have hts := atoms_spec (ws := vs_k_L_setExternal) B.pre
  have hown : s.vm.findClass RL = some m.cls := findClass_of_methodNamed B.named
  have hlocks := B.notSynchronized
  have hTab := vx_table (x := yL_walk) B (hts _ List.mem_cons_self)
  subst hsz
  have hD := hD0.self (sz := s.heap.size)
  generalize hAe : va_A [(x0, .inr (15, [.ref x1, .ref x8, .ref x20, .ref x39, .ref x41, .ref x43, .ref x45])), (x1, .inr (11, [.ref x2, .int 0, .ref x3, .int 0, .ref x4, .ref x5, .int 1, .ref x6, .ref x7, .int 0])), (o1, .inl (ty 1, 1, .inr (.inl (fun _ => 0))))] s.heap.size = A at hD hE ⊢
  have hA : ∀ q : Nat, s.heap.size ≤ q → A q := fun q h => by rw [← hAe]; exact Or.inr h
  have hS : va_S A s.heap s.heap [] := va_S.rf
  have hP : va_P D vwCl [(x0, .inr (15, [.ref x1, .ref x8, .ref x20, .ref x39, .ref x41, .ref x43, .ref x45])), (x1, .inr (11, [.ref x2, .int 0, .ref x3, .int 0, .ref x4, .ref x5, .int 1, .ref x6, .ref x7, .int 0])), (o1, .inl (ty 1, 1, .inr (.inl (fun _ => 0))))] s.heap := hP
  have hl := lv_entry ([.ref x0, .int k1, .int k2, .ref o1]) (n := 5) (Nat.le_of_ble_eq_true rfl)
  rw [lg_entry_eq]
  generalize (lg_sl ([.ref x0, .int k1, .int k2, .ref o1]) ++ List.replicate (5 - (lg_sl ([.ref x0, .int k1, .int k2, .ref o1])).length) Slot.unset).toArray = ls at hl ⊢
  have hl : lv_has ls 5 [(0, .ref x0), (1, .int k1), (2, .int k2), (3, .ref o1)] := hl
  refine lv_aload_n hx hb dL_setExternal_0 rfl (lv_at hl 3 rfl) ?_
  refine lv_iconst (v := 0) hx hb dL_setExternal_1 (by decide) ?_
  refine lv_aload_n hx hb dL_setExternal_2 rfl (lv_at hl 0 rfl) ?_
  refine lv_iload_n hx hb dL_setExternal_3 rfl (lv_at hl 1 rfl) ?_
  refine lv_iload_n hx hb dL_setExternal_4 rfl (lv_at hl 2 rfl) ?_
  refine wq_xi (wc := [(x0, .inr (15, [.ref x1, .ref x8, .ref x20, .ref x39, .ref x41, .ref x43, .ref x45])), (x1, .inr (11, [.ref x2, .int 0, .ref x3, .int 0, .ref x4, .ref x5, .int 1, .ref x6, .ref x7, .int 0]))]) (wr := [(o1, .inl (ty 1, 1, .inr (.inl (fun _ => 0))))]) (vx_runV (As := [.int k1, .int k2]) (rest := [.int 0, .ref o1]) ⟨hx, hb, hml, hown, hts⟩ (k_X10_setExternal l hl9 D ty td mi s.heap.size x0 x1 x8 x20 x39 x41 x43 x45 x2 x3 x4 x5 x6 x7 k1 k2) (cwV 2 hts gv_k_L_setExternal_0 rfl rfl rfl (by decide +kernel) ⟨(Nat.le_of_ble_eq_true rfl), (Nat.le_of_ble_eq_true rfl)⟩) (wq_preV hP hD hK hE hS hA [0, 1] rfl (by decide) 0 15 rfl rfl) rfl rfl hl.1 rfl (lv_room (Nat.le_of_ble_eq_true rfl)) dL_setExternal_5 ⟨(Nat.le_of_ble_eq_true rfl), (Nat.le_of_ble_eq_true rfl)⟩) hS hA hP hD [0, 1] [2] rfl rfl (by decide) (by decide) (fun E9 u H locs q9 ce hw hP hD hS hce hcv hcl => ?_) (fun r u H locs hw hP hD hS => ?_)
  · have hEq := hw
    cases hEq
    have hP : va_P D vwCl [(o1, .inl (ty 1, 1, .inr (.inl (fun _ => 0))))] H := hP
    have hD : va_D A [(o1, .inl (ty 1, 1, .inr (.inl (fun _ => 0))))] := hD
    refine vx_widen (k := 1) (n := 6) (Nat.le_of_ble_eq_true rfl) (Nat.le_of_ble_eq_true rfl) ?_
    refine vx_catch (own := RL) (name := "java/lang/IndexOutOfBoundsException") (E := "java/lang/IndexOutOfBoundsException") hown [] ⟨0, 10, 13, 31⟩ [⟨0, 10, 17, 13⟩, ⟨0, 10, 21, 15⟩] (by rw [hTab]; rfl) (fun z hz => nomatch hz) (by decide) (by decide) (hts (.classLink RL 31 "java/lang/IndexOutOfBoundsException") (by decide +kernel)) (va_Nw.use rfl (hE.ca "java/lang/IndexOutOfBoundsException" "java/lang/IndexOutOfBoundsException" (by decide +kernel))) hce hcv hcl ?_
    refine lv_astore (lv' := [(4, .ref q9), (0, .ref x0), (1, .int k1), (2, .int k2), (3, .ref o1)]) hx hb dL_setExternal_13 hl (by decide) rfl (fun ls hl => ?_)
    refine lv_iconst (v := 1) hx hb dL_setExternal_15 (by decide) ?_
    have hP9 := hP.sub (ws' := [(o1, .inl (ty 1, 1, .inr (.inl (fun _ => 0))))]) [0] rfl
    have hD9 := hD.sub (ws' := [(o1, .inl (ty 1, 1, .inr (.inl (fun _ => 0))))]) [0] (by decide) rfl
    refine W.widen (k := 1) (n := 6) (Nat.le_of_ble_eq_true rfl) (Nat.le_of_ble_eq_true rfl) ?_
    refine vx_ret ?_
    exact W.iret (v := 1) hx hb hr (fun t ht hW => ⟨⟨1, [(o1, .inl (ty 1, 1, .inr (.inl (fun _ => 0))))], rfl, ⟨rfl, rfl⟩, wq_B.of ht hP9 hD9⟩, hS.F ht⟩) hS.2.2 dL_setExternal_16
  · exact hw.elim
def vs_k_L_assume : List Cond := .codeWith yL_assume cL_assume 7 (some .int) [(0, 14, 17, 31), (0, 14, 21, 13)] :: ([.methodLink RL 55 yX10_assume, .instanceMethod yX10_assume, .selects RX10 yX10_assume yX10_assume, .initialized RX10, .classLink RL 31 "java/lang/IndexOutOfBoundsException"] ++ (vs_k_X10_assume))
set_option maxRecDepth 20000 in
theorem gv_k_L_assume_0 : GoodIn vs_k_L_assume (wsV RL 55 RX10 yX10_assume vs_k_X10_assume) := goodIn_app (goodIn_sub (by decide +kernel) (by decide +kernel)) (goodIn_sub (fun _ h => List.mem_cons_of_mem _ (List.mem_append_right _ (h))) (by decide +kernel))
set_option maxHeartbeats 4000000 in
set_option maxRecDepth 100000 in
theorem k_L_assume (l : Launch) (hl9 : l.stackTraces = false) (D : va_G) (ty : Nat → ClassId) (td mi sz : Nat) (x0 : Nat) (x1 : Nat) (x8 : Nat) (x20 : Nat) (x39 : Nat) (x41 : Nat) (x43 : Nat) (x45 : Nat) (x2 : Nat) (x3 : Nat) (x4 : Nat) (x5 : Nat) (x6 : Nat) (x7 : Nat) (o1 : Nat) (k1 : Int32) (k2 : Int32) (k3 : Int32) (k4 : Int32) : vx_Met l yL_assume vs_k_L_assume { frames := 8, cells := 1, slots := 6, locals := 131 } (va_Pc [.ref x0, .int k1, .int k2, .int k3, .int k4, .ref o1] (wq_P D ty td mi [(x0, .inr (15, [.ref x1, .ref x8, .ref x20, .ref x39, .ref x41, .ref x43, .ref x45])), (x1, .inr (11, [.ref x2, .int 0, .ref x3, .int 0, .ref x4, .ref x5, .int 1, .ref x6, .ref x7, .int 0])), (o1, .inl (ty 1, 1, .inr (.inl (fun _ => 0))))] sz)) (va_Qi (fun (r : Int32) (u : va_W) => (r = 1 ∧ (u = [(o1, .inl (ty 1, 1, .inr (.inl (fun _ => 0))))]))) (wq_B D (va_A [(x0, .inr (15, [.ref x1, .ref x8, .ref x20, .ref x39, .ref x41, .ref x43, .ref x45])), (x1, .inr (11, [.ref x2, .int 0, .ref x3, .int 0, .ref x4, .ref x5, .int 1, .ref x6, .ref x7, .int 0])), (o1, .inl (ty 1, 1, .inr (.inl (fun _ => 0))))] sz)) (va_A [(x0, .inr (15, [.ref x1, .ref x8, .ref x20, .ref x39, .ref x41, .ref x43, .ref x45])), (x1, .inr (11, [.ref x2, .int 0, .ref x3, .int 0, .ref x4, .ref x5, .int 1, .ref x6, .ref x7, .int 0])), (o1, .inl (ty 1, 1, .inr (.inl (fun _ => 0))))] sz)) (vx_X (fun u : String × va_W => False) (wq_BX D (va_A [(x0, .inr (15, [.ref x1, .ref x8, .ref x20, .ref x39, .ref x41, .ref x43, .ref x45])), (x1, .inr (11, [.ref x2, .int 0, .ref x3, .int 0, .ref x4, .ref x5, .int 1, .ref x6, .ref x7, .int 0])), (o1, .inl (ty 1, 1, .inr (.inl (fun _ => 0))))] sz)) (va_A [(x0, .inr (15, [.ref x1, .ref x8, .ref x20, .ref x39, .ref x41, .ref x43, .ref x45])), (x1, .inr (11, [.ref x2, .int 0, .ref x3, .int 0, .ref x4, .ref x5, .int 1, .ref x6, .ref x7, .int 0])), (o1, .inl (ty 1, 1, .inr (.inl (fun _ => 0))))] sz)) 1 6 (va_A [(x0, .inr (15, [.ref x1, .ref x8, .ref x20, .ref x39, .ref x41, .ref x43, .ref x45])), (x1, .inr (11, [.ref x2, .int 0, .ref x3, .int 0, .ref x4, .ref x5, .int 1, .ref x6, .ref x7, .int 0])), (o1, .inl (ty 1, 1, .inr (.inl (fun _ => 0))))] sz) := by
  refine vx_ofWH (cc := cL_assume) (maxL := 7) (ret := (some .int)) (hh := [(0, 14, 17, 31), (0, 14, 21, 13)]) (by decide) rfl ?_
  intro p e s m args below meth c s₁ B hml hv
  obtain ⟨rfl, hsz, hP, hK, hD0, hE⟩ := hv
  have hx := B.exec
  have hb := B.bytes
  have hr := B.returns
  have hts := atoms_spec (ws := vs_k_L_assume) B.pre
  have hown : s.vm.findClass RL = some m.cls := findClass_of_methodNamed B.named
  have hlocks := B.notSynchronized
  have hTab := vx_table (x := yL_walk) B (hts _ List.mem_cons_self)
  subst hsz
  have hD := hD0.self (sz := s.heap.size)
  generalize hAe : va_A [(x0, .inr (15, [.ref x1, .ref x8, .ref x20, .ref x39, .ref x41, .ref x43, .ref x45])), (x1, .inr (11, [.ref x2, .int 0, .ref x3, .int 0, .ref x4, .ref x5, .int 1, .ref x6, .ref x7, .int 0])), (o1, .inl (ty 1, 1, .inr (.inl (fun _ => 0))))] s.heap.size = A at hD hE ⊢
  have hA : ∀ q : Nat, s.heap.size ≤ q → A q := fun q h => by rw [← hAe]; exact Or.inr h
  have hS : va_S A s.heap s.heap [] := va_S.rf
  have hP : va_P D vwCl [(x0, .inr (15, [.ref x1, .ref x8, .ref x20, .ref x39, .ref x41, .ref x43, .ref x45])), (x1, .inr (11, [.ref x2, .int 0, .ref x3, .int 0, .ref x4, .ref x5, .int 1, .ref x6, .ref x7, .int 0])), (o1, .inl (ty 1, 1, .inr (.inl (fun _ => 0))))] s.heap := hP
  have hl := lv_entry ([.ref x0, .int k1, .int k2, .int k3, .int k4, .ref o1]) (n := 7) (Nat.le_of_ble_eq_true rfl)
  rw [lg_entry_eq]
  generalize (lg_sl ([.ref x0, .int k1, .int k2, .int k3, .int k4, .ref o1]) ++ List.replicate (7 - (lg_sl ([.ref x0, .int k1, .int k2, .int k3, .int k4, .ref o1])).length) Slot.unset).toArray = ls at hl ⊢
  have hl : lv_has ls 7 [(0, .ref x0), (1, .int k1), (2, .int k2), (3, .int k3), (4, .int k4), (5, .ref o1)] := hl
  refine lv_aload hx hb dL_assume_0 (lv_at hl 5 rfl) ?_
  refine lv_iconst (v := 0) hx hb dL_assume_2 (by decide) ?_
  refine lv_aload_n hx hb dL_assume_3 rfl (lv_at hl 0 rfl) ?_
  refine lv_iload_n hx hb dL_assume_4 rfl (lv_at hl 1 rfl) ?_
  refine lv_iload_n hx hb dL_assume_5 rfl (lv_at hl 2 rfl) ?_
  refine lv_iload_n hx hb dL_assume_6 rfl (lv_at hl 3 rfl) ?_
  refine lv_iload hx hb dL_assume_7 (lv_at hl 4 rfl) ?_
  refine wq_xi (wc := [(x0, .inr (15, [.ref x1, .ref x8, .ref x20, .ref x39, .ref x41, .ref x43, .ref x45])), (x1, .inr (11, [.ref x2, .int 0, .ref x3, .int 0, .ref x4, .ref x5, .int 1, .ref x6, .ref x7, .int 0]))]) (wr := [(o1, .inl (ty 1, 1, .inr (.inl (fun _ => 0))))]) (vx_runV (As := [.int k1, .int k2, .int k3, .int k4]) (rest := [.int 0, .ref o1]) ⟨hx, hb, hml, hown, hts⟩ (k_X10_assume l hl9 D ty td mi s.heap.size x0 x1 x8 x20 x39 x41 x43 x45 x2 x3 x4 x5 x6 x7 k1 k2 k3 k4) (cwV 4 hts gv_k_L_assume_0 rfl rfl rfl (by decide +kernel) ⟨(Nat.le_of_ble_eq_true rfl), (Nat.le_of_ble_eq_true rfl)⟩) (wq_preV hP hD hK hE hS hA [0, 1] rfl (by decide) 0 15 rfl rfl) rfl rfl hl.1 rfl (lv_room (Nat.le_of_ble_eq_true rfl)) dL_assume_9 ⟨(Nat.le_of_ble_eq_true rfl), (Nat.le_of_ble_eq_true rfl)⟩) hS hA hP hD [0, 1] [2] rfl rfl (by decide) (by decide) (fun E9 u H locs q9 ce hw hP hD hS hce hcv hcl => ?_) (fun r u H locs hw hP hD hS => ?_)
  · have hEq := hw
    cases hEq
    have hP : va_P D vwCl [(o1, .inl (ty 1, 1, .inr (.inl (fun _ => 0))))] H := hP
    have hD : va_D A [(o1, .inl (ty 1, 1, .inr (.inl (fun _ => 0))))] := hD
    refine vx_widen (k := 1) (n := 6) (Nat.le_of_ble_eq_true rfl) (Nat.le_of_ble_eq_true rfl) ?_
    refine vx_catch (own := RL) (name := "java/lang/IndexOutOfBoundsException") (E := "java/lang/IndexOutOfBoundsException") hown [] ⟨0, 14, 17, 31⟩ [⟨0, 14, 21, 13⟩] (by rw [hTab]; rfl) (fun z hz => nomatch hz) (by decide) (by decide) (hts (.classLink RL 31 "java/lang/IndexOutOfBoundsException") (by decide +kernel)) (va_Nw.use rfl (hE.ca "java/lang/IndexOutOfBoundsException" "java/lang/IndexOutOfBoundsException" (by decide +kernel))) hce hcv hcl ?_
    refine lv_astore (lv' := [(6, .ref q9), (0, .ref x0), (1, .int k1), (2, .int k2), (3, .int k3), (4, .int k4), (5, .ref o1)]) hx hb dL_assume_17 hl (by decide) rfl (fun ls hl => ?_)
    refine lv_iconst (v := 1) hx hb dL_assume_19 (by decide) ?_
    have hP9 := hP.sub (ws' := [(o1, .inl (ty 1, 1, .inr (.inl (fun _ => 0))))]) [0] rfl
    have hD9 := hD.sub (ws' := [(o1, .inl (ty 1, 1, .inr (.inl (fun _ => 0))))]) [0] (by decide) rfl
    refine W.widen (k := 1) (n := 6) (Nat.le_of_ble_eq_true rfl) (Nat.le_of_ble_eq_true rfl) ?_
    refine vx_ret ?_
    exact W.iret (v := 1) hx hb hr (fun t ht hW => ⟨⟨1, [(o1, .inl (ty 1, 1, .inr (.inl (fun _ => 0))))], rfl, ⟨rfl, rfl⟩, wq_B.of ht hP9 hD9⟩, hS.F ht⟩) hS.2.2 dL_assume_20
  · exact hw.elim
def vs_k_L_state : List Cond := .codeWith yL_state cL_state 6 (some .int) [(0, 12, 15, 31), (0, 12, 19, 13)] :: ([.methodLink RL 59 yX10_state, .instanceMethod yX10_state, .selects RX10 yX10_state yX10_state, .initialized RX10, .classLink RL 31 "java/lang/IndexOutOfBoundsException"] ++ (vs_k_X10_state))
set_option maxRecDepth 20000 in
theorem gv_k_L_state_0 : GoodIn vs_k_L_state (wsV RL 59 RX10 yX10_state vs_k_X10_state) := goodIn_app (goodIn_sub (by decide +kernel) (by decide +kernel)) (goodIn_sub (fun _ h => List.mem_cons_of_mem _ (List.mem_append_right _ (h))) (by decide +kernel))
set_option maxHeartbeats 4000000 in
set_option maxRecDepth 100000 in
theorem k_L_state (l : Launch) (hl9 : l.stackTraces = false) (D : va_G) (ty : Nat → ClassId) (td mi sz : Nat) (x0 : Nat) (x1 : Nat) (x8 : Nat) (x20 : Nat) (x39 : Nat) (x41 : Nat) (x43 : Nat) (x45 : Nat) (x2 : Nat) (x3 : Nat) (x4 : Nat) (x5 : Nat) (x6 : Nat) (x7 : Nat) (o1 : Nat) (k1 : Int32) (k2 : Int32) (k3 : Int32) : vx_Met l yL_state vs_k_L_state { frames := 8, cells := 1, slots := 6, locals := 130 } (va_Pc [.ref x0, .int k1, .int k2, .int k3, .ref o1] (wq_P D ty td mi [(x0, .inr (15, [.ref x1, .ref x8, .ref x20, .ref x39, .ref x41, .ref x43, .ref x45])), (x1, .inr (11, [.ref x2, .int 0, .ref x3, .int 0, .ref x4, .ref x5, .int 1, .ref x6, .ref x7, .int 0])), (o1, .inl (ty 1, 1, .inr (.inl (fun _ => 0))))] sz)) (va_Qi (fun (r : Int32) (u : va_W) => (r = 1 ∧ (u = [(o1, .inl (ty 1, 1, .inr (.inl (fun _ => 0))))]))) (wq_B D (va_A [(x0, .inr (15, [.ref x1, .ref x8, .ref x20, .ref x39, .ref x41, .ref x43, .ref x45])), (x1, .inr (11, [.ref x2, .int 0, .ref x3, .int 0, .ref x4, .ref x5, .int 1, .ref x6, .ref x7, .int 0])), (o1, .inl (ty 1, 1, .inr (.inl (fun _ => 0))))] sz)) (va_A [(x0, .inr (15, [.ref x1, .ref x8, .ref x20, .ref x39, .ref x41, .ref x43, .ref x45])), (x1, .inr (11, [.ref x2, .int 0, .ref x3, .int 0, .ref x4, .ref x5, .int 1, .ref x6, .ref x7, .int 0])), (o1, .inl (ty 1, 1, .inr (.inl (fun _ => 0))))] sz)) (vx_X (fun u : String × va_W => False) (wq_BX D (va_A [(x0, .inr (15, [.ref x1, .ref x8, .ref x20, .ref x39, .ref x41, .ref x43, .ref x45])), (x1, .inr (11, [.ref x2, .int 0, .ref x3, .int 0, .ref x4, .ref x5, .int 1, .ref x6, .ref x7, .int 0])), (o1, .inl (ty 1, 1, .inr (.inl (fun _ => 0))))] sz)) (va_A [(x0, .inr (15, [.ref x1, .ref x8, .ref x20, .ref x39, .ref x41, .ref x43, .ref x45])), (x1, .inr (11, [.ref x2, .int 0, .ref x3, .int 0, .ref x4, .ref x5, .int 1, .ref x6, .ref x7, .int 0])), (o1, .inl (ty 1, 1, .inr (.inl (fun _ => 0))))] sz)) 1 6 (va_A [(x0, .inr (15, [.ref x1, .ref x8, .ref x20, .ref x39, .ref x41, .ref x43, .ref x45])), (x1, .inr (11, [.ref x2, .int 0, .ref x3, .int 0, .ref x4, .ref x5, .int 1, .ref x6, .ref x7, .int 0])), (o1, .inl (ty 1, 1, .inr (.inl (fun _ => 0))))] sz) := by
  refine vx_ofWH (cc := cL_state) (maxL := 6) (ret := (some .int)) (hh := [(0, 12, 15, 31), (0, 12, 19, 13)]) (by decide) rfl ?_
  intro p e s m args below meth c s₁ B hml hv
  obtain ⟨rfl, hsz, hP, hK, hD0, hE⟩ := hv
  have hx := B.exec
  have hb := B.bytes
  have hr := B.returns
  have hts := atoms_spec (ws := vs_k_L_state) B.pre
  have hown : s.vm.findClass RL = some m.cls := findClass_of_methodNamed B.named
  have hlocks := B.notSynchronized
  have hTab := vx_table (x := yL_walk) B (hts _ List.mem_cons_self)
  subst hsz
  have hD := hD0.self (sz := s.heap.size)
  generalize hAe : va_A [(x0, .inr (15, [.ref x1, .ref x8, .ref x20, .ref x39, .ref x41, .ref x43, .ref x45])), (x1, .inr (11, [.ref x2, .int 0, .ref x3, .int 0, .ref x4, .ref x5, .int 1, .ref x6, .ref x7, .int 0])), (o1, .inl (ty 1, 1, .inr (.inl (fun _ => 0))))] s.heap.size = A at hD hE ⊢
  have hA : ∀ q : Nat, s.heap.size ≤ q → A q := fun q h => by rw [← hAe]; exact Or.inr h
  have hS : va_S A s.heap s.heap [] := va_S.rf
  have hP : va_P D vwCl [(x0, .inr (15, [.ref x1, .ref x8, .ref x20, .ref x39, .ref x41, .ref x43, .ref x45])), (x1, .inr (11, [.ref x2, .int 0, .ref x3, .int 0, .ref x4, .ref x5, .int 1, .ref x6, .ref x7, .int 0])), (o1, .inl (ty 1, 1, .inr (.inl (fun _ => 0))))] s.heap := hP
  have hl := lv_entry ([.ref x0, .int k1, .int k2, .int k3, .ref o1]) (n := 6) (Nat.le_of_ble_eq_true rfl)
  rw [lg_entry_eq]
  generalize (lg_sl ([.ref x0, .int k1, .int k2, .int k3, .ref o1]) ++ List.replicate (6 - (lg_sl ([.ref x0, .int k1, .int k2, .int k3, .ref o1])).length) Slot.unset).toArray = ls at hl ⊢
  have hl : lv_has ls 6 [(0, .ref x0), (1, .int k1), (2, .int k2), (3, .int k3), (4, .ref o1)] := hl
  refine lv_aload hx hb dL_state_0 (lv_at hl 4 rfl) ?_
  refine lv_iconst (v := 0) hx hb dL_state_2 (by decide) ?_
  refine lv_aload_n hx hb dL_state_3 rfl (lv_at hl 0 rfl) ?_
  refine lv_iload_n hx hb dL_state_4 rfl (lv_at hl 1 rfl) ?_
  refine lv_iload_n hx hb dL_state_5 rfl (lv_at hl 2 rfl) ?_
  refine lv_iload_n hx hb dL_state_6 rfl (lv_at hl 3 rfl) ?_
  refine wq_xi (wc := [(x0, .inr (15, [.ref x1, .ref x8, .ref x20, .ref x39, .ref x41, .ref x43, .ref x45])), (x1, .inr (11, [.ref x2, .int 0, .ref x3, .int 0, .ref x4, .ref x5, .int 1, .ref x6, .ref x7, .int 0]))]) (wr := [(o1, .inl (ty 1, 1, .inr (.inl (fun _ => 0))))]) (vx_runV (As := [.int k1, .int k2, .int k3]) (rest := [.int 0, .ref o1]) ⟨hx, hb, hml, hown, hts⟩ (k_X10_state l hl9 D ty td mi s.heap.size x0 x1 x8 x20 x39 x41 x43 x45 x2 x3 x4 x5 x6 x7 k1 k2 k3) (cwV 3 hts gv_k_L_state_0 rfl rfl rfl (by decide +kernel) ⟨(Nat.le_of_ble_eq_true rfl), (Nat.le_of_ble_eq_true rfl)⟩) (wq_preV hP hD hK hE hS hA [0, 1] rfl (by decide) 0 15 rfl rfl) rfl rfl hl.1 rfl (lv_room (Nat.le_of_ble_eq_true rfl)) dL_state_7 ⟨(Nat.le_of_ble_eq_true rfl), (Nat.le_of_ble_eq_true rfl)⟩) hS hA hP hD [0, 1] [2] rfl rfl (by decide) (by decide) (fun E9 u H locs q9 ce hw hP hD hS hce hcv hcl => ?_) (fun r u H locs hw hP hD hS => ?_)
  · have hEq := hw
    cases hEq
    have hP : va_P D vwCl [(o1, .inl (ty 1, 1, .inr (.inl (fun _ => 0))))] H := hP
    have hD : va_D A [(o1, .inl (ty 1, 1, .inr (.inl (fun _ => 0))))] := hD
    refine vx_widen (k := 1) (n := 6) (Nat.le_of_ble_eq_true rfl) (Nat.le_of_ble_eq_true rfl) ?_
    refine vx_catch (own := RL) (name := "java/lang/IndexOutOfBoundsException") (E := "java/lang/IndexOutOfBoundsException") hown [] ⟨0, 12, 15, 31⟩ [⟨0, 12, 19, 13⟩] (by rw [hTab]; rfl) (fun z hz => nomatch hz) (by decide) (by decide) (hts (.classLink RL 31 "java/lang/IndexOutOfBoundsException") (by decide +kernel)) (va_Nw.use rfl (hE.ca "java/lang/IndexOutOfBoundsException" "java/lang/IndexOutOfBoundsException" (by decide +kernel))) hce hcv hcl ?_
    refine lv_astore (lv' := [(5, .ref q9), (0, .ref x0), (1, .int k1), (2, .int k2), (3, .int k3), (4, .ref o1)]) hx hb dL_state_15 hl (by decide) rfl (fun ls hl => ?_)
    refine lv_iconst (v := 1) hx hb dL_state_17 (by decide) ?_
    have hP9 := hP.sub (ws' := [(o1, .inl (ty 1, 1, .inr (.inl (fun _ => 0))))]) [0] rfl
    have hD9 := hD.sub (ws' := [(o1, .inl (ty 1, 1, .inr (.inl (fun _ => 0))))]) [0] (by decide) rfl
    refine W.widen (k := 1) (n := 6) (Nat.le_of_ble_eq_true rfl) (Nat.le_of_ble_eq_true rfl) ?_
    refine vx_ret ?_
    exact W.iret (v := 1) hx hb hr (fun t ht hW => ⟨⟨1, [(o1, .inl (ty 1, 1, .inr (.inl (fun _ => 0))))], rfl, ⟨rfl, rfl⟩, wq_B.of ht hP9 hD9⟩, hS.F ht⟩) hS.2.2 dL_state_18
  · exact hw.elim
def vs_k_L_instances : List Cond := .codeWith yL_instances cL_instances 4 (some .int) [(0, 9, 12, 31)] :: ([.methodLink RL 63 yX10_instances, .instanceMethod yX10_instances, .selects RX10 yX10_instances yX10_instances, .initialized RX10, .classLink RL 31 "java/lang/IndexOutOfBoundsException"] ++ (vs_k_X10_instances))
set_option maxRecDepth 20000 in
theorem gv_k_L_instances_0 : GoodIn vs_k_L_instances (wsV RL 63 RX10 yX10_instances vs_k_X10_instances) := goodIn_app (goodIn_sub (by decide +kernel) (by decide +kernel)) (goodIn_sub (fun _ h => List.mem_cons_of_mem _ (List.mem_append_right _ (h))) (by decide +kernel))
set_option maxHeartbeats 4000000 in
set_option maxRecDepth 100000 in
theorem k_L_instances (l : Launch) (hl9 : l.stackTraces = false) (D : va_G) (ty : Nat → ClassId) (td mi sz : Nat) (x0 : Nat) (x1 : Nat) (x8 : Nat) (x20 : Nat) (x39 : Nat) (x41 : Nat) (x43 : Nat) (x45 : Nat) (x2 : Nat) (x3 : Nat) (x4 : Nat) (x5 : Nat) (x6 : Nat) (x7 : Nat) (o1 : Nat) (k1 : Int32) : vx_Met l yL_instances vs_k_L_instances { frames := 7, cells := 1, slots := 6, locals := 103 } (va_Pc [.ref x0, .int k1, .ref o1] (wq_P D ty td mi [(x0, .inr (15, [.ref x1, .ref x8, .ref x20, .ref x39, .ref x41, .ref x43, .ref x45])), (x1, .inr (11, [.ref x2, .int 0, .ref x3, .int 0, .ref x4, .ref x5, .int 1, .ref x6, .ref x7, .int 0])), (o1, .inl (ty 1, 1, .inr (.inl (fun _ => 0))))] sz)) (va_Qi (fun (r : Int32) (u : va_W) => (r = 1 ∧ (u = [(o1, .inl (ty 1, 1, .inr (.inl (fun _ => 0))))]))) (wq_B D (va_A [(x0, .inr (15, [.ref x1, .ref x8, .ref x20, .ref x39, .ref x41, .ref x43, .ref x45])), (x1, .inr (11, [.ref x2, .int 0, .ref x3, .int 0, .ref x4, .ref x5, .int 1, .ref x6, .ref x7, .int 0])), (o1, .inl (ty 1, 1, .inr (.inl (fun _ => 0))))] sz)) (va_A [(x0, .inr (15, [.ref x1, .ref x8, .ref x20, .ref x39, .ref x41, .ref x43, .ref x45])), (x1, .inr (11, [.ref x2, .int 0, .ref x3, .int 0, .ref x4, .ref x5, .int 1, .ref x6, .ref x7, .int 0])), (o1, .inl (ty 1, 1, .inr (.inl (fun _ => 0))))] sz)) (vx_X (fun u : String × va_W => False) (wq_BX D (va_A [(x0, .inr (15, [.ref x1, .ref x8, .ref x20, .ref x39, .ref x41, .ref x43, .ref x45])), (x1, .inr (11, [.ref x2, .int 0, .ref x3, .int 0, .ref x4, .ref x5, .int 1, .ref x6, .ref x7, .int 0])), (o1, .inl (ty 1, 1, .inr (.inl (fun _ => 0))))] sz)) (va_A [(x0, .inr (15, [.ref x1, .ref x8, .ref x20, .ref x39, .ref x41, .ref x43, .ref x45])), (x1, .inr (11, [.ref x2, .int 0, .ref x3, .int 0, .ref x4, .ref x5, .int 1, .ref x6, .ref x7, .int 0])), (o1, .inl (ty 1, 1, .inr (.inl (fun _ => 0))))] sz)) 1 6 (va_A [(x0, .inr (15, [.ref x1, .ref x8, .ref x20, .ref x39, .ref x41, .ref x43, .ref x45])), (x1, .inr (11, [.ref x2, .int 0, .ref x3, .int 0, .ref x4, .ref x5, .int 1, .ref x6, .ref x7, .int 0])), (o1, .inl (ty 1, 1, .inr (.inl (fun _ => 0))))] sz) := by
  refine vx_ofWH (cc := cL_instances) (maxL := 4) (ret := (some .int)) (hh := [(0, 9, 12, 31)]) (by decide) rfl ?_
  intro p e s m args below meth c s₁ B hml hv
  obtain ⟨rfl, hsz, hP, hK, hD0, hE⟩ := hv
  have hx := B.exec
  have hb := B.bytes
  have hr := B.returns
  have hts := atoms_spec (ws := vs_k_L_instances) B.pre
  have hown : s.vm.findClass RL = some m.cls := findClass_of_methodNamed B.named
  have hlocks := B.notSynchronized
  have hTab := vx_table (x := yL_walk) B (hts _ List.mem_cons_self)
  subst hsz
  have hD := hD0.self (sz := s.heap.size)
  generalize hAe : va_A [(x0, .inr (15, [.ref x1, .ref x8, .ref x20, .ref x39, .ref x41, .ref x43, .ref x45])), (x1, .inr (11, [.ref x2, .int 0, .ref x3, .int 0, .ref x4, .ref x5, .int 1, .ref x6, .ref x7, .int 0])), (o1, .inl (ty 1, 1, .inr (.inl (fun _ => 0))))] s.heap.size = A at hD hE ⊢
  have hA : ∀ q : Nat, s.heap.size ≤ q → A q := fun q h => by rw [← hAe]; exact Or.inr h
  have hS : va_S A s.heap s.heap [] := va_S.rf
  have hP : va_P D vwCl [(x0, .inr (15, [.ref x1, .ref x8, .ref x20, .ref x39, .ref x41, .ref x43, .ref x45])), (x1, .inr (11, [.ref x2, .int 0, .ref x3, .int 0, .ref x4, .ref x5, .int 1, .ref x6, .ref x7, .int 0])), (o1, .inl (ty 1, 1, .inr (.inl (fun _ => 0))))] s.heap := hP
  have hl := lv_entry ([.ref x0, .int k1, .ref o1]) (n := 4) (Nat.le_of_ble_eq_true rfl)
  rw [lg_entry_eq]
  generalize (lg_sl ([.ref x0, .int k1, .ref o1]) ++ List.replicate (4 - (lg_sl ([.ref x0, .int k1, .ref o1])).length) Slot.unset).toArray = ls at hl ⊢
  have hl : lv_has ls 4 [(0, .ref x0), (1, .int k1), (2, .ref o1)] := hl
  refine lv_aload_n hx hb dL_instances_0 rfl (lv_at hl 2 rfl) ?_
  refine lv_iconst (v := 0) hx hb dL_instances_1 (by decide) ?_
  refine lv_aload_n hx hb dL_instances_2 rfl (lv_at hl 0 rfl) ?_
  refine lv_iload_n hx hb dL_instances_3 rfl (lv_at hl 1 rfl) ?_
  refine wq_xi (wc := [(x0, .inr (15, [.ref x1, .ref x8, .ref x20, .ref x39, .ref x41, .ref x43, .ref x45])), (x1, .inr (11, [.ref x2, .int 0, .ref x3, .int 0, .ref x4, .ref x5, .int 1, .ref x6, .ref x7, .int 0]))]) (wr := [(o1, .inl (ty 1, 1, .inr (.inl (fun _ => 0))))]) (vx_runV (As := [.int k1]) (rest := [.int 0, .ref o1]) ⟨hx, hb, hml, hown, hts⟩ (k_X10_instances l hl9 D ty td mi s.heap.size x0 x1 x8 x20 x39 x41 x43 x45 x2 x3 x4 x5 x6 x7 k1) (cwV 1 hts gv_k_L_instances_0 rfl rfl rfl (by decide +kernel) ⟨(Nat.le_of_ble_eq_true rfl), (Nat.le_of_ble_eq_true rfl)⟩) (wq_preV hP hD hK hE hS hA [0, 1] rfl (by decide) 0 15 rfl rfl) rfl rfl hl.1 rfl (lv_room (Nat.le_of_ble_eq_true rfl)) dL_instances_4 ⟨(Nat.le_of_ble_eq_true rfl), (Nat.le_of_ble_eq_true rfl)⟩) hS hA hP hD [0, 1] [2] rfl rfl (by decide) (by decide) (fun E9 u H locs q9 ce hw hP hD hS hce hcv hcl => ?_) (fun r u H locs hw hP hD hS => ?_)
  · have hEq := hw
    cases hEq
    have hP : va_P D vwCl [(o1, .inl (ty 1, 1, .inr (.inl (fun _ => 0))))] H := hP
    have hD : va_D A [(o1, .inl (ty 1, 1, .inr (.inl (fun _ => 0))))] := hD
    refine vx_widen (k := 1) (n := 6) (Nat.le_of_ble_eq_true rfl) (Nat.le_of_ble_eq_true rfl) ?_
    refine vx_catch (own := RL) (name := "java/lang/IndexOutOfBoundsException") (E := "java/lang/IndexOutOfBoundsException") hown [] ⟨0, 9, 12, 31⟩ [] (by rw [hTab]; rfl) (fun z hz => nomatch hz) (by decide) (by decide) (hts (.classLink RL 31 "java/lang/IndexOutOfBoundsException") (by decide +kernel)) (va_Nw.use rfl (hE.ca "java/lang/IndexOutOfBoundsException" "java/lang/IndexOutOfBoundsException" (by decide +kernel))) hce hcv hcl ?_
    refine lv_astore_n (lv' := [(3, .ref q9), (0, .ref x0), (1, .int k1), (2, .ref o1)]) hx hb dL_instances_12 rfl hl (by decide) rfl (fun ls hl => ?_)
    refine lv_iconst (v := 1) hx hb dL_instances_13 (by decide) ?_
    have hP9 := hP.sub (ws' := [(o1, .inl (ty 1, 1, .inr (.inl (fun _ => 0))))]) [0] rfl
    have hD9 := hD.sub (ws' := [(o1, .inl (ty 1, 1, .inr (.inl (fun _ => 0))))]) [0] (by decide) rfl
    refine W.widen (k := 1) (n := 6) (Nat.le_of_ble_eq_true rfl) (Nat.le_of_ble_eq_true rfl) ?_
    refine vx_ret ?_
    exact W.iret (v := 1) hx hb hr (fun t ht hW => ⟨⟨1, [(o1, .inl (ty 1, 1, .inr (.inl (fun _ => 0))))], rfl, ⟨rfl, rfl⟩, wq_B.of ht hP9 hD9⟩, hS.F ht⟩) hS.2.2 dL_instances_14
  · exact hw.elim
def vs_k_L_has : List Cond := .codeWith yL_has cL_has 7 (some .int) [(0, 21, 24, 15), (0, 21, 28, 31), (0, 21, 32, 13)] :: ([.methodLink RL 78 yX10_has, .instanceMethod yX10_has, .selects RX10 yX10_has yX10_has, .initialized RX10, .classLink RL 15 "java/lang/IllegalStateException"] ++ (vs_k_X10_has))
set_option maxRecDepth 20000 in
theorem gv_k_L_has_0 : GoodIn vs_k_L_has (wsV RL 78 RX10 yX10_has vs_k_X10_has) := goodIn_app (goodIn_sub (by decide +kernel) (by decide +kernel)) (goodIn_sub (fun _ h => List.mem_cons_of_mem _ (List.mem_append_right _ (h))) (by decide +kernel))
set_option maxHeartbeats 4000000 in
set_option maxRecDepth 100000 in
theorem k_L_has (l : Launch) (hl9 : l.stackTraces = false) (D : va_G) (ty : Nat → ClassId) (td mi sz : Nat) (x0 : Nat) (x1 : Nat) (x8 : Nat) (x20 : Nat) (x39 : Nat) (x41 : Nat) (x43 : Nat) (x45 : Nat) (x46 : Nat) (x47 : Nat) (o1 : Nat) (k1 : Int32) (k2 : Int32) (k3 : Int32) (k4 : Int32) : vx_Met l yL_has vs_k_L_has { frames := 9, cells := 1, slots := 6, locals := 148 } (va_Pc [.ref x0, .int k1, .int k2, .int k3, .int k4, .ref o1] (wq_P D ty td mi [(x0, .inr (15, [.ref x1, .ref x8, .ref x20, .ref x39, .ref x41, .ref x43, .ref x45])), (x45, .inr (5, [.ref x46, .ref x47, .int 0, .int 0])), (o1, .inl (ty 1, 1, .inr (.inl (fun _ => 0))))] sz)) (va_Qi (fun (r : Int32) (u : va_W) => (r = 1 ∧ (u = [(o1, .inl (ty 1, 1, .inr (.inl (fun _ => 0))))]))) (wq_B D (va_A [(x0, .inr (15, [.ref x1, .ref x8, .ref x20, .ref x39, .ref x41, .ref x43, .ref x45])), (x45, .inr (5, [.ref x46, .ref x47, .int 0, .int 0])), (o1, .inl (ty 1, 1, .inr (.inl (fun _ => 0))))] sz)) (va_A [(x0, .inr (15, [.ref x1, .ref x8, .ref x20, .ref x39, .ref x41, .ref x43, .ref x45])), (x45, .inr (5, [.ref x46, .ref x47, .int 0, .int 0])), (o1, .inl (ty 1, 1, .inr (.inl (fun _ => 0))))] sz)) (vx_X (fun u : String × va_W => False) (wq_BX D (va_A [(x0, .inr (15, [.ref x1, .ref x8, .ref x20, .ref x39, .ref x41, .ref x43, .ref x45])), (x45, .inr (5, [.ref x46, .ref x47, .int 0, .int 0])), (o1, .inl (ty 1, 1, .inr (.inl (fun _ => 0))))] sz)) (va_A [(x0, .inr (15, [.ref x1, .ref x8, .ref x20, .ref x39, .ref x41, .ref x43, .ref x45])), (x45, .inr (5, [.ref x46, .ref x47, .int 0, .int 0])), (o1, .inl (ty 1, 1, .inr (.inl (fun _ => 0))))] sz)) 1 6 (va_A [(x0, .inr (15, [.ref x1, .ref x8, .ref x20, .ref x39, .ref x41, .ref x43, .ref x45])), (x45, .inr (5, [.ref x46, .ref x47, .int 0, .int 0])), (o1, .inl (ty 1, 1, .inr (.inl (fun _ => 0))))] sz) := by
  refine vx_ofWH (cc := cL_has) (maxL := 7) (ret := (some .int)) (hh := [(0, 21, 24, 15), (0, 21, 28, 31), (0, 21, 32, 13)]) (by decide) rfl ?_
  intro p e s m args below meth c s₁ B hml hv
  obtain ⟨rfl, hsz, hP, hK, hD0, hE⟩ := hv
  have hx := B.exec
  have hb := B.bytes
  have hr := B.returns
  have hts := atoms_spec (ws := vs_k_L_has) B.pre
  have hown : s.vm.findClass RL = some m.cls := findClass_of_methodNamed B.named
  have hlocks := B.notSynchronized
  have hTab := vx_table (x := yL_walk) B (hts _ List.mem_cons_self)
  subst hsz
  have hD := hD0.self (sz := s.heap.size)
  generalize hAe : va_A [(x0, .inr (15, [.ref x1, .ref x8, .ref x20, .ref x39, .ref x41, .ref x43, .ref x45])), (x45, .inr (5, [.ref x46, .ref x47, .int 0, .int 0])), (o1, .inl (ty 1, 1, .inr (.inl (fun _ => 0))))] s.heap.size = A at hD hE ⊢
  have hA : ∀ q : Nat, s.heap.size ≤ q → A q := fun q h => by rw [← hAe]; exact Or.inr h
  have hS : va_S A s.heap s.heap [] := va_S.rf
  have hP : va_P D vwCl [(x0, .inr (15, [.ref x1, .ref x8, .ref x20, .ref x39, .ref x41, .ref x43, .ref x45])), (x45, .inr (5, [.ref x46, .ref x47, .int 0, .int 0])), (o1, .inl (ty 1, 1, .inr (.inl (fun _ => 0))))] s.heap := hP
  have hl := lv_entry ([.ref x0, .int k1, .int k2, .int k3, .int k4, .ref o1]) (n := 7) (Nat.le_of_ble_eq_true rfl)
  rw [lg_entry_eq]
  generalize (lg_sl ([.ref x0, .int k1, .int k2, .int k3, .int k4, .ref o1]) ++ List.replicate (7 - (lg_sl ([.ref x0, .int k1, .int k2, .int k3, .int k4, .ref o1])).length) Slot.unset).toArray = ls at hl ⊢
  have hl : lv_has ls 7 [(0, .ref x0), (1, .int k1), (2, .int k2), (3, .int k3), (4, .int k4), (5, .ref o1)] := hl
  refine lv_aload hx hb dL_has_0 (lv_at hl 5 rfl) ?_
  refine lv_iconst (v := 0) hx hb dL_has_2 (by decide) ?_
  refine lv_aload_n hx hb dL_has_3 rfl (lv_at hl 0 rfl) ?_
  refine lv_iload_n hx hb dL_has_4 rfl (lv_at hl 1 rfl) ?_
  refine lv_iload_n hx hb dL_has_5 rfl (lv_at hl 2 rfl) ?_
  refine lv_iload_n hx hb dL_has_6 rfl (lv_at hl 3 rfl) ?_
  refine lv_iload hx hb dL_has_7 (lv_at hl 4 rfl) ?_
  refine wq_xi (wc := [(x0, .inr (15, [.ref x1, .ref x8, .ref x20, .ref x39, .ref x41, .ref x43, .ref x45])), (x45, .inr (5, [.ref x46, .ref x47, .int 0, .int 0]))]) (wr := [(o1, .inl (ty 1, 1, .inr (.inl (fun _ => 0))))]) (vx_runV (As := [.int k1, .int k2, .int k3, .int k4]) (rest := [.int 0, .ref o1]) ⟨hx, hb, hml, hown, hts⟩ (k_X10_has l hl9 D ty td mi s.heap.size x0 x1 x8 x20 x39 x41 x43 x45 x46 x47 k1 k2 k3 k4) (cwV 4 hts gv_k_L_has_0 rfl rfl rfl (by decide +kernel) ⟨(Nat.le_of_ble_eq_true rfl), (Nat.le_of_ble_eq_true rfl)⟩) (wq_preV hP hD hK hE hS hA [0, 1] rfl (by decide) 0 15 rfl rfl) rfl rfl hl.1 rfl (lv_room (Nat.le_of_ble_eq_true rfl)) dL_has_9 ⟨(Nat.le_of_ble_eq_true rfl), (Nat.le_of_ble_eq_true rfl)⟩) hS hA hP hD [0, 1] [2] rfl rfl (by decide) (by decide) (fun E9 u H locs q9 ce hw hP hD hS hce hcv hcl => ?_) (fun r u H locs hw hP hD hS => ?_)
  · have hEq := hw
    cases hEq
    have hP : va_P D vwCl [(o1, .inl (ty 1, 1, .inr (.inl (fun _ => 0))))] H := hP
    have hD : va_D A [(o1, .inl (ty 1, 1, .inr (.inl (fun _ => 0))))] := hD
    refine vx_widen (k := 1) (n := 6) (Nat.le_of_ble_eq_true rfl) (Nat.le_of_ble_eq_true rfl) ?_
    refine vx_catch (own := RL) (name := "java/lang/IllegalStateException") (E := "java/lang/IllegalStateException") hown [] ⟨0, 21, 24, 15⟩ [⟨0, 21, 28, 31⟩, ⟨0, 21, 32, 13⟩] (by rw [hTab]; rfl) (fun z hz => nomatch hz) (by decide) (by decide) (hts (.classLink RL 15 "java/lang/IllegalStateException") (by decide +kernel)) (va_Nw.use rfl (hE.ca "java/lang/IllegalStateException" "java/lang/IllegalStateException" (by decide +kernel))) hce hcv hcl ?_
    refine lv_astore (lv' := [(6, .ref q9), (0, .ref x0), (1, .int k1), (2, .int k2), (3, .int k3), (4, .int k4), (5, .ref o1)]) hx hb dL_has_24 hl (by decide) rfl (fun ls hl => ?_)
    refine lv_iconst (v := 1) hx hb dL_has_26 (by decide) ?_
    have hP9 := hP.sub (ws' := [(o1, .inl (ty 1, 1, .inr (.inl (fun _ => 0))))]) [0] rfl
    have hD9 := hD.sub (ws' := [(o1, .inl (ty 1, 1, .inr (.inl (fun _ => 0))))]) [0] (by decide) rfl
    refine W.widen (k := 1) (n := 6) (Nat.le_of_ble_eq_true rfl) (Nat.le_of_ble_eq_true rfl) ?_
    refine vx_ret ?_
    exact W.iret (v := 1) hx hb hr (fun t ht hW => ⟨⟨1, [(o1, .inl (ty 1, 1, .inr (.inl (fun _ => 0))))], rfl, ⟨rfl, rfl⟩, wq_B.of ht hP9 hD9⟩, hS.F ht⟩) hS.2.2 dL_has_27
  · exact hw.elim
def vs_k_L_size : List Cond := .codeWith yL_size cL_size 4 (some .int) [(0, 9, 12, 15), (0, 9, 15, 31)] :: ([.methodLink RL 82 yX10_size, .instanceMethod yX10_size, .selects RX10 yX10_size yX10_size, .initialized RX10, .classLink RL 15 "java/lang/IllegalStateException"] ++ (vs_k_X10_size))
set_option maxRecDepth 20000 in
theorem gv_k_L_size_0 : GoodIn vs_k_L_size (wsV RL 82 RX10 yX10_size vs_k_X10_size) := goodIn_app (goodIn_sub (by decide +kernel) (by decide +kernel)) (goodIn_sub (fun _ h => List.mem_cons_of_mem _ (List.mem_append_right _ (h))) (by decide +kernel))
set_option maxHeartbeats 4000000 in
set_option maxRecDepth 100000 in
theorem k_L_size (l : Launch) (hl9 : l.stackTraces = false) (D : va_G) (ty : Nat → ClassId) (td mi sz : Nat) (x0 : Nat) (x1 : Nat) (x8 : Nat) (x20 : Nat) (x39 : Nat) (x41 : Nat) (x43 : Nat) (x45 : Nat) (x46 : Nat) (x47 : Nat) (o1 : Nat) (k1 : Int32) : vx_Met l yL_size vs_k_L_size { frames := 9, cells := 1, slots := 6, locals := 144 } (va_Pc [.ref x0, .int k1, .ref o1] (wq_P D ty td mi [(x0, .inr (15, [.ref x1, .ref x8, .ref x20, .ref x39, .ref x41, .ref x43, .ref x45])), (x45, .inr (5, [.ref x46, .ref x47, .int 0, .int 0])), (o1, .inl (ty 1, 1, .inr (.inl (fun _ => 0))))] sz)) (va_Qi (fun (r : Int32) (u : va_W) => (r = 1 ∧ (u = [(o1, .inl (ty 1, 1, .inr (.inl (fun _ => 0))))]))) (wq_B D (va_A [(x0, .inr (15, [.ref x1, .ref x8, .ref x20, .ref x39, .ref x41, .ref x43, .ref x45])), (x45, .inr (5, [.ref x46, .ref x47, .int 0, .int 0])), (o1, .inl (ty 1, 1, .inr (.inl (fun _ => 0))))] sz)) (va_A [(x0, .inr (15, [.ref x1, .ref x8, .ref x20, .ref x39, .ref x41, .ref x43, .ref x45])), (x45, .inr (5, [.ref x46, .ref x47, .int 0, .int 0])), (o1, .inl (ty 1, 1, .inr (.inl (fun _ => 0))))] sz)) (vx_X (fun u : String × va_W => False) (wq_BX D (va_A [(x0, .inr (15, [.ref x1, .ref x8, .ref x20, .ref x39, .ref x41, .ref x43, .ref x45])), (x45, .inr (5, [.ref x46, .ref x47, .int 0, .int 0])), (o1, .inl (ty 1, 1, .inr (.inl (fun _ => 0))))] sz)) (va_A [(x0, .inr (15, [.ref x1, .ref x8, .ref x20, .ref x39, .ref x41, .ref x43, .ref x45])), (x45, .inr (5, [.ref x46, .ref x47, .int 0, .int 0])), (o1, .inl (ty 1, 1, .inr (.inl (fun _ => 0))))] sz)) 1 6 (va_A [(x0, .inr (15, [.ref x1, .ref x8, .ref x20, .ref x39, .ref x41, .ref x43, .ref x45])), (x45, .inr (5, [.ref x46, .ref x47, .int 0, .int 0])), (o1, .inl (ty 1, 1, .inr (.inl (fun _ => 0))))] sz) := by
  refine vx_ofWH (cc := cL_size) (maxL := 4) (ret := (some .int)) (hh := [(0, 9, 12, 15), (0, 9, 15, 31)]) (by decide) rfl ?_
  intro p e s m args below meth c s₁ B hml hv
  obtain ⟨rfl, hsz, hP, hK, hD0, hE⟩ := hv
  have hx := B.exec
  have hb := B.bytes
  have hr := B.returns
  have hts := atoms_spec (ws := vs_k_L_size) B.pre
  have hown : s.vm.findClass RL = some m.cls := findClass_of_methodNamed B.named
  have hlocks := B.notSynchronized
  have hTab := vx_table (x := yL_walk) B (hts _ List.mem_cons_self)
  subst hsz
  have hD := hD0.self (sz := s.heap.size)
  generalize hAe : va_A [(x0, .inr (15, [.ref x1, .ref x8, .ref x20, .ref x39, .ref x41, .ref x43, .ref x45])), (x45, .inr (5, [.ref x46, .ref x47, .int 0, .int 0])), (o1, .inl (ty 1, 1, .inr (.inl (fun _ => 0))))] s.heap.size = A at hD hE ⊢
  have hA : ∀ q : Nat, s.heap.size ≤ q → A q := fun q h => by rw [← hAe]; exact Or.inr h
  have hS : va_S A s.heap s.heap [] := va_S.rf
  have hP : va_P D vwCl [(x0, .inr (15, [.ref x1, .ref x8, .ref x20, .ref x39, .ref x41, .ref x43, .ref x45])), (x45, .inr (5, [.ref x46, .ref x47, .int 0, .int 0])), (o1, .inl (ty 1, 1, .inr (.inl (fun _ => 0))))] s.heap := hP
  have hl := lv_entry ([.ref x0, .int k1, .ref o1]) (n := 4) (Nat.le_of_ble_eq_true rfl)
  rw [lg_entry_eq]
  generalize (lg_sl ([.ref x0, .int k1, .ref o1]) ++ List.replicate (4 - (lg_sl ([.ref x0, .int k1, .ref o1])).length) Slot.unset).toArray = ls at hl ⊢
  have hl : lv_has ls 4 [(0, .ref x0), (1, .int k1), (2, .ref o1)] := hl
  refine lv_aload_n hx hb dL_size_0 rfl (lv_at hl 2 rfl) ?_
  refine lv_iconst (v := 0) hx hb dL_size_1 (by decide) ?_
  refine lv_aload_n hx hb dL_size_2 rfl (lv_at hl 0 rfl) ?_
  refine lv_iload_n hx hb dL_size_3 rfl (lv_at hl 1 rfl) ?_
  refine wq_xi (wc := [(x0, .inr (15, [.ref x1, .ref x8, .ref x20, .ref x39, .ref x41, .ref x43, .ref x45])), (x45, .inr (5, [.ref x46, .ref x47, .int 0, .int 0]))]) (wr := [(o1, .inl (ty 1, 1, .inr (.inl (fun _ => 0))))]) (vx_runV (As := [.int k1]) (rest := [.int 0, .ref o1]) ⟨hx, hb, hml, hown, hts⟩ (k_X10_size l hl9 D ty td mi s.heap.size x0 x1 x8 x20 x39 x41 x43 x45 x46 x47 k1) (cwV 1 hts gv_k_L_size_0 rfl rfl rfl (by decide +kernel) ⟨(Nat.le_of_ble_eq_true rfl), (Nat.le_of_ble_eq_true rfl)⟩) (wq_preV hP hD hK hE hS hA [0, 1] rfl (by decide) 0 15 rfl rfl) rfl rfl hl.1 rfl (lv_room (Nat.le_of_ble_eq_true rfl)) dL_size_4 ⟨(Nat.le_of_ble_eq_true rfl), (Nat.le_of_ble_eq_true rfl)⟩) hS hA hP hD [0, 1] [2] rfl rfl (by decide) (by decide) (fun E9 u H locs q9 ce hw hP hD hS hce hcv hcl => ?_) (fun r u H locs hw hP hD hS => ?_)
  · have hEq := hw
    cases hEq
    have hP : va_P D vwCl [(o1, .inl (ty 1, 1, .inr (.inl (fun _ => 0))))] H := hP
    have hD : va_D A [(o1, .inl (ty 1, 1, .inr (.inl (fun _ => 0))))] := hD
    refine vx_widen (k := 1) (n := 6) (Nat.le_of_ble_eq_true rfl) (Nat.le_of_ble_eq_true rfl) ?_
    refine vx_catch (own := RL) (name := "java/lang/IllegalStateException") (E := "java/lang/IllegalStateException") hown [] ⟨0, 9, 12, 15⟩ [⟨0, 9, 15, 31⟩] (by rw [hTab]; rfl) (fun z hz => nomatch hz) (by decide) (by decide) (hts (.classLink RL 15 "java/lang/IllegalStateException") (by decide +kernel)) (va_Nw.use rfl (hE.ca "java/lang/IllegalStateException" "java/lang/IllegalStateException" (by decide +kernel))) hce hcv hcl ?_
    refine lv_astore_n (lv' := [(3, .ref q9), (0, .ref x0), (1, .int k1), (2, .ref o1)]) hx hb dL_size_12 rfl hl (by decide) rfl (fun ls hl => ?_)
    refine lv_iconst (v := 1) hx hb dL_size_13 (by decide) ?_
    have hP9 := hP.sub (ws' := [(o1, .inl (ty 1, 1, .inr (.inl (fun _ => 0))))]) [0] rfl
    have hD9 := hD.sub (ws' := [(o1, .inl (ty 1, 1, .inr (.inl (fun _ => 0))))]) [0] (by decide) rfl
    refine W.widen (k := 1) (n := 6) (Nat.le_of_ble_eq_true rfl) (Nat.le_of_ble_eq_true rfl) ?_
    refine vx_ret ?_
    exact W.iret (v := 1) hx hb hr (fun t ht hW => ⟨⟨1, [(o1, .inl (ty 1, 1, .inr (.inl (fun _ => 0))))], rfl, ⟨rfl, rfl⟩, wq_B.of ht hP9 hD9⟩, hS.F ht⟩) hS.2.2 dL_size_14
  · exact hw.elim
def vs_k_L_cost : List Cond := .codeWith yL_cost cL_cost 5 (some .int) [(0, 9, 12, 15), (0, 9, 16, 31), (0, 9, 20, 13)] :: ([.methodLink RL 85 yX10_cost, .instanceMethod yX10_cost, .selects RX10 yX10_cost yX10_cost, .initialized RX10, .classLink RL 15 "java/lang/IllegalStateException"] ++ (vs_k_X10_cost))
set_option maxRecDepth 20000 in
theorem gv_k_L_cost_0 : GoodIn vs_k_L_cost (wsV RL 85 RX10 yX10_cost vs_k_X10_cost) := goodIn_app (goodIn_sub (by decide +kernel) (by decide +kernel)) (goodIn_sub (fun _ h => List.mem_cons_of_mem _ (List.mem_append_right _ (h))) (by decide +kernel))
set_option maxHeartbeats 4000000 in
set_option maxRecDepth 100000 in
theorem k_L_cost (l : Launch) (hl9 : l.stackTraces = false) (D : va_G) (ty : Nat → ClassId) (td mi sz : Nat) (x0 : Nat) (x1 : Nat) (x8 : Nat) (x20 : Nat) (x39 : Nat) (x41 : Nat) (x43 : Nat) (x45 : Nat) (x46 : Nat) (x47 : Nat) (o1 : Nat) (k1 : Int32) (k2 : Int32) : vx_Met l yL_cost vs_k_L_cost { frames := 9, cells := 1, slots := 6, locals := 145 } (va_Pc [.ref x0, .int k1, .int k2, .ref o1] (wq_P D ty td mi [(x0, .inr (15, [.ref x1, .ref x8, .ref x20, .ref x39, .ref x41, .ref x43, .ref x45])), (x45, .inr (5, [.ref x46, .ref x47, .int 0, .int 0])), (o1, .inl (ty 1, 1, .inr (.inl (fun _ => 0))))] sz)) (va_Qi (fun (r : Int32) (u : va_W) => (r = 1 ∧ (u = [(o1, .inl (ty 1, 1, .inr (.inl (fun _ => 0))))]))) (wq_B D (va_A [(x0, .inr (15, [.ref x1, .ref x8, .ref x20, .ref x39, .ref x41, .ref x43, .ref x45])), (x45, .inr (5, [.ref x46, .ref x47, .int 0, .int 0])), (o1, .inl (ty 1, 1, .inr (.inl (fun _ => 0))))] sz)) (va_A [(x0, .inr (15, [.ref x1, .ref x8, .ref x20, .ref x39, .ref x41, .ref x43, .ref x45])), (x45, .inr (5, [.ref x46, .ref x47, .int 0, .int 0])), (o1, .inl (ty 1, 1, .inr (.inl (fun _ => 0))))] sz)) (vx_X (fun u : String × va_W => False) (wq_BX D (va_A [(x0, .inr (15, [.ref x1, .ref x8, .ref x20, .ref x39, .ref x41, .ref x43, .ref x45])), (x45, .inr (5, [.ref x46, .ref x47, .int 0, .int 0])), (o1, .inl (ty 1, 1, .inr (.inl (fun _ => 0))))] sz)) (va_A [(x0, .inr (15, [.ref x1, .ref x8, .ref x20, .ref x39, .ref x41, .ref x43, .ref x45])), (x45, .inr (5, [.ref x46, .ref x47, .int 0, .int 0])), (o1, .inl (ty 1, 1, .inr (.inl (fun _ => 0))))] sz)) 1 6 (va_A [(x0, .inr (15, [.ref x1, .ref x8, .ref x20, .ref x39, .ref x41, .ref x43, .ref x45])), (x45, .inr (5, [.ref x46, .ref x47, .int 0, .int 0])), (o1, .inl (ty 1, 1, .inr (.inl (fun _ => 0))))] sz) := by
  refine vx_ofWH (cc := cL_cost) (maxL := 5) (ret := (some .int)) (hh := [(0, 9, 12, 15), (0, 9, 16, 31), (0, 9, 20, 13)]) (by decide) rfl ?_
  intro p e s m args below meth c s₁ B hml hv
  obtain ⟨rfl, hsz, hP, hK, hD0, hE⟩ := hv
  have hx := B.exec
  have hb := B.bytes
  have hr := B.returns
  have hts := atoms_spec (ws := vs_k_L_cost) B.pre
  have hown : s.vm.findClass RL = some m.cls := findClass_of_methodNamed B.named
  have hlocks := B.notSynchronized
  have hTab := vx_table (x := yL_walk) B (hts _ List.mem_cons_self)
  subst hsz
  have hD := hD0.self (sz := s.heap.size)
  generalize hAe : va_A [(x0, .inr (15, [.ref x1, .ref x8, .ref x20, .ref x39, .ref x41, .ref x43, .ref x45])), (x45, .inr (5, [.ref x46, .ref x47, .int 0, .int 0])), (o1, .inl (ty 1, 1, .inr (.inl (fun _ => 0))))] s.heap.size = A at hD hE ⊢
  have hA : ∀ q : Nat, s.heap.size ≤ q → A q := fun q h => by rw [← hAe]; exact Or.inr h
  have hS : va_S A s.heap s.heap [] := va_S.rf
  have hP : va_P D vwCl [(x0, .inr (15, [.ref x1, .ref x8, .ref x20, .ref x39, .ref x41, .ref x43, .ref x45])), (x45, .inr (5, [.ref x46, .ref x47, .int 0, .int 0])), (o1, .inl (ty 1, 1, .inr (.inl (fun _ => 0))))] s.heap := hP
  have hl := lv_entry ([.ref x0, .int k1, .int k2, .ref o1]) (n := 5) (Nat.le_of_ble_eq_true rfl)
  rw [lg_entry_eq]
  generalize (lg_sl ([.ref x0, .int k1, .int k2, .ref o1]) ++ List.replicate (5 - (lg_sl ([.ref x0, .int k1, .int k2, .ref o1])).length) Slot.unset).toArray = ls at hl ⊢
  have hl : lv_has ls 5 [(0, .ref x0), (1, .int k1), (2, .int k2), (3, .ref o1)] := hl
  refine lv_aload_n hx hb dL_cost_0 rfl (lv_at hl 3 rfl) ?_
  refine lv_iconst (v := 0) hx hb dL_cost_1 (by decide) ?_
  refine lv_aload_n hx hb dL_cost_2 rfl (lv_at hl 0 rfl) ?_
  refine lv_iload_n hx hb dL_cost_3 rfl (lv_at hl 1 rfl) ?_
  refine lv_iload_n hx hb dL_cost_4 rfl (lv_at hl 2 rfl) ?_
  refine wq_xl (wc := [(x0, .inr (15, [.ref x1, .ref x8, .ref x20, .ref x39, .ref x41, .ref x43, .ref x45])), (x45, .inr (5, [.ref x46, .ref x47, .int 0, .int 0]))]) (wr := [(o1, .inl (ty 1, 1, .inr (.inl (fun _ => 0))))]) (vx_runV (As := [.int k1, .int k2]) (rest := [.int 0, .ref o1]) ⟨hx, hb, hml, hown, hts⟩ (k_X10_cost l hl9 D ty td mi s.heap.size x0 x1 x8 x20 x39 x41 x43 x45 x46 x47 k1 k2) (cwV 2 hts gv_k_L_cost_0 rfl rfl rfl (by decide +kernel) ⟨(Nat.le_of_ble_eq_true rfl), (Nat.le_of_ble_eq_true rfl)⟩) (wq_preV hP hD hK hE hS hA [0, 1] rfl (by decide) 0 15 rfl rfl) rfl rfl hl.1 rfl (lv_room (Nat.le_of_ble_eq_true rfl)) dL_cost_5 ⟨(Nat.le_of_ble_eq_true rfl), (Nat.le_of_ble_eq_true rfl)⟩) hS hA hP hD [0, 1] [2] rfl rfl (by decide) (by decide) (fun E9 u H locs q9 ce hw hP hD hS hce hcv hcl => ?_) (fun r u H locs hw hP hD hS => ?_)
  · have hEq := hw
    cases hEq
    have hP : va_P D vwCl [(o1, .inl (ty 1, 1, .inr (.inl (fun _ => 0))))] H := hP
    have hD : va_D A [(o1, .inl (ty 1, 1, .inr (.inl (fun _ => 0))))] := hD
    refine vx_widen (k := 1) (n := 6) (Nat.le_of_ble_eq_true rfl) (Nat.le_of_ble_eq_true rfl) ?_
    refine vx_catch (own := RL) (name := "java/lang/IllegalStateException") (E := "java/lang/IllegalStateException") hown [] ⟨0, 9, 12, 15⟩ [⟨0, 9, 16, 31⟩, ⟨0, 9, 20, 13⟩] (by rw [hTab]; rfl) (fun z hz => nomatch hz) (by decide) (by decide) (hts (.classLink RL 15 "java/lang/IllegalStateException") (by decide +kernel)) (va_Nw.use rfl (hE.ca "java/lang/IllegalStateException" "java/lang/IllegalStateException" (by decide +kernel))) hce hcv hcl ?_
    refine lv_astore (lv' := [(4, .ref q9), (0, .ref x0), (1, .int k1), (2, .int k2), (3, .ref o1)]) hx hb dL_cost_12 hl (by decide) rfl (fun ls hl => ?_)
    refine lv_iconst (v := 1) hx hb dL_cost_14 (by decide) ?_
    have hP9 := hP.sub (ws' := [(o1, .inl (ty 1, 1, .inr (.inl (fun _ => 0))))]) [0] rfl
    have hD9 := hD.sub (ws' := [(o1, .inl (ty 1, 1, .inr (.inl (fun _ => 0))))]) [0] (by decide) rfl
    refine W.widen (k := 1) (n := 6) (Nat.le_of_ble_eq_true rfl) (Nat.le_of_ble_eq_true rfl) ?_
    refine vx_ret ?_
    exact W.iret (v := 1) hx hb hr (fun t ht hW => ⟨⟨1, [(o1, .inl (ty 1, 1, .inr (.inl (fun _ => 0))))], rfl, ⟨rfl, rfl⟩, wq_B.of ht hP9 hD9⟩, hS.F ht⟩) hS.2.2 dL_cost_15
  · exact hw.elim
def vs_k_L_best : List Cond := .codeWith yL_best cL_best 3 (some .int) [(0, 8, 11, 15)] :: ([.methodLink RL 89 yX10_best, .instanceMethod yX10_best, .selects RX10 yX10_best yX10_best, .initialized RX10, .classLink RL 15 "java/lang/IllegalStateException"] ++ (vs_k_X10_best))
set_option maxRecDepth 20000 in
theorem gv_k_L_best_0 : GoodIn vs_k_L_best (wsV RL 89 RX10 yX10_best vs_k_X10_best) := goodIn_app (goodIn_sub (by decide +kernel) (by decide +kernel)) (goodIn_sub (fun _ h => List.mem_cons_of_mem _ (List.mem_append_right _ (h))) (by decide +kernel))
set_option maxHeartbeats 4000000 in
set_option maxRecDepth 100000 in
theorem k_L_best (l : Launch) (hl9 : l.stackTraces = false) (D : va_G) (ty : Nat → ClassId) (td mi sz : Nat) (x0 : Nat) (x1 : Nat) (x8 : Nat) (x20 : Nat) (x39 : Nat) (x41 : Nat) (x43 : Nat) (x45 : Nat) (x46 : Nat) (x47 : Nat) (o1 : Nat) : vx_Met l yL_best vs_k_L_best { frames := 8, cells := 1, slots := 6, locals := 122 } (va_Pc [.ref x0, .ref o1] (wq_P D ty td mi [(x0, .inr (15, [.ref x1, .ref x8, .ref x20, .ref x39, .ref x41, .ref x43, .ref x45])), (x45, .inr (5, [.ref x46, .ref x47, .int 0, .int 0])), (o1, .inl (ty 1, 1, .inr (.inl (fun _ => 0))))] sz)) (va_Qi (fun (r : Int32) (u : va_W) => (r = 1 ∧ (u = [(o1, .inl (ty 1, 1, .inr (.inl (fun _ => 0))))]))) (wq_B D (va_A [(x0, .inr (15, [.ref x1, .ref x8, .ref x20, .ref x39, .ref x41, .ref x43, .ref x45])), (x45, .inr (5, [.ref x46, .ref x47, .int 0, .int 0])), (o1, .inl (ty 1, 1, .inr (.inl (fun _ => 0))))] sz)) (va_A [(x0, .inr (15, [.ref x1, .ref x8, .ref x20, .ref x39, .ref x41, .ref x43, .ref x45])), (x45, .inr (5, [.ref x46, .ref x47, .int 0, .int 0])), (o1, .inl (ty 1, 1, .inr (.inl (fun _ => 0))))] sz)) (vx_X (fun u : String × va_W => False) (wq_BX D (va_A [(x0, .inr (15, [.ref x1, .ref x8, .ref x20, .ref x39, .ref x41, .ref x43, .ref x45])), (x45, .inr (5, [.ref x46, .ref x47, .int 0, .int 0])), (o1, .inl (ty 1, 1, .inr (.inl (fun _ => 0))))] sz)) (va_A [(x0, .inr (15, [.ref x1, .ref x8, .ref x20, .ref x39, .ref x41, .ref x43, .ref x45])), (x45, .inr (5, [.ref x46, .ref x47, .int 0, .int 0])), (o1, .inl (ty 1, 1, .inr (.inl (fun _ => 0))))] sz)) 1 6 (va_A [(x0, .inr (15, [.ref x1, .ref x8, .ref x20, .ref x39, .ref x41, .ref x43, .ref x45])), (x45, .inr (5, [.ref x46, .ref x47, .int 0, .int 0])), (o1, .inl (ty 1, 1, .inr (.inl (fun _ => 0))))] sz) := by
  refine vx_ofWH (cc := cL_best) (maxL := 3) (ret := (some .int)) (hh := [(0, 8, 11, 15)]) (by decide) rfl ?_
  intro p e s m args below meth c s₁ B hml hv
  obtain ⟨rfl, hsz, hP, hK, hD0, hE⟩ := hv
  have hx := B.exec
  have hb := B.bytes
  have hr := B.returns
  have hts := atoms_spec (ws := vs_k_L_best) B.pre
  have hown : s.vm.findClass RL = some m.cls := findClass_of_methodNamed B.named
  have hlocks := B.notSynchronized
  have hTab := vx_table (x := yL_walk) B (hts _ List.mem_cons_self)
  subst hsz
  have hD := hD0.self (sz := s.heap.size)
  generalize hAe : va_A [(x0, .inr (15, [.ref x1, .ref x8, .ref x20, .ref x39, .ref x41, .ref x43, .ref x45])), (x45, .inr (5, [.ref x46, .ref x47, .int 0, .int 0])), (o1, .inl (ty 1, 1, .inr (.inl (fun _ => 0))))] s.heap.size = A at hD hE ⊢
  have hA : ∀ q : Nat, s.heap.size ≤ q → A q := fun q h => by rw [← hAe]; exact Or.inr h
  have hS : va_S A s.heap s.heap [] := va_S.rf
  have hP : va_P D vwCl [(x0, .inr (15, [.ref x1, .ref x8, .ref x20, .ref x39, .ref x41, .ref x43, .ref x45])), (x45, .inr (5, [.ref x46, .ref x47, .int 0, .int 0])), (o1, .inl (ty 1, 1, .inr (.inl (fun _ => 0))))] s.heap := hP
  have hl := lv_entry ([.ref x0, .ref o1]) (n := 3) (Nat.le_of_ble_eq_true rfl)
  rw [lg_entry_eq]
  generalize (lg_sl ([.ref x0, .ref o1]) ++ List.replicate (3 - (lg_sl ([.ref x0, .ref o1])).length) Slot.unset).toArray = ls at hl ⊢
  have hl : lv_has ls 3 [(0, .ref x0), (1, .ref o1)] := hl
  refine lv_aload_n hx hb dL_best_0 rfl (lv_at hl 1 rfl) ?_
  refine lv_iconst (v := 0) hx hb dL_best_1 (by decide) ?_
  refine lv_aload_n hx hb dL_best_2 rfl (lv_at hl 0 rfl) ?_
  refine wq_xi (wc := [(x0, .inr (15, [.ref x1, .ref x8, .ref x20, .ref x39, .ref x41, .ref x43, .ref x45])), (x45, .inr (5, [.ref x46, .ref x47, .int 0, .int 0]))]) (wr := [(o1, .inl (ty 1, 1, .inr (.inl (fun _ => 0))))]) (vx_runV (As := []) (rest := [.int 0, .ref o1]) ⟨hx, hb, hml, hown, hts⟩ (k_X10_best l hl9 D ty td mi s.heap.size x0 x1 x8 x20 x39 x41 x43 x45 x46 x47) (cwV 0 hts gv_k_L_best_0 rfl rfl rfl (by decide +kernel) ⟨(Nat.le_of_ble_eq_true rfl), (Nat.le_of_ble_eq_true rfl)⟩) (wq_preV hP hD hK hE hS hA [0, 1] rfl (by decide) 0 15 rfl rfl) rfl rfl hl.1 rfl (lv_room (Nat.le_of_ble_eq_true rfl)) dL_best_3 ⟨(Nat.le_of_ble_eq_true rfl), (Nat.le_of_ble_eq_true rfl)⟩) hS hA hP hD [0, 1] [2] rfl rfl (by decide) (by decide) (fun E9 u H locs q9 ce hw hP hD hS hce hcv hcl => ?_) (fun r u H locs hw hP hD hS => ?_)
  · have hEq := hw
    cases hEq
    have hP : va_P D vwCl [(o1, .inl (ty 1, 1, .inr (.inl (fun _ => 0))))] H := hP
    have hD : va_D A [(o1, .inl (ty 1, 1, .inr (.inl (fun _ => 0))))] := hD
    refine vx_widen (k := 1) (n := 6) (Nat.le_of_ble_eq_true rfl) (Nat.le_of_ble_eq_true rfl) ?_
    refine vx_catch (own := RL) (name := "java/lang/IllegalStateException") (E := "java/lang/IllegalStateException") hown [] ⟨0, 8, 11, 15⟩ [] (by rw [hTab]; rfl) (fun z hz => nomatch hz) (by decide) (by decide) (hts (.classLink RL 15 "java/lang/IllegalStateException") (by decide +kernel)) (va_Nw.use rfl (hE.ca "java/lang/IllegalStateException" "java/lang/IllegalStateException" (by decide +kernel))) hce hcv hcl ?_
    refine lv_astore_n (lv' := [(2, .ref q9), (0, .ref x0), (1, .ref o1)]) hx hb dL_best_11 rfl hl (by decide) rfl (fun ls hl => ?_)
    refine lv_iconst (v := 1) hx hb dL_best_12 (by decide) ?_
    have hP9 := hP.sub (ws' := [(o1, .inl (ty 1, 1, .inr (.inl (fun _ => 0))))]) [0] rfl
    have hD9 := hD.sub (ws' := [(o1, .inl (ty 1, 1, .inr (.inl (fun _ => 0))))]) [0] (by decide) rfl
    refine W.widen (k := 1) (n := 6) (Nat.le_of_ble_eq_true rfl) (Nat.le_of_ble_eq_true rfl) ?_
    refine vx_ret ?_
    exact W.iret (v := 1) hx hb hr (fun t ht hW => ⟨⟨1, [(o1, .inl (ty 1, 1, .inr (.inl (fun _ => 0))))], rfl, ⟨rfl, rfl⟩, wq_B.of ht hP9 hD9⟩, hS.F ht⟩) hS.2.2 dL_best_13
  · exact hw.elim
