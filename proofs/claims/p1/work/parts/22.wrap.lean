theorem dL_loops_0 : decode cL_loops 0 = .ok (.aload_n 1, 1) := by decide +kernel
theorem dL_loops_1 : decode cL_loops 1 = .ok (.iconst 0, 1) := by decide +kernel
theorem dL_loops_2 : decode cL_loops 2 = .ok (.aload_n 0, 1) := by decide +kernel
theorem dL_loops_3 : decode cL_loops 3 = .ok (.invokevirtual 66, 3) := by decide +kernel
theorem dL_loops_6 : decode cL_loops 6 = .ok (.i2l, 1) := by decide +kernel
theorem dL_loops_7 : decode cL_loops 7 = .ok (.lastore, 1) := by decide +kernel
theorem dL_loops_8 : decode cL_loops 8 = .ok (.goto 6, 3) := by decide +kernel
theorem dL_loops_11 : decode cL_loops 11 = .ok (.astore_n 2, 1) := by decide +kernel
theorem dL_loops_12 : decode cL_loops 12 = .ok (.iconst 1, 1) := by decide +kernel
theorem dL_loops_13 : decode cL_loops 13 = .ok (.ireturn, 1) := by decide +kernel
theorem dL_loops_14 : decode cL_loops 14 = .ok (.iconst 0, 1) := by decide +kernel
theorem dL_loops_15 : decode cL_loops 15 = .ok (.ireturn, 1) := by decide +kernel
theorem dL_walk_0 : decode cL_walk 0 = .ok (.aload_n 1, 1) := by decide +kernel
theorem dL_walk_1 : decode cL_walk 1 = .ok (.iconst 0, 1) := by decide +kernel
theorem dL_walk_2 : decode cL_walk 2 = .ok (.aload_n 0, 1) := by decide +kernel
theorem dL_walk_3 : decode cL_walk 3 = .ok (.invokevirtual 72, 3) := by decide +kernel
theorem dL_walk_6 : decode cL_walk 6 = .ok (.i2l, 1) := by decide +kernel
theorem dL_walk_7 : decode cL_walk 7 = .ok (.lastore, 1) := by decide +kernel
theorem dL_walk_8 : decode cL_walk 8 = .ok (.goto 6, 3) := by decide +kernel
theorem dL_walk_11 : decode cL_walk 11 = .ok (.astore_n 2, 1) := by decide +kernel
theorem dL_walk_12 : decode cL_walk 12 = .ok (.iconst 1, 1) := by decide +kernel
theorem dL_walk_13 : decode cL_walk 13 = .ok (.ireturn, 1) := by decide +kernel
theorem dL_walk_14 : decode cL_walk 14 = .ok (.iconst 0, 1) := by decide +kernel
theorem dL_walk_15 : decode cL_walk 15 = .ok (.ireturn, 1) := by decide +kernel
theorem dL_walkByAll_0 : decode cL_walkByAll 0 = .ok (.aload_n 1, 1) := by decide +kernel
theorem dL_walkByAll_1 : decode cL_walkByAll 1 = .ok (.iconst 0, 1) := by decide +kernel
theorem dL_walkByAll_2 : decode cL_walkByAll 2 = .ok (.aload_n 0, 1) := by decide +kernel
theorem dL_walkByAll_3 : decode cL_walkByAll 3 = .ok (.invokevirtual 75, 3) := by decide +kernel
theorem dL_walkByAll_6 : decode cL_walkByAll 6 = .ok (.i2l, 1) := by decide +kernel
theorem dL_walkByAll_7 : decode cL_walkByAll 7 = .ok (.lastore, 1) := by decide +kernel
theorem dL_walkByAll_8 : decode cL_walkByAll 8 = .ok (.goto 6, 3) := by decide +kernel
theorem dL_walkByAll_11 : decode cL_walkByAll 11 = .ok (.astore_n 2, 1) := by decide +kernel
theorem dL_walkByAll_12 : decode cL_walkByAll 12 = .ok (.iconst 1, 1) := by decide +kernel
theorem dL_walkByAll_13 : decode cL_walkByAll 13 = .ok (.ireturn, 1) := by decide +kernel
theorem dL_walkByAll_14 : decode cL_walkByAll 14 = .ok (.iconst 0, 1) := by decide +kernel
theorem dL_walkByAll_15 : decode cL_walkByAll 15 = .ok (.ireturn, 1) := by decide +kernel
theorem dL_projected_0 : decode cL_projected 0 = .ok (.aload_n 2, 1) := by decide +kernel
theorem dL_projected_1 : decode cL_projected 1 = .ok (.iconst 0, 1) := by decide +kernel
theorem dL_projected_2 : decode cL_projected 2 = .ok (.aload_n 0, 1) := by decide +kernel
theorem dL_projected_3 : decode cL_projected 3 = .ok (.iload_n 1, 1) := by decide +kernel
theorem dL_projected_4 : decode cL_projected 4 = .ok (.invokevirtual 92, 3) := by decide +kernel
theorem dL_projected_7 : decode cL_projected 7 = .ok (.i2l, 1) := by decide +kernel
theorem dL_projected_8 : decode cL_projected 8 = .ok (.lastore, 1) := by decide +kernel
theorem dL_projected_9 : decode cL_projected 9 = .ok (.goto 9, 3) := by decide +kernel
theorem dL_projected_12 : decode cL_projected 12 = .ok (.astore_n 3, 1) := by decide +kernel
theorem dL_projected_13 : decode cL_projected 13 = .ok (.iconst 1, 1) := by decide +kernel
theorem dL_projected_14 : decode cL_projected 14 = .ok (.ireturn, 1) := by decide +kernel
theorem dL_projected_15 : decode cL_projected 15 = .ok (.astore_n 3, 1) := by decide +kernel
theorem dL_projected_16 : decode cL_projected 16 = .ok (.iconst 2, 1) := by decide +kernel
theorem dL_projected_17 : decode cL_projected 17 = .ok (.ireturn, 1) := by decide +kernel
theorem dL_projected_18 : decode cL_projected 18 = .ok (.iconst 0, 1) := by decide +kernel
theorem dL_projected_19 : decode cL_projected 19 = .ok (.ireturn, 1) := by decide +kernel
theorem dL_holds_0 : decode cL_holds 0 = .ok (.aload 4, 2) := by decide +kernel
theorem dL_holds_2 : decode cL_holds 2 = .ok (.iconst 0, 1) := by decide +kernel
theorem dL_holds_3 : decode cL_holds 3 = .ok (.aload_n 0, 1) := by decide +kernel
theorem dL_holds_4 : decode cL_holds 4 = .ok (.iload_n 1, 1) := by decide +kernel
theorem dL_holds_5 : decode cL_holds 5 = .ok (.iload_n 2, 1) := by decide +kernel
theorem dL_holds_6 : decode cL_holds 6 = .ok (.iload_n 3, 1) := by decide +kernel
theorem dL_holds_7 : decode cL_holds 7 = .ok (.invokevirtual 95, 3) := by decide +kernel
theorem dL_holds_10 : decode cL_holds 10 = .ok (.i2l, 1) := by decide +kernel
theorem dL_holds_11 : decode cL_holds 11 = .ok (.lastore, 1) := by decide +kernel
theorem dL_holds_12 : decode cL_holds 12 = .ok (.goto 15, 3) := by decide +kernel
theorem dL_holds_15 : decode cL_holds 15 = .ok (.astore 5, 2) := by decide +kernel
theorem dL_holds_17 : decode cL_holds 17 = .ok (.iconst 1, 1) := by decide +kernel
theorem dL_holds_18 : decode cL_holds 18 = .ok (.ireturn, 1) := by decide +kernel
theorem dL_holds_19 : decode cL_holds 19 = .ok (.astore 5, 2) := by decide +kernel
theorem dL_holds_21 : decode cL_holds 21 = .ok (.iconst 2, 1) := by decide +kernel
theorem dL_holds_22 : decode cL_holds 22 = .ok (.ireturn, 1) := by decide +kernel
theorem dL_holds_23 : decode cL_holds 23 = .ok (.astore 5, 2) := by decide +kernel
theorem dL_holds_25 : decode cL_holds 25 = .ok (.iconst 3, 1) := by decide +kernel
theorem dL_holds_26 : decode cL_holds 26 = .ok (.ireturn, 1) := by decide +kernel
theorem dL_holds_27 : decode cL_holds 27 = .ok (.iconst 0, 1) := by decide +kernel
theorem dL_holds_28 : decode cL_holds 28 = .ok (.ireturn, 1) := by decide +kernel
theorem dL_reason_0 : decode cL_reason 0 = .ok (.aload 5, 2) := by decide +kernel
theorem dL_reason_2 : decode cL_reason 2 = .ok (.iconst 0, 1) := by decide +kernel
theorem dL_reason_3 : decode cL_reason 3 = .ok (.aload_n 0, 1) := by decide +kernel
theorem dL_reason_4 : decode cL_reason 4 = .ok (.iload_n 1, 1) := by decide +kernel
theorem dL_reason_5 : decode cL_reason 5 = .ok (.iload_n 2, 1) := by decide +kernel
theorem dL_reason_6 : decode cL_reason 6 = .ok (.iload_n 3, 1) := by decide +kernel
theorem dL_reason_7 : decode cL_reason 7 = .ok (.iload 4, 2) := by decide +kernel
theorem dL_reason_9 : decode cL_reason 9 = .ok (.invokevirtual 98, 3) := by decide +kernel
theorem dL_reason_12 : decode cL_reason 12 = .ok (.i2l, 1) := by decide +kernel
theorem dL_reason_13 : decode cL_reason 13 = .ok (.lastore, 1) := by decide +kernel
theorem dL_reason_14 : decode cL_reason 14 = .ok (.goto 19, 3) := by decide +kernel
theorem dL_reason_17 : decode cL_reason 17 = .ok (.astore 6, 2) := by decide +kernel
theorem dL_reason_19 : decode cL_reason 19 = .ok (.iconst 1, 1) := by decide +kernel
theorem dL_reason_20 : decode cL_reason 20 = .ok (.ireturn, 1) := by decide +kernel
theorem dL_reason_21 : decode cL_reason 21 = .ok (.astore 6, 2) := by decide +kernel
theorem dL_reason_23 : decode cL_reason 23 = .ok (.iconst 2, 1) := by decide +kernel
theorem dL_reason_24 : decode cL_reason 24 = .ok (.ireturn, 1) := by decide +kernel
theorem dL_reason_25 : decode cL_reason 25 = .ok (.astore 6, 2) := by decide +kernel
theorem dL_reason_27 : decode cL_reason 27 = .ok (.iconst 3, 1) := by decide +kernel
theorem dL_reason_28 : decode cL_reason 28 = .ok (.ireturn, 1) := by decide +kernel
theorem dL_reason_29 : decode cL_reason 29 = .ok (.astore 6, 2) := by decide +kernel
theorem dL_reason_31 : decode cL_reason 31 = .ok (.iconst 4, 1) := by decide +kernel
theorem dL_reason_32 : decode cL_reason 32 = .ok (.ireturn, 1) := by decide +kernel
theorem dL_reason_33 : decode cL_reason 33 = .ok (.iconst 0, 1) := by decide +kernel
theorem dL_reason_34 : decode cL_reason 34 = .ok (.ireturn, 1) := by decide +kernel
theorem dL_share_0 : decode cL_share 0 = .ok (.aload 4, 2) := by decide +kernel
theorem dL_share_2 : decode cL_share 2 = .ok (.iconst 0, 1) := by decide +kernel
theorem dL_share_3 : decode cL_share 3 = .ok (.aload_n 0, 1) := by decide +kernel
theorem dL_share_4 : decode cL_share 4 = .ok (.iload_n 1, 1) := by decide +kernel
theorem dL_share_5 : decode cL_share 5 = .ok (.iload_n 2, 1) := by decide +kernel
theorem dL_share_6 : decode cL_share 6 = .ok (.iload_n 3, 1) := by decide +kernel
theorem dL_share_7 : decode cL_share 7 = .ok (.invokevirtual 103, 3) := by decide +kernel
theorem dL_share_10 : decode cL_share 10 = .ok (.f2d, 1) := by decide +kernel
theorem dL_share_11 : decode cL_share 11 = .ok (.dastore, 1) := by decide +kernel
theorem dL_share_12 : decode cL_share 12 = .ok (.goto 19, 3) := by decide +kernel
theorem dL_share_15 : decode cL_share 15 = .ok (.astore 5, 2) := by decide +kernel
theorem dL_share_17 : decode cL_share 17 = .ok (.iconst 1, 1) := by decide +kernel
theorem dL_share_18 : decode cL_share 18 = .ok (.ireturn, 1) := by decide +kernel
theorem dL_share_19 : decode cL_share 19 = .ok (.astore 5, 2) := by decide +kernel
theorem dL_share_21 : decode cL_share 21 = .ok (.iconst 2, 1) := by decide +kernel
theorem dL_share_22 : decode cL_share 22 = .ok (.ireturn, 1) := by decide +kernel
theorem dL_share_23 : decode cL_share 23 = .ok (.astore 5, 2) := by decide +kernel
theorem dL_share_25 : decode cL_share 25 = .ok (.iconst 3, 1) := by decide +kernel
theorem dL_share_26 : decode cL_share 26 = .ok (.ireturn, 1) := by decide +kernel
theorem dL_share_27 : decode cL_share 27 = .ok (.astore 5, 2) := by decide +kernel
theorem dL_share_29 : decode cL_share 29 = .ok (.iconst 4, 1) := by decide +kernel
theorem dL_share_30 : decode cL_share 30 = .ok (.ireturn, 1) := by decide +kernel
theorem dL_share_31 : decode cL_share 31 = .ok (.iconst 0, 1) := by decide +kernel
theorem dL_share_32 : decode cL_share 32 = .ok (.ireturn, 1) := by decide +kernel
theorem dL_commonest_0 : decode cL_commonest 0 = .ok (.aload_n 1, 1) := by decide +kernel
theorem dL_commonest_1 : decode cL_commonest 1 = .ok (.iconst 0, 1) := by decide +kernel
theorem dL_commonest_2 : decode cL_commonest 2 = .ok (.aload_n 0, 1) := by decide +kernel
theorem dL_commonest_3 : decode cL_commonest 3 = .ok (.invokevirtual 109, 3) := by decide +kernel
theorem dL_commonest_6 : decode cL_commonest 6 = .ok (.i2l, 1) := by decide +kernel
theorem dL_commonest_7 : decode cL_commonest 7 = .ok (.lastore, 1) := by decide +kernel
theorem dL_commonest_8 : decode cL_commonest 8 = .ok (.goto 9, 3) := by decide +kernel
theorem dL_commonest_11 : decode cL_commonest 11 = .ok (.astore_n 2, 1) := by decide +kernel
theorem dL_commonest_12 : decode cL_commonest 12 = .ok (.iconst 1, 1) := by decide +kernel
theorem dL_commonest_13 : decode cL_commonest 13 = .ok (.ireturn, 1) := by decide +kernel
theorem dL_commonest_14 : decode cL_commonest 14 = .ok (.astore_n 2, 1) := by decide +kernel
theorem dL_commonest_15 : decode cL_commonest 15 = .ok (.iconst 2, 1) := by decide +kernel
theorem dL_commonest_16 : decode cL_commonest 16 = .ok (.ireturn, 1) := by decide +kernel
theorem dL_commonest_17 : decode cL_commonest 17 = .ok (.iconst 0, 1) := by decide +kernel
theorem dL_commonest_18 : decode cL_commonest 18 = .ok (.ireturn, 1) := by decide +kernel
theorem dL_meanSize_0 : decode cL_meanSize 0 = .ok (.aload_n 1, 1) := by decide +kernel
theorem dL_meanSize_1 : decode cL_meanSize 1 = .ok (.iconst 0, 1) := by decide +kernel
theorem dL_meanSize_2 : decode cL_meanSize 2 = .ok (.aload_n 0, 1) := by decide +kernel
theorem dL_meanSize_3 : decode cL_meanSize 3 = .ok (.invokevirtual 112, 3) := by decide +kernel
theorem dL_meanSize_6 : decode cL_meanSize 6 = .ok (.dastore, 1) := by decide +kernel
theorem dL_meanSize_7 : decode cL_meanSize 7 = .ok (.goto 9, 3) := by decide +kernel
theorem dL_meanSize_10 : decode cL_meanSize 10 = .ok (.astore_n 2, 1) := by decide +kernel
theorem dL_meanSize_11 : decode cL_meanSize 11 = .ok (.iconst 1, 1) := by decide +kernel
theorem dL_meanSize_12 : decode cL_meanSize 12 = .ok (.ireturn, 1) := by decide +kernel
theorem dL_meanSize_13 : decode cL_meanSize 13 = .ok (.astore_n 2, 1) := by decide +kernel
theorem dL_meanSize_14 : decode cL_meanSize 14 = .ok (.iconst 2, 1) := by decide +kernel
theorem dL_meanSize_15 : decode cL_meanSize 15 = .ok (.ireturn, 1) := by decide +kernel
theorem dL_meanSize_16 : decode cL_meanSize 16 = .ok (.iconst 0, 1) := by decide +kernel
theorem dL_meanSize_17 : decode cL_meanSize 17 = .ok (.ireturn, 1) := by decide +kernel
def vs_k_L_projected : List Cond := .codeWith yL_projected cL_projected 4 (some .int) [(0, 9, 12, 15), (0, 9, 15, 31)] :: ([.methodLink RL 92 yX10_projected, .instanceMethod yX10_projected, .selects RX10 yX10_projected yX10_projected, .initialized RX10, .classLink RL 15 "java/lang/IllegalStateException"] ++ (vs_k_X10_projected))
set_option maxRecDepth 20000 in
theorem gv_k_L_projected_0 : GoodIn vs_k_L_projected (wsV RL 92 RX10 yX10_projected vs_k_X10_projected) := goodIn_app (goodIn_sub (by decide +kernel) (by decide +kernel)) (goodIn_sub (fun _ h => List.mem_cons_of_mem _ (List.mem_append_right _ (h))) (by decide +kernel))
set_option maxHeartbeats 4000000 in
set_option maxRecDepth 100000 in
theorem k_L_projected (l : Launch) (hl9 : l.stackTraces = false) (D : va_G) (ty : Nat → ClassId) (td mi sz : Nat) (x0 : Nat) (x1 : Nat) (x8 : Nat) (x20 : Nat) (x39 : Nat) (x41 : Nat) (x43 : Nat) (x45 : Nat) (x46 : Nat) (x47 : Nat) (o1 : Nat) (k1 : Int32) : vx_Met l yL_projected vs_k_L_projected { frames := 8, cells := 1, slots := 6, locals := 123 } (va_Pc [.ref x0, .int k1, .ref o1] (wq_P D ty td mi [(x0, .inr (15, [.ref x1, .ref x8, .ref x20, .ref x39, .ref x41, .ref x43, .ref x45])), (x45, .inr (5, [.ref x46, .ref x47, .int 0, .int 0])), (o1, .inl (ty 1, 1, .inr (.inl (fun _ => 0))))] sz)) (va_Qi (fun (r : Int32) (u : va_W) => (r = 1 ∧ (u = [(o1, .inl (ty 1, 1, .inr (.inl (fun _ => 0))))]))) (wq_B D (va_A [(x0, .inr (15, [.ref x1, .ref x8, .ref x20, .ref x39, .ref x41, .ref x43, .ref x45])), (x45, .inr (5, [.ref x46, .ref x47, .int 0, .int 0])), (o1, .inl (ty 1, 1, .inr (.inl (fun _ => 0))))] sz)) (va_A [(x0, .inr (15, [.ref x1, .ref x8, .ref x20, .ref x39, .ref x41, .ref x43, .ref x45])), (x45, .inr (5, [.ref x46, .ref x47, .int 0, .int 0])), (o1, .inl (ty 1, 1, .inr (.inl (fun _ => 0))))] sz)) (vx_X (fun u : String × va_W => False) (wq_BX D (va_A [(x0, .inr (15, [.ref x1, .ref x8, .ref x20, .ref x39, .ref x41, .ref x43, .ref x45])), (x45, .inr (5, [.ref x46, .ref x47, .int 0, .int 0])), (o1, .inl (ty 1, 1, .inr (.inl (fun _ => 0))))] sz)) (va_A [(x0, .inr (15, [.ref x1, .ref x8, .ref x20, .ref x39, .ref x41, .ref x43, .ref x45])), (x45, .inr (5, [.ref x46, .ref x47, .int 0, .int 0])), (o1, .inl (ty 1, 1, .inr (.inl (fun _ => 0))))] sz)) 1 6 (va_A [(x0, .inr (15, [.ref x1, .ref x8, .ref x20, .ref x39, .ref x41, .ref x43, .ref x45])), (x45, .inr (5, [.ref x46, .ref x47, .int 0, .int 0])), (o1, .inl (ty 1, 1, .inr (.inl (fun _ => 0))))] sz) := by
  refine vx_ofWH (cc := cL_projected) (maxL := 4) (ret := (some .int)) (hh := [(0, 9, 12, 15), (0, 9, 15, 31)]) (by decide) rfl ?_
  intro p e s m args below meth c s₁ B hml hv
  obtain ⟨rfl, hsz, hP, hK, hD0, hE⟩ := hv
  have hx := B.exec
  have hb := B.bytes
  have hr := B.returns
  have hts := atoms_spec (ws := vs_k_L_projected) B.pre
  have hown : s.vm.findClass RL = some m.cls := findClass_of_methodNamed B.named
  have hlocks := B.notSynchronized
  have hTab := vx_table (x := yL_walk) B (hts _ List.mem_cons_self)
  subst hsz
  have hD := hD0.self (sz := s.heap.size)
  generalize hAe : va_A [(x0, .inr (15, [.ref x1, .ref x8, .ref x20, .ref x39, .ref x41, .ref x43, .ref x45])), (x45, .inr (5, [.ref x46, .ref x47, .int 0, .int 0])), (o1, .inl (ty 1, 1, .inr (.inl (fun _ => 0))))] s.heap.size = A at hD hE ⊢
  have hA : ∀ q : Nat, s.heap.size ≤ q → A q := fun q h => by rw [← hAe]; exact Or.inr h
  have hS : va_S A s.heap s.heap [] := va_S.rf
  have hP : va_P D vwCl [(x0, .inr (15, [.ref x1, .ref x8, .ref x20, .ref x39, .ref x41, .ref x43, .ref x45])), (x45, .inr (5, [.ref x46, .ref x47, .int 0, .int 0])), (o1, .inl (ty 1, 1, .inr (.inl (fun _ => 0))))] s.heap := hP
  have hl := lv_entry ([.ref x0, .int k1, .ref o1]) (n := 4) (Nat.le_of_ble_eq_true rfl)
  rw [lg_entry_eq]
  generalize (lg_sl ([.ref x0, .int k1, .ref o1]) ++ List.replicate (4 - (lg_sl ([.ref x0, .int k1, .ref o1])).length) Slot.unset).toArray = ls at hl ⊢
  have hl : lv_has ls 4 [(0, .ref x0), (1, .int k1), (2, .ref o1)] := hl
  refine lv_aload_n hx hb dL_projected_0 rfl (lv_at hl 2 rfl) ?_
  refine lv_iconst (v := 0) hx hb dL_projected_1 (by decide) ?_
  refine lv_aload_n hx hb dL_projected_2 rfl (lv_at hl 0 rfl) ?_
  refine lv_iload_n hx hb dL_projected_3 rfl (lv_at hl 1 rfl) ?_
  refine wq_xi (wc := [(x0, .inr (15, [.ref x1, .ref x8, .ref x20, .ref x39, .ref x41, .ref x43, .ref x45])), (x45, .inr (5, [.ref x46, .ref x47, .int 0, .int 0]))]) (wr := [(o1, .inl (ty 1, 1, .inr (.inl (fun _ => 0))))]) (vx_runV (As := [.int k1]) (rest := [.int 0, .ref o1]) ⟨hx, hb, hml, hown, hts⟩ (k_X10_projected l hl9 D ty td mi s.heap.size x0 x1 x8 x20 x39 x41 x43 x45 x46 x47 k1) (cwV 1 hts gv_k_L_projected_0 rfl rfl rfl (by decide +kernel) ⟨(Nat.le_of_ble_eq_true rfl), (Nat.le_of_ble_eq_true rfl)⟩) (wq_preV hP hD hK hE hS hA [0, 1] rfl (by decide) 0 15 rfl rfl) rfl rfl hl.1 rfl (lv_room (Nat.le_of_ble_eq_true rfl)) dL_projected_4 ⟨(Nat.le_of_ble_eq_true rfl), (Nat.le_of_ble_eq_true rfl)⟩) hS hA hP hD [0, 1] [2] rfl rfl (by decide) (by decide) (fun E9 u H locs q9 ce hw hP hD hS hce hcv hcl => ?_) (fun r u H locs hw hP hD hS => ?_)
  · have hEq := hw
    cases hEq
    have hP : va_P D vwCl [(o1, .inl (ty 1, 1, .inr (.inl (fun _ => 0))))] H := hP
    have hD : va_D A [(o1, .inl (ty 1, 1, .inr (.inl (fun _ => 0))))] := hD
    refine vx_widen (k := 1) (n := 6) (Nat.le_of_ble_eq_true rfl) (Nat.le_of_ble_eq_true rfl) ?_
    refine vx_catch (own := RL) (name := "java/lang/IllegalStateException") (E := "java/lang/IllegalStateException") hown [] ⟨0, 9, 12, 15⟩ [⟨0, 9, 15, 31⟩] (by rw [hTab]; rfl) (fun z hz => nomatch hz) (by decide) (by decide) (hts (.classLink RL 15 "java/lang/IllegalStateException") (by decide +kernel)) (va_Nw.use rfl (hE.ca "java/lang/IllegalStateException" "java/lang/IllegalStateException" (by decide +kernel))) hce hcv hcl ?_
    refine lv_astore_n (lv' := [(3, .ref q9), (0, .ref x0), (1, .int k1), (2, .ref o1)]) hx hb dL_projected_12 rfl hl (by decide) rfl (fun ls hl => ?_)
    refine lv_iconst (v := 1) hx hb dL_projected_13 (by decide) ?_
    have hP9 := hP.sub (ws' := [(o1, .inl (ty 1, 1, .inr (.inl (fun _ => 0))))]) [0] rfl
    have hD9 := hD.sub (ws' := [(o1, .inl (ty 1, 1, .inr (.inl (fun _ => 0))))]) [0] (by decide) rfl
    refine W.widen (k := 1) (n := 6) (Nat.le_of_ble_eq_true rfl) (Nat.le_of_ble_eq_true rfl) ?_
    refine vx_ret ?_
    exact W.iret (v := 1) hx hb hr (fun t ht hW => ⟨⟨1, [(o1, .inl (ty 1, 1, .inr (.inl (fun _ => 0))))], rfl, ⟨rfl, rfl⟩, wq_B.of ht hP9 hD9⟩, hS.F ht⟩) hS.2.2 dL_projected_14
  · exact hw.elim
def vs_k_L_holds : List Cond := .codeWith yL_holds cL_holds 6 (some .int) [(0, 12, 15, 15), (0, 12, 19, 31), (0, 12, 23, 13)] :: ([.methodLink RL 95 yX10_holds, .instanceMethod yX10_holds, .selects RX10 yX10_holds yX10_holds, .initialized RX10, .classLink RL 15 "java/lang/IllegalStateException"] ++ (vs_k_X10_holds))
set_option maxRecDepth 20000 in
theorem gv_k_L_holds_0 : GoodIn vs_k_L_holds (wsV RL 95 RX10 yX10_holds vs_k_X10_holds) := goodIn_app (goodIn_sub (by decide +kernel) (by decide +kernel)) (goodIn_sub (fun _ h => List.mem_cons_of_mem _ (List.mem_append_right _ (h))) (by decide +kernel))
set_option maxHeartbeats 4000000 in
set_option maxRecDepth 100000 in
theorem k_L_holds (l : Launch) (hl9 : l.stackTraces = false) (D : va_G) (ty : Nat → ClassId) (td mi sz : Nat) (x0 : Nat) (x1 : Nat) (x8 : Nat) (x20 : Nat) (x39 : Nat) (x41 : Nat) (x43 : Nat) (x45 : Nat) (x46 : Nat) (x47 : Nat) (o1 : Nat) (k1 : Int32) (k2 : Int32) (k3 : Int32) : vx_Met l yL_holds vs_k_L_holds { frames := 8, cells := 1, slots := 6, locals := 126 } (va_Pc [.ref x0, .int k1, .int k2, .int k3, .ref o1] (wq_P D ty td mi [(x0, .inr (15, [.ref x1, .ref x8, .ref x20, .ref x39, .ref x41, .ref x43, .ref x45])), (x45, .inr (5, [.ref x46, .ref x47, .int 0, .int 0])), (o1, .inl (ty 1, 1, .inr (.inl (fun _ => 0))))] sz)) (va_Qi (fun (r : Int32) (u : va_W) => (r = 1 ∧ (u = [(o1, .inl (ty 1, 1, .inr (.inl (fun _ => 0))))]))) (wq_B D (va_A [(x0, .inr (15, [.ref x1, .ref x8, .ref x20, .ref x39, .ref x41, .ref x43, .ref x45])), (x45, .inr (5, [.ref x46, .ref x47, .int 0, .int 0])), (o1, .inl (ty 1, 1, .inr (.inl (fun _ => 0))))] sz)) (va_A [(x0, .inr (15, [.ref x1, .ref x8, .ref x20, .ref x39, .ref x41, .ref x43, .ref x45])), (x45, .inr (5, [.ref x46, .ref x47, .int 0, .int 0])), (o1, .inl (ty 1, 1, .inr (.inl (fun _ => 0))))] sz)) (vx_X (fun u : String × va_W => False) (wq_BX D (va_A [(x0, .inr (15, [.ref x1, .ref x8, .ref x20, .ref x39, .ref x41, .ref x43, .ref x45])), (x45, .inr (5, [.ref x46, .ref x47, .int 0, .int 0])), (o1, .inl (ty 1, 1, .inr (.inl (fun _ => 0))))] sz)) (va_A [(x0, .inr (15, [.ref x1, .ref x8, .ref x20, .ref x39, .ref x41, .ref x43, .ref x45])), (x45, .inr (5, [.ref x46, .ref x47, .int 0, .int 0])), (o1, .inl (ty 1, 1, .inr (.inl (fun _ => 0))))] sz)) 1 6 (va_A [(x0, .inr (15, [.ref x1, .ref x8, .ref x20, .ref x39, .ref x41, .ref x43, .ref x45])), (x45, .inr (5, [.ref x46, .ref x47, .int 0, .int 0])), (o1, .inl (ty 1, 1, .inr (.inl (fun _ => 0))))] sz) := by
  refine vx_ofWH (cc := cL_holds) (maxL := 6) (ret := (some .int)) (hh := [(0, 12, 15, 15), (0, 12, 19, 31), (0, 12, 23, 13)]) (by decide) rfl ?_
  intro p e s m args below meth c s₁ B hml hv
  obtain ⟨rfl, hsz, hP, hK, hD0, hE⟩ := hv
  have hx := B.exec
  have hb := B.bytes
  have hr := B.returns
  have hts := atoms_spec (ws := vs_k_L_holds) B.pre
  have hown : s.vm.findClass RL = some m.cls := findClass_of_methodNamed B.named
  have hlocks := B.notSynchronized
  have hTab := vx_table (x := yL_walk) B (hts _ List.mem_cons_self)
  subst hsz
  have hD := hD0.self (sz := s.heap.size)
  generalize hAe : va_A [(x0, .inr (15, [.ref x1, .ref x8, .ref x20, .ref x39, .ref x41, .ref x43, .ref x45])), (x45, .inr (5, [.ref x46, .ref x47, .int 0, .int 0])), (o1, .inl (ty 1, 1, .inr (.inl (fun _ => 0))))] s.heap.size = A at hD hE ⊢
  have hA : ∀ q : Nat, s.heap.size ≤ q → A q := fun q h => by rw [← hAe]; exact Or.inr h
  have hS : va_S A s.heap s.heap [] := va_S.rf
  have hP : va_P D vwCl [(x0, .inr (15, [.ref x1, .ref x8, .ref x20, .ref x39, .ref x41, .ref x43, .ref x45])), (x45, .inr (5, [.ref x46, .ref x47, .int 0, .int 0])), (o1, .inl (ty 1, 1, .inr (.inl (fun _ => 0))))] s.heap := hP
  have hl := lv_entry ([.ref x0, .int k1, .int k2, .int k3, .ref o1]) (n := 6) (Nat.le_of_ble_eq_true rfl)
  rw [lg_entry_eq]
  generalize (lg_sl ([.ref x0, .int k1, .int k2, .int k3, .ref o1]) ++ List.replicate (6 - (lg_sl ([.ref x0, .int k1, .int k2, .int k3, .ref o1])).length) Slot.unset).toArray = ls at hl ⊢
  have hl : lv_has ls 6 [(0, .ref x0), (1, .int k1), (2, .int k2), (3, .int k3), (4, .ref o1)] := hl
  refine lv_aload hx hb dL_holds_0 (lv_at hl 4 rfl) ?_
  refine lv_iconst (v := 0) hx hb dL_holds_2 (by decide) ?_
  refine lv_aload_n hx hb dL_holds_3 rfl (lv_at hl 0 rfl) ?_
  refine lv_iload_n hx hb dL_holds_4 rfl (lv_at hl 1 rfl) ?_
  refine lv_iload_n hx hb dL_holds_5 rfl (lv_at hl 2 rfl) ?_
  refine lv_iload_n hx hb dL_holds_6 rfl (lv_at hl 3 rfl) ?_
  refine wq_xi (wc := [(x0, .inr (15, [.ref x1, .ref x8, .ref x20, .ref x39, .ref x41, .ref x43, .ref x45])), (x45, .inr (5, [.ref x46, .ref x47, .int 0, .int 0]))]) (wr := [(o1, .inl (ty 1, 1, .inr (.inl (fun _ => 0))))]) (vx_runV (As := [.int k1, .int k2, .int k3]) (rest := [.int 0, .ref o1]) ⟨hx, hb, hml, hown, hts⟩ (k_X10_holds l hl9 D ty td mi s.heap.size x0 x1 x8 x20 x39 x41 x43 x45 x46 x47 k1 k2 k3) (cwV 3 hts gv_k_L_holds_0 rfl rfl rfl (by decide +kernel) ⟨(Nat.le_of_ble_eq_true rfl), (Nat.le_of_ble_eq_true rfl)⟩) (wq_preV hP hD hK hE hS hA [0, 1] rfl (by decide) 0 15 rfl rfl) rfl rfl hl.1 rfl (lv_room (Nat.le_of_ble_eq_true rfl)) dL_holds_7 ⟨(Nat.le_of_ble_eq_true rfl), (Nat.le_of_ble_eq_true rfl)⟩) hS hA hP hD [0, 1] [2] rfl rfl (by decide) (by decide) (fun E9 u H locs q9 ce hw hP hD hS hce hcv hcl => ?_) (fun r u H locs hw hP hD hS => ?_)
  · have hEq := hw
    cases hEq
    have hP : va_P D vwCl [(o1, .inl (ty 1, 1, .inr (.inl (fun _ => 0))))] H := hP
    have hD : va_D A [(o1, .inl (ty 1, 1, .inr (.inl (fun _ => 0))))] := hD
    refine vx_widen (k := 1) (n := 6) (Nat.le_of_ble_eq_true rfl) (Nat.le_of_ble_eq_true rfl) ?_
    refine vx_catch (own := RL) (name := "java/lang/IllegalStateException") (E := "java/lang/IllegalStateException") hown [] ⟨0, 12, 15, 15⟩ [⟨0, 12, 19, 31⟩, ⟨0, 12, 23, 13⟩] (by rw [hTab]; rfl) (fun z hz => nomatch hz) (by decide) (by decide) (hts (.classLink RL 15 "java/lang/IllegalStateException") (by decide +kernel)) (va_Nw.use rfl (hE.ca "java/lang/IllegalStateException" "java/lang/IllegalStateException" (by decide +kernel))) hce hcv hcl ?_
    refine lv_astore (lv' := [(5, .ref q9), (0, .ref x0), (1, .int k1), (2, .int k2), (3, .int k3), (4, .ref o1)]) hx hb dL_holds_15 hl (by decide) rfl (fun ls hl => ?_)
    refine lv_iconst (v := 1) hx hb dL_holds_17 (by decide) ?_
    have hP9 := hP.sub (ws' := [(o1, .inl (ty 1, 1, .inr (.inl (fun _ => 0))))]) [0] rfl
    have hD9 := hD.sub (ws' := [(o1, .inl (ty 1, 1, .inr (.inl (fun _ => 0))))]) [0] (by decide) rfl
    refine W.widen (k := 1) (n := 6) (Nat.le_of_ble_eq_true rfl) (Nat.le_of_ble_eq_true rfl) ?_
    refine vx_ret ?_
    exact W.iret (v := 1) hx hb hr (fun t ht hW => ⟨⟨1, [(o1, .inl (ty 1, 1, .inr (.inl (fun _ => 0))))], rfl, ⟨rfl, rfl⟩, wq_B.of ht hP9 hD9⟩, hS.F ht⟩) hS.2.2 dL_holds_18
  · exact hw.elim
def vs_k_L_reason : List Cond := .codeWith yL_reason cL_reason 7 (some .int) [(0, 14, 17, 15), (0, 14, 21, 31), (0, 14, 25, 13), (0, 14, 29, 101)] :: ([.methodLink RL 98 yX10_reason, .instanceMethod yX10_reason, .selects RX10 yX10_reason yX10_reason, .initialized RX10, .classLink RL 15 "java/lang/IllegalStateException"] ++ (vs_k_X10_reason))
set_option maxRecDepth 20000 in
theorem gv_k_L_reason_0 : GoodIn vs_k_L_reason (wsV RL 98 RX10 yX10_reason vs_k_X10_reason) := goodIn_app (goodIn_sub (by decide +kernel) (by decide +kernel)) (goodIn_sub (fun _ h => List.mem_cons_of_mem _ (List.mem_append_right _ (h))) (by decide +kernel))
set_option maxHeartbeats 4000000 in
set_option maxRecDepth 100000 in
theorem k_L_reason (l : Launch) (hl9 : l.stackTraces = false) (D : va_G) (ty : Nat → ClassId) (td mi sz : Nat) (x0 : Nat) (x1 : Nat) (x8 : Nat) (x20 : Nat) (x39 : Nat) (x41 : Nat) (x43 : Nat) (x45 : Nat) (x46 : Nat) (x47 : Nat) (o1 : Nat) (k1 : Int32) (k2 : Int32) (k3 : Int32) (k4 : Int32) : vx_Met l yL_reason vs_k_L_reason { frames := 9, cells := 1, slots := 6, locals := 150 } (va_Pc [.ref x0, .int k1, .int k2, .int k3, .int k4, .ref o1] (wq_P D ty td mi [(x0, .inr (15, [.ref x1, .ref x8, .ref x20, .ref x39, .ref x41, .ref x43, .ref x45])), (x45, .inr (5, [.ref x46, .ref x47, .int 0, .int 0])), (o1, .inl (ty 1, 1, .inr (.inl (fun _ => 0))))] sz)) (va_Qi (fun (r : Int32) (u : va_W) => (r = 1 ∧ (u = [(o1, .inl (ty 1, 1, .inr (.inl (fun _ => 0))))]))) (wq_B D (va_A [(x0, .inr (15, [.ref x1, .ref x8, .ref x20, .ref x39, .ref x41, .ref x43, .ref x45])), (x45, .inr (5, [.ref x46, .ref x47, .int 0, .int 0])), (o1, .inl (ty 1, 1, .inr (.inl (fun _ => 0))))] sz)) (va_A [(x0, .inr (15, [.ref x1, .ref x8, .ref x20, .ref x39, .ref x41, .ref x43, .ref x45])), (x45, .inr (5, [.ref x46, .ref x47, .int 0, .int 0])), (o1, .inl (ty 1, 1, .inr (.inl (fun _ => 0))))] sz)) (vx_X (fun u : String × va_W => False) (wq_BX D (va_A [(x0, .inr (15, [.ref x1, .ref x8, .ref x20, .ref x39, .ref x41, .ref x43, .ref x45])), (x45, .inr (5, [.ref x46, .ref x47, .int 0, .int 0])), (o1, .inl (ty 1, 1, .inr (.inl (fun _ => 0))))] sz)) (va_A [(x0, .inr (15, [.ref x1, .ref x8, .ref x20, .ref x39, .ref x41, .ref x43, .ref x45])), (x45, .inr (5, [.ref x46, .ref x47, .int 0, .int 0])), (o1, .inl (ty 1, 1, .inr (.inl (fun _ => 0))))] sz)) 1 6 (va_A [(x0, .inr (15, [.ref x1, .ref x8, .ref x20, .ref x39, .ref x41, .ref x43, .ref x45])), (x45, .inr (5, [.ref x46, .ref x47, .int 0, .int 0])), (o1, .inl (ty 1, 1, .inr (.inl (fun _ => 0))))] sz) := by
  refine vx_ofWH (cc := cL_reason) (maxL := 7) (ret := (some .int)) (hh := [(0, 14, 17, 15), (0, 14, 21, 31), (0, 14, 25, 13), (0, 14, 29, 101)]) (by decide) rfl ?_
  intro p e s m args below meth c s₁ B hml hv
  obtain ⟨rfl, hsz, hP, hK, hD0, hE⟩ := hv
  have hx := B.exec
  have hb := B.bytes
  have hr := B.returns
  have hts := atoms_spec (ws := vs_k_L_reason) B.pre
  have hown : s.vm.findClass RL = some m.cls := findClass_of_methodNamed B.named
  have hlocks := B.notSynchronized
  have hTab := vx_table (x := yL_walk) B (hts _ List.mem_cons_self)
  subst hsz
  have hD := hD0.self (sz := s.heap.size)
  generalize hAe : va_A [(x0, .inr (15, [.ref x1, .ref x8, .ref x20, .ref x39, .ref x41, .ref x43, .ref x45])), (x45, .inr (5, [.ref x46, .ref x47, .int 0, .int 0])), (o1, .inl (ty 1, 1, .inr (.inl (fun _ => 0))))] s.heap.size = A at hD hE ⊢
  have hA : ∀ q : Nat, s.heap.size ≤ q → A q := fun q h => by rw [← hAe]; exact Or.inr h
  have hS : va_S A s.heap s.heap [] := va_S.rf
  have hP : va_P D vwCl [(x0, .inr (15, [.ref x1, .ref x8, .ref x20, .ref x39, .ref x41, .ref x43, .ref x45])), (x45, .inr (5, [.ref x46, .ref x47, .int 0, .int 0])), (o1, .inl (ty 1, 1, .inr (.inl (fun _ => 0))))] s.heap := hP
  have hl := lv_entry ([.ref x0, .int k1, .int k2, .int k3, .int k4, .ref o1]) (n := 7) (Nat.le_of_ble_eq_true rfl)
  rw [lg_entry_eq]
  generalize (lg_sl ([.ref x0, .int k1, .int k2, .int k3, .int k4, .ref o1]) ++ List.replicate (7 - (lg_sl ([.ref x0, .int k1, .int k2, .int k3, .int k4, .ref o1])).length) Slot.unset).toArray = ls at hl ⊢
  have hl : lv_has ls 7 [(0, .ref x0), (1, .int k1), (2, .int k2), (3, .int k3), (4, .int k4), (5, .ref o1)] := hl
  refine lv_aload hx hb dL_reason_0 (lv_at hl 5 rfl) ?_
  refine lv_iconst (v := 0) hx hb dL_reason_2 (by decide) ?_
  refine lv_aload_n hx hb dL_reason_3 rfl (lv_at hl 0 rfl) ?_
  refine lv_iload_n hx hb dL_reason_4 rfl (lv_at hl 1 rfl) ?_
  refine lv_iload_n hx hb dL_reason_5 rfl (lv_at hl 2 rfl) ?_
  refine lv_iload_n hx hb dL_reason_6 rfl (lv_at hl 3 rfl) ?_
  refine lv_iload hx hb dL_reason_7 (lv_at hl 4 rfl) ?_
  refine wq_xi (wc := [(x0, .inr (15, [.ref x1, .ref x8, .ref x20, .ref x39, .ref x41, .ref x43, .ref x45])), (x45, .inr (5, [.ref x46, .ref x47, .int 0, .int 0]))]) (wr := [(o1, .inl (ty 1, 1, .inr (.inl (fun _ => 0))))]) (vx_runV (As := [.int k1, .int k2, .int k3, .int k4]) (rest := [.int 0, .ref o1]) ⟨hx, hb, hml, hown, hts⟩ (k_X10_reason l hl9 D ty td mi s.heap.size x0 x1 x8 x20 x39 x41 x43 x45 x46 x47 k1 k2 k3 k4) (cwV 4 hts gv_k_L_reason_0 rfl rfl rfl (by decide +kernel) ⟨(Nat.le_of_ble_eq_true rfl), (Nat.le_of_ble_eq_true rfl)⟩) (wq_preV hP hD hK hE hS hA [0, 1] rfl (by decide) 0 15 rfl rfl) rfl rfl hl.1 rfl (lv_room (Nat.le_of_ble_eq_true rfl)) dL_reason_9 ⟨(Nat.le_of_ble_eq_true rfl), (Nat.le_of_ble_eq_true rfl)⟩) hS hA hP hD [0, 1] [2] rfl rfl (by decide) (by decide) (fun E9 u H locs q9 ce hw hP hD hS hce hcv hcl => ?_) (fun r u H locs hw hP hD hS => ?_)
  · have hEq := hw
    cases hEq
    have hP : va_P D vwCl [(o1, .inl (ty 1, 1, .inr (.inl (fun _ => 0))))] H := hP
    have hD : va_D A [(o1, .inl (ty 1, 1, .inr (.inl (fun _ => 0))))] := hD
    refine vx_widen (k := 1) (n := 6) (Nat.le_of_ble_eq_true rfl) (Nat.le_of_ble_eq_true rfl) ?_
    refine vx_catch (own := RL) (name := "java/lang/IllegalStateException") (E := "java/lang/IllegalStateException") hown [] ⟨0, 14, 17, 15⟩ [⟨0, 14, 21, 31⟩, ⟨0, 14, 25, 13⟩, ⟨0, 14, 29, 101⟩] (by rw [hTab]; rfl) (fun z hz => nomatch hz) (by decide) (by decide) (hts (.classLink RL 15 "java/lang/IllegalStateException") (by decide +kernel)) (va_Nw.use rfl (hE.ca "java/lang/IllegalStateException" "java/lang/IllegalStateException" (by decide +kernel))) hce hcv hcl ?_
    refine lv_astore (lv' := [(6, .ref q9), (0, .ref x0), (1, .int k1), (2, .int k2), (3, .int k3), (4, .int k4), (5, .ref o1)]) hx hb dL_reason_17 hl (by decide) rfl (fun ls hl => ?_)
    refine lv_iconst (v := 1) hx hb dL_reason_19 (by decide) ?_
    have hP9 := hP.sub (ws' := [(o1, .inl (ty 1, 1, .inr (.inl (fun _ => 0))))]) [0] rfl
    have hD9 := hD.sub (ws' := [(o1, .inl (ty 1, 1, .inr (.inl (fun _ => 0))))]) [0] (by decide) rfl
    refine W.widen (k := 1) (n := 6) (Nat.le_of_ble_eq_true rfl) (Nat.le_of_ble_eq_true rfl) ?_
    refine vx_ret ?_
    exact W.iret (v := 1) hx hb hr (fun t ht hW => ⟨⟨1, [(o1, .inl (ty 1, 1, .inr (.inl (fun _ => 0))))], rfl, ⟨rfl, rfl⟩, wq_B.of ht hP9 hD9⟩, hS.F ht⟩) hS.2.2 dL_reason_20
  · exact hw.elim
def vs_k_L_share : List Cond := .codeWith yL_share cL_share 6 (some .int) [(0, 12, 15, 15), (0, 12, 19, 31), (0, 12, 23, 13), (0, 12, 27, 107)] :: ([.methodLink RL 103 yX10_share, .instanceMethod yX10_share, .selects RX10 yX10_share yX10_share, .initialized RX10, .classLink RL 15 "java/lang/IllegalStateException"] ++ (vs_k_X10_share))
set_option maxRecDepth 20000 in
theorem gv_k_L_share_0 : GoodIn vs_k_L_share (wsV RL 103 RX10 yX10_share vs_k_X10_share) := goodIn_app (goodIn_sub (by decide +kernel) (by decide +kernel)) (goodIn_sub (fun _ h => List.mem_cons_of_mem _ (List.mem_append_right _ (h))) (by decide +kernel))
set_option maxHeartbeats 4000000 in
set_option maxRecDepth 100000 in
theorem k_L_share (l : Launch) (hl9 : l.stackTraces = false) (D : va_G) (ty : Nat → ClassId) (td mi sz : Nat) (x0 : Nat) (x1 : Nat) (x8 : Nat) (x20 : Nat) (x39 : Nat) (x41 : Nat) (x43 : Nat) (x45 : Nat) (x46 : Nat) (x47 : Nat) (o1 : Nat) (k1 : Int32) (k2 : Int32) (k3 : Int32) : vx_Met l yL_share vs_k_L_share { frames := 8, cells := 1, slots := 6, locals := 126 } (va_Pc [.ref x0, .int k1, .int k2, .int k3, .ref o1] (wq_P D ty td mi [(x0, .inr (15, [.ref x1, .ref x8, .ref x20, .ref x39, .ref x41, .ref x43, .ref x45])), (x45, .inr (5, [.ref x46, .ref x47, .int 0, .int 0])), (o1, .inl (ty 7, 1, .inr (.inr (.inr (.inl (fun _ => 0))))))] sz)) (va_Qi (fun (r : Int32) (u : va_W) => (r = 1 ∧ (u = [(o1, .inl (ty 7, 1, .inr (.inr (.inr (.inl (fun _ => 0))))))]))) (wq_B D (va_A [(x0, .inr (15, [.ref x1, .ref x8, .ref x20, .ref x39, .ref x41, .ref x43, .ref x45])), (x45, .inr (5, [.ref x46, .ref x47, .int 0, .int 0])), (o1, .inl (ty 7, 1, .inr (.inr (.inr (.inl (fun _ => 0))))))] sz)) (va_A [(x0, .inr (15, [.ref x1, .ref x8, .ref x20, .ref x39, .ref x41, .ref x43, .ref x45])), (x45, .inr (5, [.ref x46, .ref x47, .int 0, .int 0])), (o1, .inl (ty 7, 1, .inr (.inr (.inr (.inl (fun _ => 0))))))] sz)) (vx_X (fun u : String × va_W => False) (wq_BX D (va_A [(x0, .inr (15, [.ref x1, .ref x8, .ref x20, .ref x39, .ref x41, .ref x43, .ref x45])), (x45, .inr (5, [.ref x46, .ref x47, .int 0, .int 0])), (o1, .inl (ty 7, 1, .inr (.inr (.inr (.inl (fun _ => 0))))))] sz)) (va_A [(x0, .inr (15, [.ref x1, .ref x8, .ref x20, .ref x39, .ref x41, .ref x43, .ref x45])), (x45, .inr (5, [.ref x46, .ref x47, .int 0, .int 0])), (o1, .inl (ty 7, 1, .inr (.inr (.inr (.inl (fun _ => 0))))))] sz)) 1 6 (va_A [(x0, .inr (15, [.ref x1, .ref x8, .ref x20, .ref x39, .ref x41, .ref x43, .ref x45])), (x45, .inr (5, [.ref x46, .ref x47, .int 0, .int 0])), (o1, .inl (ty 7, 1, .inr (.inr (.inr (.inl (fun _ => 0))))))] sz) := by
  refine vx_ofWH (cc := cL_share) (maxL := 6) (ret := (some .int)) (hh := [(0, 12, 15, 15), (0, 12, 19, 31), (0, 12, 23, 13), (0, 12, 27, 107)]) (by decide) rfl ?_
  intro p e s m args below meth c s₁ B hml hv
  obtain ⟨rfl, hsz, hP, hK, hD0, hE⟩ := hv
  have hx := B.exec
  have hb := B.bytes
  have hr := B.returns
  have hts := atoms_spec (ws := vs_k_L_share) B.pre
  have hown : s.vm.findClass RL = some m.cls := findClass_of_methodNamed B.named
  have hlocks := B.notSynchronized
  have hTab := vx_table (x := yL_walk) B (hts _ List.mem_cons_self)
  subst hsz
  have hD := hD0.self (sz := s.heap.size)
  generalize hAe : va_A [(x0, .inr (15, [.ref x1, .ref x8, .ref x20, .ref x39, .ref x41, .ref x43, .ref x45])), (x45, .inr (5, [.ref x46, .ref x47, .int 0, .int 0])), (o1, .inl (ty 7, 1, .inr (.inr (.inr (.inl (fun _ => 0))))))] s.heap.size = A at hD hE ⊢
  have hA : ∀ q : Nat, s.heap.size ≤ q → A q := fun q h => by rw [← hAe]; exact Or.inr h
  have hS : va_S A s.heap s.heap [] := va_S.rf
  have hP : va_P D vwCl [(x0, .inr (15, [.ref x1, .ref x8, .ref x20, .ref x39, .ref x41, .ref x43, .ref x45])), (x45, .inr (5, [.ref x46, .ref x47, .int 0, .int 0])), (o1, .inl (ty 7, 1, .inr (.inr (.inr (.inl (fun _ => 0))))))] s.heap := hP
  have hl := lv_entry ([.ref x0, .int k1, .int k2, .int k3, .ref o1]) (n := 6) (Nat.le_of_ble_eq_true rfl)
  rw [lg_entry_eq]
  generalize (lg_sl ([.ref x0, .int k1, .int k2, .int k3, .ref o1]) ++ List.replicate (6 - (lg_sl ([.ref x0, .int k1, .int k2, .int k3, .ref o1])).length) Slot.unset).toArray = ls at hl ⊢
  have hl : lv_has ls 6 [(0, .ref x0), (1, .int k1), (2, .int k2), (3, .int k3), (4, .ref o1)] := hl
  refine lv_aload hx hb dL_share_0 (lv_at hl 4 rfl) ?_
  refine lv_iconst (v := 0) hx hb dL_share_2 (by decide) ?_
  refine lv_aload_n hx hb dL_share_3 rfl (lv_at hl 0 rfl) ?_
  refine lv_iload_n hx hb dL_share_4 rfl (lv_at hl 1 rfl) ?_
  refine lv_iload_n hx hb dL_share_5 rfl (lv_at hl 2 rfl) ?_
  refine lv_iload_n hx hb dL_share_6 rfl (lv_at hl 3 rfl) ?_
  refine wq_xf (wc := [(x0, .inr (15, [.ref x1, .ref x8, .ref x20, .ref x39, .ref x41, .ref x43, .ref x45])), (x45, .inr (5, [.ref x46, .ref x47, .int 0, .int 0]))]) (wr := [(o1, .inl (ty 7, 1, .inr (.inr (.inr (.inl (fun _ => 0))))))]) (vx_runV (As := [.int k1, .int k2, .int k3]) (rest := [.int 0, .ref o1]) ⟨hx, hb, hml, hown, hts⟩ (k_X10_share l hl9 D ty td mi s.heap.size x0 x1 x8 x20 x39 x41 x43 x45 x46 x47 k1 k2 k3) (cwV 3 hts gv_k_L_share_0 rfl rfl rfl (by decide +kernel) ⟨(Nat.le_of_ble_eq_true rfl), (Nat.le_of_ble_eq_true rfl)⟩) (wq_preV hP hD hK hE hS hA [0, 1] rfl (by decide) 0 15 rfl rfl) rfl rfl hl.1 rfl (lv_room (Nat.le_of_ble_eq_true rfl)) dL_share_7 ⟨(Nat.le_of_ble_eq_true rfl), (Nat.le_of_ble_eq_true rfl)⟩) hS hA hP hD [0, 1] [2] rfl rfl (by decide) (by decide) (fun E9 u H locs q9 ce hw hP hD hS hce hcv hcl => ?_) (fun r u H locs hw hP hD hS => ?_)
  · have hEq := hw
    cases hEq
    have hP : va_P D vwCl [(o1, .inl (ty 7, 1, .inr (.inr (.inr (.inl (fun _ => 0))))))] H := hP
    have hD : va_D A [(o1, .inl (ty 7, 1, .inr (.inr (.inr (.inl (fun _ => 0))))))] := hD
    refine vx_widen (k := 1) (n := 6) (Nat.le_of_ble_eq_true rfl) (Nat.le_of_ble_eq_true rfl) ?_
    refine vx_catch (own := RL) (name := "java/lang/IllegalStateException") (E := "java/lang/IllegalStateException") hown [] ⟨0, 12, 15, 15⟩ [⟨0, 12, 19, 31⟩, ⟨0, 12, 23, 13⟩, ⟨0, 12, 27, 107⟩] (by rw [hTab]; rfl) (fun z hz => nomatch hz) (by decide) (by decide) (hts (.classLink RL 15 "java/lang/IllegalStateException") (by decide +kernel)) (va_Nw.use rfl (hE.ca "java/lang/IllegalStateException" "java/lang/IllegalStateException" (by decide +kernel))) hce hcv hcl ?_
    refine lv_astore (lv' := [(5, .ref q9), (0, .ref x0), (1, .int k1), (2, .int k2), (3, .int k3), (4, .ref o1)]) hx hb dL_share_15 hl (by decide) rfl (fun ls hl => ?_)
    refine lv_iconst (v := 1) hx hb dL_share_17 (by decide) ?_
    have hP9 := hP.sub (ws' := [(o1, .inl (ty 7, 1, .inr (.inr (.inr (.inl (fun _ => 0))))))]) [0] rfl
    have hD9 := hD.sub (ws' := [(o1, .inl (ty 7, 1, .inr (.inr (.inr (.inl (fun _ => 0))))))]) [0] (by decide) rfl
    refine W.widen (k := 1) (n := 6) (Nat.le_of_ble_eq_true rfl) (Nat.le_of_ble_eq_true rfl) ?_
    refine vx_ret ?_
    exact W.iret (v := 1) hx hb hr (fun t ht hW => ⟨⟨1, [(o1, .inl (ty 7, 1, .inr (.inr (.inr (.inl (fun _ => 0))))))], rfl, ⟨rfl, rfl⟩, wq_B.of ht hP9 hD9⟩, hS.F ht⟩) hS.2.2 dL_share_18
  · exact hw.elim
def vs_k_L_commonest : List Cond := .codeWith yL_commonest cL_commonest 3 (some .int) [(0, 8, 11, 15), (0, 8, 14, 101)] :: ([.methodLink RL 109 yX10_commonest, .instanceMethod yX10_commonest, .selects RX10 yX10_commonest yX10_commonest, .initialized RX10, .classLink RL 15 "java/lang/IllegalStateException"] ++ (vs_k_X10_commonest))
set_option maxRecDepth 20000 in
theorem gv_k_L_commonest_0 : GoodIn vs_k_L_commonest (wsV RL 109 RX10 yX10_commonest vs_k_X10_commonest) := goodIn_app (goodIn_sub (by decide +kernel) (by decide +kernel)) (goodIn_sub (fun _ h => List.mem_cons_of_mem _ (List.mem_append_right _ (h))) (by decide +kernel))
set_option maxHeartbeats 4000000 in
set_option maxRecDepth 100000 in
theorem k_L_commonest (l : Launch) (hl9 : l.stackTraces = false) (D : va_G) (ty : Nat → ClassId) (td mi sz : Nat) (x0 : Nat) (x1 : Nat) (x8 : Nat) (x20 : Nat) (x39 : Nat) (x41 : Nat) (x43 : Nat) (x45 : Nat) (x46 : Nat) (x47 : Nat) (o1 : Nat) : vx_Met l yL_commonest vs_k_L_commonest { frames := 8, cells := 1, slots := 6, locals := 126 } (va_Pc [.ref x0, .ref o1] (wq_P D ty td mi [(x0, .inr (15, [.ref x1, .ref x8, .ref x20, .ref x39, .ref x41, .ref x43, .ref x45])), (x45, .inr (5, [.ref x46, .ref x47, .int 0, .int 0])), (o1, .inl (ty 1, 1, .inr (.inl (fun _ => 0))))] sz)) (va_Qi (fun (r : Int32) (u : va_W) => (r = 1 ∧ (u = [(o1, .inl (ty 1, 1, .inr (.inl (fun _ => 0))))]))) (wq_B D (va_A [(x0, .inr (15, [.ref x1, .ref x8, .ref x20, .ref x39, .ref x41, .ref x43, .ref x45])), (x45, .inr (5, [.ref x46, .ref x47, .int 0, .int 0])), (o1, .inl (ty 1, 1, .inr (.inl (fun _ => 0))))] sz)) (va_A [(x0, .inr (15, [.ref x1, .ref x8, .ref x20, .ref x39, .ref x41, .ref x43, .ref x45])), (x45, .inr (5, [.ref x46, .ref x47, .int 0, .int 0])), (o1, .inl (ty 1, 1, .inr (.inl (fun _ => 0))))] sz)) (vx_X (fun u : String × va_W => False) (wq_BX D (va_A [(x0, .inr (15, [.ref x1, .ref x8, .ref x20, .ref x39, .ref x41, .ref x43, .ref x45])), (x45, .inr (5, [.ref x46, .ref x47, .int 0, .int 0])), (o1, .inl (ty 1, 1, .inr (.inl (fun _ => 0))))] sz)) (va_A [(x0, .inr (15, [.ref x1, .ref x8, .ref x20, .ref x39, .ref x41, .ref x43, .ref x45])), (x45, .inr (5, [.ref x46, .ref x47, .int 0, .int 0])), (o1, .inl (ty 1, 1, .inr (.inl (fun _ => 0))))] sz)) 1 6 (va_A [(x0, .inr (15, [.ref x1, .ref x8, .ref x20, .ref x39, .ref x41, .ref x43, .ref x45])), (x45, .inr (5, [.ref x46, .ref x47, .int 0, .int 0])), (o1, .inl (ty 1, 1, .inr (.inl (fun _ => 0))))] sz) := by
  refine vx_ofWH (cc := cL_commonest) (maxL := 3) (ret := (some .int)) (hh := [(0, 8, 11, 15), (0, 8, 14, 101)]) (by decide) rfl ?_
  intro p e s m args below meth c s₁ B hml hv
  obtain ⟨rfl, hsz, hP, hK, hD0, hE⟩ := hv
  have hx := B.exec
  have hb := B.bytes
  have hr := B.returns
  have hts := atoms_spec (ws := vs_k_L_commonest) B.pre
  have hown : s.vm.findClass RL = some m.cls := findClass_of_methodNamed B.named
  have hlocks := B.notSynchronized
  have hTab := vx_table (x := yL_walk) B (hts _ List.mem_cons_self)
  subst hsz
  have hD := hD0.self (sz := s.heap.size)
  generalize hAe : va_A [(x0, .inr (15, [.ref x1, .ref x8, .ref x20, .ref x39, .ref x41, .ref x43, .ref x45])), (x45, .inr (5, [.ref x46, .ref x47, .int 0, .int 0])), (o1, .inl (ty 1, 1, .inr (.inl (fun _ => 0))))] s.heap.size = A at hD hE ⊢
  have hA : ∀ q : Nat, s.heap.size ≤ q → A q := fun q h => by rw [← hAe]; exact Or.inr h
  have hS : va_S A s.heap s.heap [] := va_S.rf
  have hP : va_P D vwCl [(x0, .inr (15, [.ref x1, .ref x8, .ref x20, .ref x39, .ref x41, .ref x43, .ref x45])), (x45, .inr (5, [.ref x46, .ref x47, .int 0, .int 0])), (o1, .inl (ty 1, 1, .inr (.inl (fun _ => 0))))] s.heap := hP
  have hl := lv_entry ([.ref x0, .ref o1]) (n := 3) (Nat.le_of_ble_eq_true rfl)
  rw [lg_entry_eq]
  generalize (lg_sl ([.ref x0, .ref o1]) ++ List.replicate (3 - (lg_sl ([.ref x0, .ref o1])).length) Slot.unset).toArray = ls at hl ⊢
  have hl : lv_has ls 3 [(0, .ref x0), (1, .ref o1)] := hl
  refine lv_aload_n hx hb dL_commonest_0 rfl (lv_at hl 1 rfl) ?_
  refine lv_iconst (v := 0) hx hb dL_commonest_1 (by decide) ?_
  refine lv_aload_n hx hb dL_commonest_2 rfl (lv_at hl 0 rfl) ?_
  refine wq_xi (wc := [(x0, .inr (15, [.ref x1, .ref x8, .ref x20, .ref x39, .ref x41, .ref x43, .ref x45])), (x45, .inr (5, [.ref x46, .ref x47, .int 0, .int 0]))]) (wr := [(o1, .inl (ty 1, 1, .inr (.inl (fun _ => 0))))]) (vx_runV (As := []) (rest := [.int 0, .ref o1]) ⟨hx, hb, hml, hown, hts⟩ (k_X10_commonest l hl9 D ty td mi s.heap.size x0 x1 x8 x20 x39 x41 x43 x45 x46 x47) (cwV 0 hts gv_k_L_commonest_0 rfl rfl rfl (by decide +kernel) ⟨(Nat.le_of_ble_eq_true rfl), (Nat.le_of_ble_eq_true rfl)⟩) (wq_preV hP hD hK hE hS hA [0, 1] rfl (by decide) 0 15 rfl rfl) rfl rfl hl.1 rfl (lv_room (Nat.le_of_ble_eq_true rfl)) dL_commonest_3 ⟨(Nat.le_of_ble_eq_true rfl), (Nat.le_of_ble_eq_true rfl)⟩) hS hA hP hD [0, 1] [2] rfl rfl (by decide) (by decide) (fun E9 u H locs q9 ce hw hP hD hS hce hcv hcl => ?_) (fun r u H locs hw hP hD hS => ?_)
  · have hEq := hw
    cases hEq
    have hP : va_P D vwCl [(o1, .inl (ty 1, 1, .inr (.inl (fun _ => 0))))] H := hP
    have hD : va_D A [(o1, .inl (ty 1, 1, .inr (.inl (fun _ => 0))))] := hD
    refine vx_widen (k := 1) (n := 6) (Nat.le_of_ble_eq_true rfl) (Nat.le_of_ble_eq_true rfl) ?_
    refine vx_catch (own := RL) (name := "java/lang/IllegalStateException") (E := "java/lang/IllegalStateException") hown [] ⟨0, 8, 11, 15⟩ [⟨0, 8, 14, 101⟩] (by rw [hTab]; rfl) (fun z hz => nomatch hz) (by decide) (by decide) (hts (.classLink RL 15 "java/lang/IllegalStateException") (by decide +kernel)) (va_Nw.use rfl (hE.ca "java/lang/IllegalStateException" "java/lang/IllegalStateException" (by decide +kernel))) hce hcv hcl ?_
    refine lv_astore_n (lv' := [(2, .ref q9), (0, .ref x0), (1, .ref o1)]) hx hb dL_commonest_11 rfl hl (by decide) rfl (fun ls hl => ?_)
    refine lv_iconst (v := 1) hx hb dL_commonest_12 (by decide) ?_
    have hP9 := hP.sub (ws' := [(o1, .inl (ty 1, 1, .inr (.inl (fun _ => 0))))]) [0] rfl
    have hD9 := hD.sub (ws' := [(o1, .inl (ty 1, 1, .inr (.inl (fun _ => 0))))]) [0] (by decide) rfl
    refine W.widen (k := 1) (n := 6) (Nat.le_of_ble_eq_true rfl) (Nat.le_of_ble_eq_true rfl) ?_
    refine vx_ret ?_
    exact W.iret (v := 1) hx hb hr (fun t ht hW => ⟨⟨1, [(o1, .inl (ty 1, 1, .inr (.inl (fun _ => 0))))], rfl, ⟨rfl, rfl⟩, wq_B.of ht hP9 hD9⟩, hS.F ht⟩) hS.2.2 dL_commonest_13
  · exact hw.elim
def vs_k_L_meanSize : List Cond := .codeWith yL_meanSize cL_meanSize 3 (some .int) [(0, 7, 10, 15), (0, 7, 13, 107)] :: ([.methodLink RL 112 yX10_meanSize, .instanceMethod yX10_meanSize, .selects RX10 yX10_meanSize yX10_meanSize, .initialized RX10, .classLink RL 15 "java/lang/IllegalStateException"] ++ (vs_k_X10_meanSize))
set_option maxRecDepth 20000 in
theorem gv_k_L_meanSize_0 : GoodIn vs_k_L_meanSize (wsV RL 112 RX10 yX10_meanSize vs_k_X10_meanSize) := goodIn_app (goodIn_sub (by decide +kernel) (by decide +kernel)) (goodIn_sub (fun _ h => List.mem_cons_of_mem _ (List.mem_append_right _ (h))) (by decide +kernel))
set_option maxHeartbeats 4000000 in
set_option maxRecDepth 100000 in
theorem k_L_meanSize (l : Launch) (hl9 : l.stackTraces = false) (D : va_G) (ty : Nat → ClassId) (td mi sz : Nat) (x0 : Nat) (x1 : Nat) (x8 : Nat) (x20 : Nat) (x39 : Nat) (x41 : Nat) (x43 : Nat) (x45 : Nat) (x46 : Nat) (x47 : Nat) (o1 : Nat) : vx_Met l yL_meanSize vs_k_L_meanSize { frames := 8, cells := 1, slots := 6, locals := 124 } (va_Pc [.ref x0, .ref o1] (wq_P D ty td mi [(x0, .inr (15, [.ref x1, .ref x8, .ref x20, .ref x39, .ref x41, .ref x43, .ref x45])), (x45, .inr (5, [.ref x46, .ref x47, .int 0, .int 0])), (o1, .inl (ty 7, 1, .inr (.inr (.inr (.inl (fun _ => 0))))))] sz)) (va_Qi (fun (r : Int32) (u : va_W) => (r = 1 ∧ (u = [(o1, .inl (ty 7, 1, .inr (.inr (.inr (.inl (fun _ => 0))))))]))) (wq_B D (va_A [(x0, .inr (15, [.ref x1, .ref x8, .ref x20, .ref x39, .ref x41, .ref x43, .ref x45])), (x45, .inr (5, [.ref x46, .ref x47, .int 0, .int 0])), (o1, .inl (ty 7, 1, .inr (.inr (.inr (.inl (fun _ => 0))))))] sz)) (va_A [(x0, .inr (15, [.ref x1, .ref x8, .ref x20, .ref x39, .ref x41, .ref x43, .ref x45])), (x45, .inr (5, [.ref x46, .ref x47, .int 0, .int 0])), (o1, .inl (ty 7, 1, .inr (.inr (.inr (.inl (fun _ => 0))))))] sz)) (vx_X (fun u : String × va_W => False) (wq_BX D (va_A [(x0, .inr (15, [.ref x1, .ref x8, .ref x20, .ref x39, .ref x41, .ref x43, .ref x45])), (x45, .inr (5, [.ref x46, .ref x47, .int 0, .int 0])), (o1, .inl (ty 7, 1, .inr (.inr (.inr (.inl (fun _ => 0))))))] sz)) (va_A [(x0, .inr (15, [.ref x1, .ref x8, .ref x20, .ref x39, .ref x41, .ref x43, .ref x45])), (x45, .inr (5, [.ref x46, .ref x47, .int 0, .int 0])), (o1, .inl (ty 7, 1, .inr (.inr (.inr (.inl (fun _ => 0))))))] sz)) 1 6 (va_A [(x0, .inr (15, [.ref x1, .ref x8, .ref x20, .ref x39, .ref x41, .ref x43, .ref x45])), (x45, .inr (5, [.ref x46, .ref x47, .int 0, .int 0])), (o1, .inl (ty 7, 1, .inr (.inr (.inr (.inl (fun _ => 0))))))] sz) := by
  refine vx_ofWH (cc := cL_meanSize) (maxL := 3) (ret := (some .int)) (hh := [(0, 7, 10, 15), (0, 7, 13, 107)]) (by decide) rfl ?_
  intro p e s m args below meth c s₁ B hml hv
  obtain ⟨rfl, hsz, hP, hK, hD0, hE⟩ := hv
  have hx := B.exec
  have hb := B.bytes
  have hr := B.returns
  have hts := atoms_spec (ws := vs_k_L_meanSize) B.pre
  have hown : s.vm.findClass RL = some m.cls := findClass_of_methodNamed B.named
  have hlocks := B.notSynchronized
  have hTab := vx_table (x := yL_walk) B (hts _ List.mem_cons_self)
  subst hsz
  have hD := hD0.self (sz := s.heap.size)
  generalize hAe : va_A [(x0, .inr (15, [.ref x1, .ref x8, .ref x20, .ref x39, .ref x41, .ref x43, .ref x45])), (x45, .inr (5, [.ref x46, .ref x47, .int 0, .int 0])), (o1, .inl (ty 7, 1, .inr (.inr (.inr (.inl (fun _ => 0))))))] s.heap.size = A at hD hE ⊢
  have hA : ∀ q : Nat, s.heap.size ≤ q → A q := fun q h => by rw [← hAe]; exact Or.inr h
  have hS : va_S A s.heap s.heap [] := va_S.rf
  have hP : va_P D vwCl [(x0, .inr (15, [.ref x1, .ref x8, .ref x20, .ref x39, .ref x41, .ref x43, .ref x45])), (x45, .inr (5, [.ref x46, .ref x47, .int 0, .int 0])), (o1, .inl (ty 7, 1, .inr (.inr (.inr (.inl (fun _ => 0))))))] s.heap := hP
  have hl := lv_entry ([.ref x0, .ref o1]) (n := 3) (Nat.le_of_ble_eq_true rfl)
  rw [lg_entry_eq]
  generalize (lg_sl ([.ref x0, .ref o1]) ++ List.replicate (3 - (lg_sl ([.ref x0, .ref o1])).length) Slot.unset).toArray = ls at hl ⊢
  have hl : lv_has ls 3 [(0, .ref x0), (1, .ref o1)] := hl
  refine lv_aload_n hx hb dL_meanSize_0 rfl (lv_at hl 1 rfl) ?_
  refine lv_iconst (v := 0) hx hb dL_meanSize_1 (by decide) ?_
  refine lv_aload_n hx hb dL_meanSize_2 rfl (lv_at hl 0 rfl) ?_
  refine wq_xd (wc := [(x0, .inr (15, [.ref x1, .ref x8, .ref x20, .ref x39, .ref x41, .ref x43, .ref x45])), (x45, .inr (5, [.ref x46, .ref x47, .int 0, .int 0]))]) (wr := [(o1, .inl (ty 7, 1, .inr (.inr (.inr (.inl (fun _ => 0))))))]) (vx_runV (As := []) (rest := [.int 0, .ref o1]) ⟨hx, hb, hml, hown, hts⟩ (k_X10_meanSize l hl9 D ty td mi s.heap.size x0 x1 x8 x20 x39 x41 x43 x45 x46 x47) (cwV 0 hts gv_k_L_meanSize_0 rfl rfl rfl (by decide +kernel) ⟨(Nat.le_of_ble_eq_true rfl), (Nat.le_of_ble_eq_true rfl)⟩) (wq_preV hP hD hK hE hS hA [0, 1] rfl (by decide) 0 15 rfl rfl) rfl rfl hl.1 rfl (lv_room (Nat.le_of_ble_eq_true rfl)) dL_meanSize_3 ⟨(Nat.le_of_ble_eq_true rfl), (Nat.le_of_ble_eq_true rfl)⟩) hS hA hP hD [0, 1] [2] rfl rfl (by decide) (by decide) (fun E9 u H locs q9 ce hw hP hD hS hce hcv hcl => ?_) (fun r u H locs hw hP hD hS => ?_)
  · have hEq := hw
    cases hEq
    have hP : va_P D vwCl [(o1, .inl (ty 7, 1, .inr (.inr (.inr (.inl (fun _ => 0))))))] H := hP
    have hD : va_D A [(o1, .inl (ty 7, 1, .inr (.inr (.inr (.inl (fun _ => 0))))))] := hD
    refine vx_widen (k := 1) (n := 6) (Nat.le_of_ble_eq_true rfl) (Nat.le_of_ble_eq_true rfl) ?_
    refine vx_catch (own := RL) (name := "java/lang/IllegalStateException") (E := "java/lang/IllegalStateException") hown [] ⟨0, 7, 10, 15⟩ [⟨0, 7, 13, 107⟩] (by rw [hTab]; rfl) (fun z hz => nomatch hz) (by decide) (by decide) (hts (.classLink RL 15 "java/lang/IllegalStateException") (by decide +kernel)) (va_Nw.use rfl (hE.ca "java/lang/IllegalStateException" "java/lang/IllegalStateException" (by decide +kernel))) hce hcv hcl ?_
    refine lv_astore_n (lv' := [(2, .ref q9), (0, .ref x0), (1, .ref o1)]) hx hb dL_meanSize_10 rfl hl (by decide) rfl (fun ls hl => ?_)
    refine lv_iconst (v := 1) hx hb dL_meanSize_11 (by decide) ?_
    have hP9 := hP.sub (ws' := [(o1, .inl (ty 7, 1, .inr (.inr (.inr (.inl (fun _ => 0))))))]) [0] rfl
    have hD9 := hD.sub (ws' := [(o1, .inl (ty 7, 1, .inr (.inr (.inr (.inl (fun _ => 0))))))]) [0] (by decide) rfl
    refine W.widen (k := 1) (n := 6) (Nat.le_of_ble_eq_true rfl) (Nat.le_of_ble_eq_true rfl) ?_
    refine vx_ret ?_
    exact W.iret (v := 1) hx hb hr (fun t ht hW => ⟨⟨1, [(o1, .inl (ty 7, 1, .inr (.inr (.inr (.inl (fun _ => 0))))))], rfl, ⟨rfl, rfl⟩, wq_B.of ht hP9 hD9⟩, hS.F ht⟩) hS.2.2 dL_meanSize_12
  · exact hw.elim
def vs_k_L_loops : List Cond := .codeWith yL_loops cL_loops 3 (some .int) [(0, 8, 11, 70)] :: ([.methodLink RL 66 yX10_loops, .instanceMethod yX10_loops, .selects RX10 yX10_loops yX10_loops, .initialized RX10] ++ (vs_k_X10_loops))
set_option maxRecDepth 20000 in
theorem gv_k_L_loops_0 : GoodIn vs_k_L_loops (wsV RL 66 RX10 yX10_loops vs_k_X10_loops) := goodIn_app (goodIn_sub (by decide +kernel) (by decide +kernel)) (goodIn_sub (fun _ h => List.mem_cons_of_mem _ (List.mem_append_right _ (h))) (by decide +kernel))
set_option maxHeartbeats 4000000 in
set_option maxRecDepth 100000 in
theorem k_L_loops (l : Launch) (D : va_G) (ty : Nat → ClassId) (td mi sz : Nat) (x0 : Nat) (x1 : Nat) (x8 : Nat) (x20 : Nat) (x39 : Nat) (x41 : Nat) (x43 : Nat) (x45 : Nat) (x2 : Nat) (x3 : Nat) (x4 : Nat) (x5 : Nat) (x6 : Nat) (x7 : Nat) (x9 : Nat) (x10 : Nat) (x12 : Nat) (x14 : Nat) (x15 : Nat) (x16 : Nat) (x17 : Nat) (x18 : Nat) (x19 : Nat) (x11 : Nat) (x13 : Nat) (x40 : Nat) (o1 : Nat) : vx_Met l yL_loops vs_k_L_loops { frames := 4, cells := 0, slots := 0, locals := 89 } (va_Pc [.ref x0, .ref o1] (wq_P D ty td mi [(x0, .inr (15, [.ref x1, .ref x8, .ref x20, .ref x39, .ref x41, .ref x43, .ref x45])), (x1, .inr (11, [.ref x2, .int 0, .ref x3, .int 0, .ref x4, .ref x5, .int 1, .ref x6, .ref x7, .int 0])), (x8, .inr (8, [.ref x1, .ref x9, .ref x10, .ref x12, .ref x14, .int 0, .ref x15, .ref x16, .ref x17, .int 0, .ref x18, .ref x19, .int 0, .int 0, .int 0, .int 0])), (x10, .inr (6, [.ref x11])), (x11, .inl (ty 1, 6, .inr (.inl (fun _ => 0)))), (x12, .inr (6, [.ref x13])), (x13, .inl (ty 1, 6, .inr (.inl (fun _ => 0)))), (x17, .inl (ty 0, 20, .inl (fun _ => 0))), (x19, .inl (ty 0, 384, .inl (fun _ => 0))), (x39, .inr (10, [.ref x8, .ref x40])), (o1, .inl (ty 1, 1, .inr (.inl (fun _ => 0))))] sz)) (va_Qi (fun (r : Int32) (u : va_W) => (r = 0 ∧ (u = [(o1, .inl (ty 1, 1, .inr (.inl (fun _ => 0))))]))) (wq_B D (va_A [(x0, .inr (15, [.ref x1, .ref x8, .ref x20, .ref x39, .ref x41, .ref x43, .ref x45])), (x1, .inr (11, [.ref x2, .int 0, .ref x3, .int 0, .ref x4, .ref x5, .int 1, .ref x6, .ref x7, .int 0])), (x8, .inr (8, [.ref x1, .ref x9, .ref x10, .ref x12, .ref x14, .int 0, .ref x15, .ref x16, .ref x17, .int 0, .ref x18, .ref x19, .int 0, .int 0, .int 0, .int 0])), (x10, .inr (6, [.ref x11])), (x11, .inl (ty 1, 6, .inr (.inl (fun _ => 0)))), (x12, .inr (6, [.ref x13])), (x13, .inl (ty 1, 6, .inr (.inl (fun _ => 0)))), (x17, .inl (ty 0, 20, .inl (fun _ => 0))), (x19, .inl (ty 0, 384, .inl (fun _ => 0))), (x39, .inr (10, [.ref x8, .ref x40])), (o1, .inl (ty 1, 1, .inr (.inl (fun _ => 0))))] sz)) (va_A [(x0, .inr (15, [.ref x1, .ref x8, .ref x20, .ref x39, .ref x41, .ref x43, .ref x45])), (x1, .inr (11, [.ref x2, .int 0, .ref x3, .int 0, .ref x4, .ref x5, .int 1, .ref x6, .ref x7, .int 0])), (x8, .inr (8, [.ref x1, .ref x9, .ref x10, .ref x12, .ref x14, .int 0, .ref x15, .ref x16, .ref x17, .int 0, .ref x18, .ref x19, .int 0, .int 0, .int 0, .int 0])), (x10, .inr (6, [.ref x11])), (x11, .inl (ty 1, 6, .inr (.inl (fun _ => 0)))), (x12, .inr (6, [.ref x13])), (x13, .inl (ty 1, 6, .inr (.inl (fun _ => 0)))), (x17, .inl (ty 0, 20, .inl (fun _ => 0))), (x19, .inl (ty 0, 384, .inl (fun _ => 0))), (x39, .inr (10, [.ref x8, .ref x40])), (o1, .inl (ty 1, 1, .inr (.inl (fun _ => 0))))] sz)) (vx_X (fun u : String × va_W => False) (wq_BX D (va_A [(x0, .inr (15, [.ref x1, .ref x8, .ref x20, .ref x39, .ref x41, .ref x43, .ref x45])), (x1, .inr (11, [.ref x2, .int 0, .ref x3, .int 0, .ref x4, .ref x5, .int 1, .ref x6, .ref x7, .int 0])), (x8, .inr (8, [.ref x1, .ref x9, .ref x10, .ref x12, .ref x14, .int 0, .ref x15, .ref x16, .ref x17, .int 0, .ref x18, .ref x19, .int 0, .int 0, .int 0, .int 0])), (x10, .inr (6, [.ref x11])), (x11, .inl (ty 1, 6, .inr (.inl (fun _ => 0)))), (x12, .inr (6, [.ref x13])), (x13, .inl (ty 1, 6, .inr (.inl (fun _ => 0)))), (x17, .inl (ty 0, 20, .inl (fun _ => 0))), (x19, .inl (ty 0, 384, .inl (fun _ => 0))), (x39, .inr (10, [.ref x8, .ref x40])), (o1, .inl (ty 1, 1, .inr (.inl (fun _ => 0))))] sz)) (va_A [(x0, .inr (15, [.ref x1, .ref x8, .ref x20, .ref x39, .ref x41, .ref x43, .ref x45])), (x1, .inr (11, [.ref x2, .int 0, .ref x3, .int 0, .ref x4, .ref x5, .int 1, .ref x6, .ref x7, .int 0])), (x8, .inr (8, [.ref x1, .ref x9, .ref x10, .ref x12, .ref x14, .int 0, .ref x15, .ref x16, .ref x17, .int 0, .ref x18, .ref x19, .int 0, .int 0, .int 0, .int 0])), (x10, .inr (6, [.ref x11])), (x11, .inl (ty 1, 6, .inr (.inl (fun _ => 0)))), (x12, .inr (6, [.ref x13])), (x13, .inl (ty 1, 6, .inr (.inl (fun _ => 0)))), (x17, .inl (ty 0, 20, .inl (fun _ => 0))), (x19, .inl (ty 0, 384, .inl (fun _ => 0))), (x39, .inr (10, [.ref x8, .ref x40])), (o1, .inl (ty 1, 1, .inr (.inl (fun _ => 0))))] sz)) 0 0 (va_A [(x0, .inr (15, [.ref x1, .ref x8, .ref x20, .ref x39, .ref x41, .ref x43, .ref x45])), (x1, .inr (11, [.ref x2, .int 0, .ref x3, .int 0, .ref x4, .ref x5, .int 1, .ref x6, .ref x7, .int 0])), (x8, .inr (8, [.ref x1, .ref x9, .ref x10, .ref x12, .ref x14, .int 0, .ref x15, .ref x16, .ref x17, .int 0, .ref x18, .ref x19, .int 0, .int 0, .int 0, .int 0])), (x10, .inr (6, [.ref x11])), (x11, .inl (ty 1, 6, .inr (.inl (fun _ => 0)))), (x12, .inr (6, [.ref x13])), (x13, .inl (ty 1, 6, .inr (.inl (fun _ => 0)))), (x17, .inl (ty 0, 20, .inl (fun _ => 0))), (x19, .inl (ty 0, 384, .inl (fun _ => 0))), (x39, .inr (10, [.ref x8, .ref x40])), (o1, .inl (ty 1, 1, .inr (.inl (fun _ => 0))))] sz) := by
  refine vx_ofWH (cc := cL_loops) (maxL := 3) (ret := (some .int)) (hh := [(0, 8, 11, 70)]) (by decide) rfl ?_
  intro p e s m args below meth c s₁ B hml hv
  obtain ⟨rfl, hsz, hP, hK, hD0, hE⟩ := hv
  have hx := B.exec
  have hb := B.bytes
  have hr := B.returns
  have hts := atoms_spec (ws := vs_k_L_loops) B.pre
  have hown : s.vm.findClass RL = some m.cls := findClass_of_methodNamed B.named
  have hlocks := B.notSynchronized
  have hTab := vx_table (x := yL_walk) B (hts _ List.mem_cons_self)
  subst hsz
  have hD := hD0.self (sz := s.heap.size)
  generalize hAe : va_A [(x0, .inr (15, [.ref x1, .ref x8, .ref x20, .ref x39, .ref x41, .ref x43, .ref x45])), (x1, .inr (11, [.ref x2, .int 0, .ref x3, .int 0, .ref x4, .ref x5, .int 1, .ref x6, .ref x7, .int 0])), (x8, .inr (8, [.ref x1, .ref x9, .ref x10, .ref x12, .ref x14, .int 0, .ref x15, .ref x16, .ref x17, .int 0, .ref x18, .ref x19, .int 0, .int 0, .int 0, .int 0])), (x10, .inr (6, [.ref x11])), (x11, .inl (ty 1, 6, .inr (.inl (fun _ => 0)))), (x12, .inr (6, [.ref x13])), (x13, .inl (ty 1, 6, .inr (.inl (fun _ => 0)))), (x17, .inl (ty 0, 20, .inl (fun _ => 0))), (x19, .inl (ty 0, 384, .inl (fun _ => 0))), (x39, .inr (10, [.ref x8, .ref x40])), (o1, .inl (ty 1, 1, .inr (.inl (fun _ => 0))))] s.heap.size = A at hD hE ⊢
  have hA : ∀ q : Nat, s.heap.size ≤ q → A q := fun q h => by rw [← hAe]; exact Or.inr h
  have hS : va_S A s.heap s.heap [] := va_S.rf
  have hP : va_P D vwCl [(x0, .inr (15, [.ref x1, .ref x8, .ref x20, .ref x39, .ref x41, .ref x43, .ref x45])), (x1, .inr (11, [.ref x2, .int 0, .ref x3, .int 0, .ref x4, .ref x5, .int 1, .ref x6, .ref x7, .int 0])), (x8, .inr (8, [.ref x1, .ref x9, .ref x10, .ref x12, .ref x14, .int 0, .ref x15, .ref x16, .ref x17, .int 0, .ref x18, .ref x19, .int 0, .int 0, .int 0, .int 0])), (x10, .inr (6, [.ref x11])), (x11, .inl (ty 1, 6, .inr (.inl (fun _ => 0)))), (x12, .inr (6, [.ref x13])), (x13, .inl (ty 1, 6, .inr (.inl (fun _ => 0)))), (x17, .inl (ty 0, 20, .inl (fun _ => 0))), (x19, .inl (ty 0, 384, .inl (fun _ => 0))), (x39, .inr (10, [.ref x8, .ref x40])), (o1, .inl (ty 1, 1, .inr (.inl (fun _ => 0))))] s.heap := hP
  have hl := lv_entry ([.ref x0, .ref o1]) (n := 3) (Nat.le_of_ble_eq_true rfl)
  rw [lg_entry_eq]
  generalize (lg_sl ([.ref x0, .ref o1]) ++ List.replicate (3 - (lg_sl ([.ref x0, .ref o1])).length) Slot.unset).toArray = ls at hl ⊢
  have hl : lv_has ls 3 [(0, .ref x0), (1, .ref o1)] := hl
  refine lv_aload_n hx hb dL_loops_0 rfl (lv_at hl 1 rfl) ?_
  refine lv_iconst (v := 0) hx hb dL_loops_1 (by decide) ?_
  refine lv_aload_n hx hb dL_loops_2 rfl (lv_at hl 0 rfl) ?_
  refine wq_i (wc := [(x0, .inr (15, [.ref x1, .ref x8, .ref x20, .ref x39, .ref x41, .ref x43, .ref x45])), (x1, .inr (11, [.ref x2, .int 0, .ref x3, .int 0, .ref x4, .ref x5, .int 1, .ref x6, .ref x7, .int 0])), (x8, .inr (8, [.ref x1, .ref x9, .ref x10, .ref x12, .ref x14, .int 0, .ref x15, .ref x16, .ref x17, .int 0, .ref x18, .ref x19, .int 0, .int 0, .int 0, .int 0])), (x10, .inr (6, [.ref x11])), (x11, .inl (ty 1, 6, .inr (.inl (fun _ => 0)))), (x12, .inr (6, [.ref x13])), (x13, .inl (ty 1, 6, .inr (.inl (fun _ => 0)))), (x17, .inl (ty 0, 20, .inl (fun _ => 0))), (x19, .inl (ty 0, 384, .inl (fun _ => 0))), (x39, .inr (10, [.ref x8, .ref x40]))]) (wr := [(o1, .inl (ty 1, 1, .inr (.inl (fun _ => 0))))]) (va_runV (As := []) (rest := [.int 0, .ref o1]) ⟨hx, hb, hml, hown, hts⟩ (k_X10_loops l D ty td mi s.heap.size x0 x1 x8 x20 x39 x41 x43 x45 x2 x3 x4 x5 x6 x7 x9 x10 x12 x14 x15 x16 x17 x18 x19 x11 x13 x40) (cwV 0 hts gv_k_L_loops_0 rfl rfl rfl (by decide +kernel) ⟨(Nat.le_of_ble_eq_true rfl), (Nat.le_of_ble_eq_true rfl)⟩) (wq_preV hP hD hK hE hS hA [0, 1, 2, 3, 4, 5, 6, 7, 8, 9] rfl (by decide) 0 15 rfl rfl) rfl rfl hl.1 rfl (lv_room (Nat.le_of_ble_eq_true rfl)) dL_loops_3 ⟨(Nat.le_of_ble_eq_true rfl), (Nat.le_of_ble_eq_true rfl)⟩) hS hA hP hD [0, 1, 2, 3, 4, 5, 6, 7, 8, 9] [10] rfl rfl (by decide) (by decide) (fun r u H locs hw hP hD hS => ?_)
  obtain ⟨rfl, rfl⟩ := hw
  have hP : va_P D vwCl [(o1, .inl (ty 1, 1, .inr (.inl (fun _ => 0))))] H := hP
  have hD : va_D A [(o1, .inl (ty 1, 1, .inr (.inl (fun _ => 0))))] := hD
  refine W.widen (k := 0) (n := 0) (Nat.le_of_ble_eq_true rfl) (Nat.le_of_ble_eq_true rfl) ?_
  refine lv_i2l (v := 0) hx hb dL_loops_6 (by decide) ?_
  refine va_last (D := D) hx hb hK hP hD hS 0 1 rfl rfl (vp_in_iff.mpr (by decide)) dL_loops_7 (fun H locs hP hD hS => ?_)
  rw [wq_updL0] at hP hD
  have hP : va_P D vwCl [(o1, .inl (ty 1, 1, .inr (.inl (fun _ => 0))))] H := hP
  have hD : va_D A [(o1, .inl (ty 1, 1, .inr (.inl (fun _ => 0))))] := hD
  refine lv_goto (tgt := 14) hx hb dL_loops_8 (by decide) ?_
  refine lv_iconst (v := 0) hx hb dL_loops_14 (by decide) ?_
  have hP9 := hP.sub (ws' := [(o1, .inl (ty 1, 1, .inr (.inl (fun _ => 0))))]) [0] rfl
  have hD9 := hD.sub (ws' := [(o1, .inl (ty 1, 1, .inr (.inl (fun _ => 0))))]) [0] (by decide) rfl
  refine W.widen (k := 0) (n := 0) (Nat.le_of_ble_eq_true rfl) (Nat.le_of_ble_eq_true rfl) ?_
  refine vx_ret ?_
  exact W.iret (v := 0) hx hb hr (fun t ht hW => ⟨⟨0, [(o1, .inl (ty 1, 1, .inr (.inl (fun _ => 0))))], rfl, ⟨rfl, rfl⟩, wq_B.of ht hP9 hD9⟩, hS.F ht⟩) hS.2.2 dL_loops_15
def vs_k_L_walk : List Cond := .codeWith yL_walk cL_walk 3 (some .int) [(0, 8, 11, 70)] :: ([.methodLink RL 72 yX10_walk, .instanceMethod yX10_walk, .selects RX10 yX10_walk yX10_walk, .initialized RX10] ++ (vs_k_X10_walk))
set_option maxRecDepth 20000 in
theorem gv_k_L_walk_0 : GoodIn vs_k_L_walk (wsV RL 72 RX10 yX10_walk vs_k_X10_walk) := goodIn_app (goodIn_sub (by decide +kernel) (by decide +kernel)) (goodIn_sub (fun _ h => List.mem_cons_of_mem _ (List.mem_append_right _ (h))) (by decide +kernel))
set_option maxHeartbeats 4000000 in
set_option maxRecDepth 100000 in
theorem k_L_walk (l : Launch) (D : va_G) (ty : Nat → ClassId) (td mi sz : Nat) (x0 : Nat) (x1 : Nat) (x8 : Nat) (x20 : Nat) (x39 : Nat) (x41 : Nat) (x43 : Nat) (x45 : Nat) (x2 : Nat) (x3 : Nat) (x4 : Nat) (x5 : Nat) (x6 : Nat) (x7 : Nat) (x9 : Nat) (x10 : Nat) (x12 : Nat) (x14 : Nat) (x15 : Nat) (x16 : Nat) (x17 : Nat) (x18 : Nat) (x19 : Nat) (x11 : Nat) (x13 : Nat) (x21 : Nat) (x28 : Nat) (x35 : Nat) (x36 : Nat) (x37 : Nat) (x38 : Nat) (x22 : Nat) (x23 : Nat) (x24 : Nat) (x25 : Nat) (x26 : Nat) (x27 : Nat) (x29 : Nat) (x30 : Nat) (x31 : Nat) (x32 : Nat) (x33 : Nat) (x34 : Nat) (x42 : Nat) (x44 : Nat) (x46 : Nat) (x47 : Nat) (o1 : Nat) : vx_Met l yL_walk vs_k_L_walk { frames := 5, cells := 0, slots := 0, locals := 122 } (va_Pc [.ref x0, .ref o1] (wq_P D ty td mi [(x0, .inr (15, [.ref x1, .ref x8, .ref x20, .ref x39, .ref x41, .ref x43, .ref x45])), (x1, .inr (11, [.ref x2, .int 0, .ref x3, .int 0, .ref x4, .ref x5, .int 1, .ref x6, .ref x7, .int 0])), (x8, .inr (8, [.ref x1, .ref x9, .ref x10, .ref x12, .ref x14, .int 0, .ref x15, .ref x16, .ref x17, .int 0, .ref x18, .ref x19, .int 0, .int 0, .int 0, .int 0])), (x10, .inr (6, [.ref x11])), (x11, .inl (ty 1, 6, .inr (.inl (fun _ => 0)))), (x12, .inr (6, [.ref x13])), (x13, .inl (ty 1, 6, .inr (.inl (fun _ => 0)))), (x17, .inl (ty 0, 20, .inl (fun _ => 0))), (x19, .inl (ty 0, 384, .inl (fun _ => 0))), (x20, .inr (14, [.ref x1, .ref x8, .ref x21, .ref x28, .ref x35, .int 0, .ref x36, .ref x37, .ref x38, .int 0, .int 0, .int 0, .int 0, .int 0, .int 0, .int 0, .int 0])), (x21, .inr (12, [.ref x22, .ref x23, .ref x24, .ref x25, .ref x26, .ref x27, .int 0])), (x28, .inr (12, [.ref x29, .ref x30, .ref x31, .ref x32, .ref x33, .ref x34, .int 0])), (x36, .inl (ty 0, 6, .inl (fun _ => 0))), (x37, .inl (ty 0, 6, .inl (fun _ => 0))), (x38, .inl (ty 0, 26, .inl (fun _ => 0))), (x41, .inr (6, [.ref x42])), (x42, .inl (ty 1, 6, .inr (.inl (fun _ => 0)))), (x43, .inr (6, [.ref x44])), (x44, .inl (ty 1, 6, .inr (.inl (fun _ => 0)))), (x45, .inr (5, [.ref x46, .ref x47, .int 0, .int 0])), (x46, .inl (ty 0, 64, .inl (fun _ => 0))), (x47, .inl (ty 1, 192, .inr (.inl (fun _ => 0)))), (o1, .inl (ty 1, 1, .inr (.inl (fun _ => 0))))] sz)) (va_Qi (fun (r : Int32) (u : va_W) => (r = 0 ∧ (u = [(o1, .inl (ty 1, 1, .inr (.inl (vp_updL (fun _ => 0) (0 : Int32).toNatClampNeg 1))))]))) (wq_B D (va_A [(x0, .inr (15, [.ref x1, .ref x8, .ref x20, .ref x39, .ref x41, .ref x43, .ref x45])), (x1, .inr (11, [.ref x2, .int 0, .ref x3, .int 0, .ref x4, .ref x5, .int 1, .ref x6, .ref x7, .int 0])), (x8, .inr (8, [.ref x1, .ref x9, .ref x10, .ref x12, .ref x14, .int 0, .ref x15, .ref x16, .ref x17, .int 0, .ref x18, .ref x19, .int 0, .int 0, .int 0, .int 0])), (x10, .inr (6, [.ref x11])), (x11, .inl (ty 1, 6, .inr (.inl (fun _ => 0)))), (x12, .inr (6, [.ref x13])), (x13, .inl (ty 1, 6, .inr (.inl (fun _ => 0)))), (x17, .inl (ty 0, 20, .inl (fun _ => 0))), (x19, .inl (ty 0, 384, .inl (fun _ => 0))), (x20, .inr (14, [.ref x1, .ref x8, .ref x21, .ref x28, .ref x35, .int 0, .ref x36, .ref x37, .ref x38, .int 0, .int 0, .int 0, .int 0, .int 0, .int 0, .int 0, .int 0])), (x21, .inr (12, [.ref x22, .ref x23, .ref x24, .ref x25, .ref x26, .ref x27, .int 0])), (x28, .inr (12, [.ref x29, .ref x30, .ref x31, .ref x32, .ref x33, .ref x34, .int 0])), (x36, .inl (ty 0, 6, .inl (fun _ => 0))), (x37, .inl (ty 0, 6, .inl (fun _ => 0))), (x38, .inl (ty 0, 26, .inl (fun _ => 0))), (x41, .inr (6, [.ref x42])), (x42, .inl (ty 1, 6, .inr (.inl (fun _ => 0)))), (x43, .inr (6, [.ref x44])), (x44, .inl (ty 1, 6, .inr (.inl (fun _ => 0)))), (x45, .inr (5, [.ref x46, .ref x47, .int 0, .int 0])), (x46, .inl (ty 0, 64, .inl (fun _ => 0))), (x47, .inl (ty 1, 192, .inr (.inl (fun _ => 0)))), (o1, .inl (ty 1, 1, .inr (.inl (fun _ => 0))))] sz)) (va_A [(x0, .inr (15, [.ref x1, .ref x8, .ref x20, .ref x39, .ref x41, .ref x43, .ref x45])), (x1, .inr (11, [.ref x2, .int 0, .ref x3, .int 0, .ref x4, .ref x5, .int 1, .ref x6, .ref x7, .int 0])), (x8, .inr (8, [.ref x1, .ref x9, .ref x10, .ref x12, .ref x14, .int 0, .ref x15, .ref x16, .ref x17, .int 0, .ref x18, .ref x19, .int 0, .int 0, .int 0, .int 0])), (x10, .inr (6, [.ref x11])), (x11, .inl (ty 1, 6, .inr (.inl (fun _ => 0)))), (x12, .inr (6, [.ref x13])), (x13, .inl (ty 1, 6, .inr (.inl (fun _ => 0)))), (x17, .inl (ty 0, 20, .inl (fun _ => 0))), (x19, .inl (ty 0, 384, .inl (fun _ => 0))), (x20, .inr (14, [.ref x1, .ref x8, .ref x21, .ref x28, .ref x35, .int 0, .ref x36, .ref x37, .ref x38, .int 0, .int 0, .int 0, .int 0, .int 0, .int 0, .int 0, .int 0])), (x21, .inr (12, [.ref x22, .ref x23, .ref x24, .ref x25, .ref x26, .ref x27, .int 0])), (x28, .inr (12, [.ref x29, .ref x30, .ref x31, .ref x32, .ref x33, .ref x34, .int 0])), (x36, .inl (ty 0, 6, .inl (fun _ => 0))), (x37, .inl (ty 0, 6, .inl (fun _ => 0))), (x38, .inl (ty 0, 26, .inl (fun _ => 0))), (x41, .inr (6, [.ref x42])), (x42, .inl (ty 1, 6, .inr (.inl (fun _ => 0)))), (x43, .inr (6, [.ref x44])), (x44, .inl (ty 1, 6, .inr (.inl (fun _ => 0)))), (x45, .inr (5, [.ref x46, .ref x47, .int 0, .int 0])), (x46, .inl (ty 0, 64, .inl (fun _ => 0))), (x47, .inl (ty 1, 192, .inr (.inl (fun _ => 0)))), (o1, .inl (ty 1, 1, .inr (.inl (fun _ => 0))))] sz)) (vx_X (fun u : String × va_W => False) (wq_BX D (va_A [(x0, .inr (15, [.ref x1, .ref x8, .ref x20, .ref x39, .ref x41, .ref x43, .ref x45])), (x1, .inr (11, [.ref x2, .int 0, .ref x3, .int 0, .ref x4, .ref x5, .int 1, .ref x6, .ref x7, .int 0])), (x8, .inr (8, [.ref x1, .ref x9, .ref x10, .ref x12, .ref x14, .int 0, .ref x15, .ref x16, .ref x17, .int 0, .ref x18, .ref x19, .int 0, .int 0, .int 0, .int 0])), (x10, .inr (6, [.ref x11])), (x11, .inl (ty 1, 6, .inr (.inl (fun _ => 0)))), (x12, .inr (6, [.ref x13])), (x13, .inl (ty 1, 6, .inr (.inl (fun _ => 0)))), (x17, .inl (ty 0, 20, .inl (fun _ => 0))), (x19, .inl (ty 0, 384, .inl (fun _ => 0))), (x20, .inr (14, [.ref x1, .ref x8, .ref x21, .ref x28, .ref x35, .int 0, .ref x36, .ref x37, .ref x38, .int 0, .int 0, .int 0, .int 0, .int 0, .int 0, .int 0, .int 0])), (x21, .inr (12, [.ref x22, .ref x23, .ref x24, .ref x25, .ref x26, .ref x27, .int 0])), (x28, .inr (12, [.ref x29, .ref x30, .ref x31, .ref x32, .ref x33, .ref x34, .int 0])), (x36, .inl (ty 0, 6, .inl (fun _ => 0))), (x37, .inl (ty 0, 6, .inl (fun _ => 0))), (x38, .inl (ty 0, 26, .inl (fun _ => 0))), (x41, .inr (6, [.ref x42])), (x42, .inl (ty 1, 6, .inr (.inl (fun _ => 0)))), (x43, .inr (6, [.ref x44])), (x44, .inl (ty 1, 6, .inr (.inl (fun _ => 0)))), (x45, .inr (5, [.ref x46, .ref x47, .int 0, .int 0])), (x46, .inl (ty 0, 64, .inl (fun _ => 0))), (x47, .inl (ty 1, 192, .inr (.inl (fun _ => 0)))), (o1, .inl (ty 1, 1, .inr (.inl (fun _ => 0))))] sz)) (va_A [(x0, .inr (15, [.ref x1, .ref x8, .ref x20, .ref x39, .ref x41, .ref x43, .ref x45])), (x1, .inr (11, [.ref x2, .int 0, .ref x3, .int 0, .ref x4, .ref x5, .int 1, .ref x6, .ref x7, .int 0])), (x8, .inr (8, [.ref x1, .ref x9, .ref x10, .ref x12, .ref x14, .int 0, .ref x15, .ref x16, .ref x17, .int 0, .ref x18, .ref x19, .int 0, .int 0, .int 0, .int 0])), (x10, .inr (6, [.ref x11])), (x11, .inl (ty 1, 6, .inr (.inl (fun _ => 0)))), (x12, .inr (6, [.ref x13])), (x13, .inl (ty 1, 6, .inr (.inl (fun _ => 0)))), (x17, .inl (ty 0, 20, .inl (fun _ => 0))), (x19, .inl (ty 0, 384, .inl (fun _ => 0))), (x20, .inr (14, [.ref x1, .ref x8, .ref x21, .ref x28, .ref x35, .int 0, .ref x36, .ref x37, .ref x38, .int 0, .int 0, .int 0, .int 0, .int 0, .int 0, .int 0, .int 0])), (x21, .inr (12, [.ref x22, .ref x23, .ref x24, .ref x25, .ref x26, .ref x27, .int 0])), (x28, .inr (12, [.ref x29, .ref x30, .ref x31, .ref x32, .ref x33, .ref x34, .int 0])), (x36, .inl (ty 0, 6, .inl (fun _ => 0))), (x37, .inl (ty 0, 6, .inl (fun _ => 0))), (x38, .inl (ty 0, 26, .inl (fun _ => 0))), (x41, .inr (6, [.ref x42])), (x42, .inl (ty 1, 6, .inr (.inl (fun _ => 0)))), (x43, .inr (6, [.ref x44])), (x44, .inl (ty 1, 6, .inr (.inl (fun _ => 0)))), (x45, .inr (5, [.ref x46, .ref x47, .int 0, .int 0])), (x46, .inl (ty 0, 64, .inl (fun _ => 0))), (x47, .inl (ty 1, 192, .inr (.inl (fun _ => 0)))), (o1, .inl (ty 1, 1, .inr (.inl (fun _ => 0))))] sz)) 0 0 (va_A [(x0, .inr (15, [.ref x1, .ref x8, .ref x20, .ref x39, .ref x41, .ref x43, .ref x45])), (x1, .inr (11, [.ref x2, .int 0, .ref x3, .int 0, .ref x4, .ref x5, .int 1, .ref x6, .ref x7, .int 0])), (x8, .inr (8, [.ref x1, .ref x9, .ref x10, .ref x12, .ref x14, .int 0, .ref x15, .ref x16, .ref x17, .int 0, .ref x18, .ref x19, .int 0, .int 0, .int 0, .int 0])), (x10, .inr (6, [.ref x11])), (x11, .inl (ty 1, 6, .inr (.inl (fun _ => 0)))), (x12, .inr (6, [.ref x13])), (x13, .inl (ty 1, 6, .inr (.inl (fun _ => 0)))), (x17, .inl (ty 0, 20, .inl (fun _ => 0))), (x19, .inl (ty 0, 384, .inl (fun _ => 0))), (x20, .inr (14, [.ref x1, .ref x8, .ref x21, .ref x28, .ref x35, .int 0, .ref x36, .ref x37, .ref x38, .int 0, .int 0, .int 0, .int 0, .int 0, .int 0, .int 0, .int 0])), (x21, .inr (12, [.ref x22, .ref x23, .ref x24, .ref x25, .ref x26, .ref x27, .int 0])), (x28, .inr (12, [.ref x29, .ref x30, .ref x31, .ref x32, .ref x33, .ref x34, .int 0])), (x36, .inl (ty 0, 6, .inl (fun _ => 0))), (x37, .inl (ty 0, 6, .inl (fun _ => 0))), (x38, .inl (ty 0, 26, .inl (fun _ => 0))), (x41, .inr (6, [.ref x42])), (x42, .inl (ty 1, 6, .inr (.inl (fun _ => 0)))), (x43, .inr (6, [.ref x44])), (x44, .inl (ty 1, 6, .inr (.inl (fun _ => 0)))), (x45, .inr (5, [.ref x46, .ref x47, .int 0, .int 0])), (x46, .inl (ty 0, 64, .inl (fun _ => 0))), (x47, .inl (ty 1, 192, .inr (.inl (fun _ => 0)))), (o1, .inl (ty 1, 1, .inr (.inl (fun _ => 0))))] sz) := by
  refine vx_ofWH (cc := cL_walk) (maxL := 3) (ret := (some .int)) (hh := [(0, 8, 11, 70)]) (by decide) rfl ?_
  intro p e s m args below meth c s₁ B hml hv
  obtain ⟨rfl, hsz, hP, hK, hD0, hE⟩ := hv
  have hx := B.exec
  have hb := B.bytes
  have hr := B.returns
  have hts := atoms_spec (ws := vs_k_L_walk) B.pre
  have hown : s.vm.findClass RL = some m.cls := findClass_of_methodNamed B.named
  have hlocks := B.notSynchronized
  have hTab := vx_table (x := yL_walk) B (hts _ List.mem_cons_self)
  subst hsz
  have hD := hD0.self (sz := s.heap.size)
  generalize hAe : va_A [(x0, .inr (15, [.ref x1, .ref x8, .ref x20, .ref x39, .ref x41, .ref x43, .ref x45])), (x1, .inr (11, [.ref x2, .int 0, .ref x3, .int 0, .ref x4, .ref x5, .int 1, .ref x6, .ref x7, .int 0])), (x8, .inr (8, [.ref x1, .ref x9, .ref x10, .ref x12, .ref x14, .int 0, .ref x15, .ref x16, .ref x17, .int 0, .ref x18, .ref x19, .int 0, .int 0, .int 0, .int 0])), (x10, .inr (6, [.ref x11])), (x11, .inl (ty 1, 6, .inr (.inl (fun _ => 0)))), (x12, .inr (6, [.ref x13])), (x13, .inl (ty 1, 6, .inr (.inl (fun _ => 0)))), (x17, .inl (ty 0, 20, .inl (fun _ => 0))), (x19, .inl (ty 0, 384, .inl (fun _ => 0))), (x20, .inr (14, [.ref x1, .ref x8, .ref x21, .ref x28, .ref x35, .int 0, .ref x36, .ref x37, .ref x38, .int 0, .int 0, .int 0, .int 0, .int 0, .int 0, .int 0, .int 0])), (x21, .inr (12, [.ref x22, .ref x23, .ref x24, .ref x25, .ref x26, .ref x27, .int 0])), (x28, .inr (12, [.ref x29, .ref x30, .ref x31, .ref x32, .ref x33, .ref x34, .int 0])), (x36, .inl (ty 0, 6, .inl (fun _ => 0))), (x37, .inl (ty 0, 6, .inl (fun _ => 0))), (x38, .inl (ty 0, 26, .inl (fun _ => 0))), (x41, .inr (6, [.ref x42])), (x42, .inl (ty 1, 6, .inr (.inl (fun _ => 0)))), (x43, .inr (6, [.ref x44])), (x44, .inl (ty 1, 6, .inr (.inl (fun _ => 0)))), (x45, .inr (5, [.ref x46, .ref x47, .int 0, .int 0])), (x46, .inl (ty 0, 64, .inl (fun _ => 0))), (x47, .inl (ty 1, 192, .inr (.inl (fun _ => 0)))), (o1, .inl (ty 1, 1, .inr (.inl (fun _ => 0))))] s.heap.size = A at hD hE ⊢
  have hA : ∀ q : Nat, s.heap.size ≤ q → A q := fun q h => by rw [← hAe]; exact Or.inr h
  have hS : va_S A s.heap s.heap [] := va_S.rf
  have hP : va_P D vwCl [(x0, .inr (15, [.ref x1, .ref x8, .ref x20, .ref x39, .ref x41, .ref x43, .ref x45])), (x1, .inr (11, [.ref x2, .int 0, .ref x3, .int 0, .ref x4, .ref x5, .int 1, .ref x6, .ref x7, .int 0])), (x8, .inr (8, [.ref x1, .ref x9, .ref x10, .ref x12, .ref x14, .int 0, .ref x15, .ref x16, .ref x17, .int 0, .ref x18, .ref x19, .int 0, .int 0, .int 0, .int 0])), (x10, .inr (6, [.ref x11])), (x11, .inl (ty 1, 6, .inr (.inl (fun _ => 0)))), (x12, .inr (6, [.ref x13])), (x13, .inl (ty 1, 6, .inr (.inl (fun _ => 0)))), (x17, .inl (ty 0, 20, .inl (fun _ => 0))), (x19, .inl (ty 0, 384, .inl (fun _ => 0))), (x20, .inr (14, [.ref x1, .ref x8, .ref x21, .ref x28, .ref x35, .int 0, .ref x36, .ref x37, .ref x38, .int 0, .int 0, .int 0, .int 0, .int 0, .int 0, .int 0, .int 0])), (x21, .inr (12, [.ref x22, .ref x23, .ref x24, .ref x25, .ref x26, .ref x27, .int 0])), (x28, .inr (12, [.ref x29, .ref x30, .ref x31, .ref x32, .ref x33, .ref x34, .int 0])), (x36, .inl (ty 0, 6, .inl (fun _ => 0))), (x37, .inl (ty 0, 6, .inl (fun _ => 0))), (x38, .inl (ty 0, 26, .inl (fun _ => 0))), (x41, .inr (6, [.ref x42])), (x42, .inl (ty 1, 6, .inr (.inl (fun _ => 0)))), (x43, .inr (6, [.ref x44])), (x44, .inl (ty 1, 6, .inr (.inl (fun _ => 0)))), (x45, .inr (5, [.ref x46, .ref x47, .int 0, .int 0])), (x46, .inl (ty 0, 64, .inl (fun _ => 0))), (x47, .inl (ty 1, 192, .inr (.inl (fun _ => 0)))), (o1, .inl (ty 1, 1, .inr (.inl (fun _ => 0))))] s.heap := hP
  have hl := lv_entry ([.ref x0, .ref o1]) (n := 3) (Nat.le_of_ble_eq_true rfl)
  rw [lg_entry_eq]
  generalize (lg_sl ([.ref x0, .ref o1]) ++ List.replicate (3 - (lg_sl ([.ref x0, .ref o1])).length) Slot.unset).toArray = ls at hl ⊢
  have hl : lv_has ls 3 [(0, .ref x0), (1, .ref o1)] := hl
  refine lv_aload_n hx hb dL_walk_0 rfl (lv_at hl 1 rfl) ?_
  refine lv_iconst (v := 0) hx hb dL_walk_1 (by decide) ?_
  refine lv_aload_n hx hb dL_walk_2 rfl (lv_at hl 0 rfl) ?_
  refine wq_i (wc := [(x0, .inr (15, [.ref x1, .ref x8, .ref x20, .ref x39, .ref x41, .ref x43, .ref x45])), (x1, .inr (11, [.ref x2, .int 0, .ref x3, .int 0, .ref x4, .ref x5, .int 1, .ref x6, .ref x7, .int 0])), (x8, .inr (8, [.ref x1, .ref x9, .ref x10, .ref x12, .ref x14, .int 0, .ref x15, .ref x16, .ref x17, .int 0, .ref x18, .ref x19, .int 0, .int 0, .int 0, .int 0])), (x10, .inr (6, [.ref x11])), (x11, .inl (ty 1, 6, .inr (.inl (fun _ => 0)))), (x12, .inr (6, [.ref x13])), (x13, .inl (ty 1, 6, .inr (.inl (fun _ => 0)))), (x17, .inl (ty 0, 20, .inl (fun _ => 0))), (x19, .inl (ty 0, 384, .inl (fun _ => 0))), (x20, .inr (14, [.ref x1, .ref x8, .ref x21, .ref x28, .ref x35, .int 0, .ref x36, .ref x37, .ref x38, .int 0, .int 0, .int 0, .int 0, .int 0, .int 0, .int 0, .int 0])), (x21, .inr (12, [.ref x22, .ref x23, .ref x24, .ref x25, .ref x26, .ref x27, .int 0])), (x28, .inr (12, [.ref x29, .ref x30, .ref x31, .ref x32, .ref x33, .ref x34, .int 0])), (x36, .inl (ty 0, 6, .inl (fun _ => 0))), (x37, .inl (ty 0, 6, .inl (fun _ => 0))), (x38, .inl (ty 0, 26, .inl (fun _ => 0))), (x41, .inr (6, [.ref x42])), (x42, .inl (ty 1, 6, .inr (.inl (fun _ => 0)))), (x43, .inr (6, [.ref x44])), (x44, .inl (ty 1, 6, .inr (.inl (fun _ => 0)))), (x45, .inr (5, [.ref x46, .ref x47, .int 0, .int 0])), (x46, .inl (ty 0, 64, .inl (fun _ => 0))), (x47, .inl (ty 1, 192, .inr (.inl (fun _ => 0))))]) (wr := [(o1, .inl (ty 1, 1, .inr (.inl (fun _ => 0))))]) (va_runV (As := []) (rest := [.int 0, .ref o1]) ⟨hx, hb, hml, hown, hts⟩ (k_X10_walk l D ty td mi s.heap.size x0 x1 x8 x20 x39 x41 x43 x45 x2 x3 x4 x5 x6 x7 x9 x10 x12 x14 x15 x16 x17 x18 x19 x11 x13 x21 x28 x35 x36 x37 x38 x22 x23 x24 x25 x26 x27 x29 x30 x31 x32 x33 x34 x42 x44 x46 x47) (cwV 0 hts gv_k_L_walk_0 rfl rfl rfl (by decide +kernel) ⟨(Nat.le_of_ble_eq_true rfl), (Nat.le_of_ble_eq_true rfl)⟩) (wq_preV hP hD hK hE hS hA [0, 1, 2, 3, 4, 5, 6, 7, 8, 9, 10, 11, 12, 13, 14, 15, 16, 17, 18, 19, 20, 21] rfl (by decide) 0 15 rfl rfl) rfl rfl hl.1 rfl (lv_room (Nat.le_of_ble_eq_true rfl)) dL_walk_3 ⟨(Nat.le_of_ble_eq_true rfl), (Nat.le_of_ble_eq_true rfl)⟩) hS hA hP hD [0, 1, 2, 3, 4, 5, 6, 7, 8, 9, 10, 11, 12, 13, 14, 15, 16, 17, 18, 19, 20, 21] [22] rfl rfl (by decide) (by decide) (fun r u H locs hw hP hD hS => ?_)
  obtain ⟨rfl, rfl⟩ := hw
  have hP : va_P D vwCl [(o1, .inl (ty 1, 1, .inr (.inl (fun _ => 0))))] H := hP
  have hD : va_D A [(o1, .inl (ty 1, 1, .inr (.inl (fun _ => 0))))] := hD
  refine W.widen (k := 0) (n := 0) (Nat.le_of_ble_eq_true rfl) (Nat.le_of_ble_eq_true rfl) ?_
  refine lv_i2l (v := 1) hx hb dL_walk_6 (by decide) ?_
  refine va_last (D := D) hx hb hK hP hD hS 0 1 rfl rfl (vp_in_iff.mpr (by decide)) dL_walk_7 (fun H locs hP hD hS => ?_)
  have hP : va_P D vwCl [(o1, .inl (ty 1, 1, .inr (.inl (vp_updL (fun _ => 0) (0 : Int32).toNatClampNeg 1))))] H := hP
  have hD : va_D A [(o1, .inl (ty 1, 1, .inr (.inl (vp_updL (fun _ => 0) (0 : Int32).toNatClampNeg 1))))] := hD
  refine lv_goto (tgt := 14) hx hb dL_walk_8 (by decide) ?_
  refine lv_iconst (v := 0) hx hb dL_walk_14 (by decide) ?_
  have hP9 := hP.sub (ws' := [(o1, .inl (ty 1, 1, .inr (.inl (vp_updL (fun _ => 0) (0 : Int32).toNatClampNeg 1))))]) [0] rfl
  have hD9 := hD.sub (ws' := [(o1, .inl (ty 1, 1, .inr (.inl (vp_updL (fun _ => 0) (0 : Int32).toNatClampNeg 1))))]) [0] (by decide) rfl
  refine W.widen (k := 0) (n := 0) (Nat.le_of_ble_eq_true rfl) (Nat.le_of_ble_eq_true rfl) ?_
  refine vx_ret ?_
  exact W.iret (v := 0) hx hb hr (fun t ht hW => ⟨⟨0, [(o1, .inl (ty 1, 1, .inr (.inl (vp_updL (fun _ => 0) (0 : Int32).toNatClampNeg 1))))], rfl, ⟨rfl, rfl⟩, wq_B.of ht hP9 hD9⟩, hS.F ht⟩) hS.2.2 dL_walk_15
def vs_k_L_walkByAll : List Cond := .codeWith yL_walkByAll cL_walkByAll 3 (some .int) [(0, 8, 11, 70)] :: ([.methodLink RL 75 yX10_walkByAll, .instanceMethod yX10_walkByAll, .selects RX10 yX10_walkByAll yX10_walkByAll, .initialized RX10] ++ (vs_k_X10_walkByAll))
set_option maxRecDepth 20000 in
theorem gv_k_L_walkByAll_0 : GoodIn vs_k_L_walkByAll (wsV RL 75 RX10 yX10_walkByAll vs_k_X10_walkByAll) := goodIn_app (goodIn_sub (by decide +kernel) (by decide +kernel)) (goodIn_sub (fun _ h => List.mem_cons_of_mem _ (List.mem_append_right _ (h))) (by decide +kernel))
set_option maxHeartbeats 4000000 in
set_option maxRecDepth 100000 in
theorem k_L_walkByAll (l : Launch) (D : va_G) (ty : Nat → ClassId) (td mi sz : Nat) (x0 : Nat) (x1 : Nat) (x8 : Nat) (x20 : Nat) (x39 : Nat) (x41 : Nat) (x43 : Nat) (x45 : Nat) (x2 : Nat) (x3 : Nat) (x4 : Nat) (x5 : Nat) (x6 : Nat) (x7 : Nat) (x9 : Nat) (x10 : Nat) (x12 : Nat) (x14 : Nat) (x15 : Nat) (x16 : Nat) (x17 : Nat) (x18 : Nat) (x19 : Nat) (x11 : Nat) (x13 : Nat) (x21 : Nat) (x28 : Nat) (x35 : Nat) (x36 : Nat) (x37 : Nat) (x38 : Nat) (x22 : Nat) (x23 : Nat) (x24 : Nat) (x25 : Nat) (x26 : Nat) (x27 : Nat) (x29 : Nat) (x30 : Nat) (x31 : Nat) (x32 : Nat) (x33 : Nat) (x34 : Nat) (x42 : Nat) (x44 : Nat) (o1 : Nat) : vx_Met l yL_walkByAll vs_k_L_walkByAll { frames := 5, cells := 0, slots := 0, locals := 111 } (va_Pc [.ref x0, .ref o1] (wq_P D ty td mi [(x0, .inr (15, [.ref x1, .ref x8, .ref x20, .ref x39, .ref x41, .ref x43, .ref x45])), (x1, .inr (11, [.ref x2, .int 0, .ref x3, .int 0, .ref x4, .ref x5, .int 1, .ref x6, .ref x7, .int 0])), (x8, .inr (8, [.ref x1, .ref x9, .ref x10, .ref x12, .ref x14, .int 0, .ref x15, .ref x16, .ref x17, .int 0, .ref x18, .ref x19, .int 0, .int 0, .int 0, .int 0])), (x10, .inr (6, [.ref x11])), (x11, .inl (ty 1, 6, .inr (.inl (fun _ => 0)))), (x12, .inr (6, [.ref x13])), (x13, .inl (ty 1, 6, .inr (.inl (fun _ => 0)))), (x17, .inl (ty 0, 20, .inl (fun _ => 0))), (x19, .inl (ty 0, 384, .inl (fun _ => 0))), (x20, .inr (14, [.ref x1, .ref x8, .ref x21, .ref x28, .ref x35, .int 0, .ref x36, .ref x37, .ref x38, .int 0, .int 0, .int 0, .int 0, .int 0, .int 0, .int 0, .int 0])), (x21, .inr (12, [.ref x22, .ref x23, .ref x24, .ref x25, .ref x26, .ref x27, .int 0])), (x28, .inr (12, [.ref x29, .ref x30, .ref x31, .ref x32, .ref x33, .ref x34, .int 0])), (x36, .inl (ty 0, 6, .inl (fun _ => 0))), (x37, .inl (ty 0, 6, .inl (fun _ => 0))), (x41, .inr (6, [.ref x42])), (x42, .inl (ty 1, 6, .inr (.inl (fun _ => 0)))), (x43, .inr (6, [.ref x44])), (x44, .inl (ty 1, 6, .inr (.inl (fun _ => 0)))), (o1, .inl (ty 1, 1, .inr (.inl (fun _ => 0))))] sz)) (va_Qi (fun (r : Int32) (u : va_W) => (r = 0 ∧ (u = [(o1, .inl (ty 1, 1, .inr (.inl (vp_updL (fun _ => 0) (0 : Int32).toNatClampNeg 1))))]))) (wq_B D (va_A [(x0, .inr (15, [.ref x1, .ref x8, .ref x20, .ref x39, .ref x41, .ref x43, .ref x45])), (x1, .inr (11, [.ref x2, .int 0, .ref x3, .int 0, .ref x4, .ref x5, .int 1, .ref x6, .ref x7, .int 0])), (x8, .inr (8, [.ref x1, .ref x9, .ref x10, .ref x12, .ref x14, .int 0, .ref x15, .ref x16, .ref x17, .int 0, .ref x18, .ref x19, .int 0, .int 0, .int 0, .int 0])), (x10, .inr (6, [.ref x11])), (x11, .inl (ty 1, 6, .inr (.inl (fun _ => 0)))), (x12, .inr (6, [.ref x13])), (x13, .inl (ty 1, 6, .inr (.inl (fun _ => 0)))), (x17, .inl (ty 0, 20, .inl (fun _ => 0))), (x19, .inl (ty 0, 384, .inl (fun _ => 0))), (x20, .inr (14, [.ref x1, .ref x8, .ref x21, .ref x28, .ref x35, .int 0, .ref x36, .ref x37, .ref x38, .int 0, .int 0, .int 0, .int 0, .int 0, .int 0, .int 0, .int 0])), (x21, .inr (12, [.ref x22, .ref x23, .ref x24, .ref x25, .ref x26, .ref x27, .int 0])), (x28, .inr (12, [.ref x29, .ref x30, .ref x31, .ref x32, .ref x33, .ref x34, .int 0])), (x36, .inl (ty 0, 6, .inl (fun _ => 0))), (x37, .inl (ty 0, 6, .inl (fun _ => 0))), (x41, .inr (6, [.ref x42])), (x42, .inl (ty 1, 6, .inr (.inl (fun _ => 0)))), (x43, .inr (6, [.ref x44])), (x44, .inl (ty 1, 6, .inr (.inl (fun _ => 0)))), (o1, .inl (ty 1, 1, .inr (.inl (fun _ => 0))))] sz)) (va_A [(x0, .inr (15, [.ref x1, .ref x8, .ref x20, .ref x39, .ref x41, .ref x43, .ref x45])), (x1, .inr (11, [.ref x2, .int 0, .ref x3, .int 0, .ref x4, .ref x5, .int 1, .ref x6, .ref x7, .int 0])), (x8, .inr (8, [.ref x1, .ref x9, .ref x10, .ref x12, .ref x14, .int 0, .ref x15, .ref x16, .ref x17, .int 0, .ref x18, .ref x19, .int 0, .int 0, .int 0, .int 0])), (x10, .inr (6, [.ref x11])), (x11, .inl (ty 1, 6, .inr (.inl (fun _ => 0)))), (x12, .inr (6, [.ref x13])), (x13, .inl (ty 1, 6, .inr (.inl (fun _ => 0)))), (x17, .inl (ty 0, 20, .inl (fun _ => 0))), (x19, .inl (ty 0, 384, .inl (fun _ => 0))), (x20, .inr (14, [.ref x1, .ref x8, .ref x21, .ref x28, .ref x35, .int 0, .ref x36, .ref x37, .ref x38, .int 0, .int 0, .int 0, .int 0, .int 0, .int 0, .int 0, .int 0])), (x21, .inr (12, [.ref x22, .ref x23, .ref x24, .ref x25, .ref x26, .ref x27, .int 0])), (x28, .inr (12, [.ref x29, .ref x30, .ref x31, .ref x32, .ref x33, .ref x34, .int 0])), (x36, .inl (ty 0, 6, .inl (fun _ => 0))), (x37, .inl (ty 0, 6, .inl (fun _ => 0))), (x41, .inr (6, [.ref x42])), (x42, .inl (ty 1, 6, .inr (.inl (fun _ => 0)))), (x43, .inr (6, [.ref x44])), (x44, .inl (ty 1, 6, .inr (.inl (fun _ => 0)))), (o1, .inl (ty 1, 1, .inr (.inl (fun _ => 0))))] sz)) (vx_X (fun u : String × va_W => False) (wq_BX D (va_A [(x0, .inr (15, [.ref x1, .ref x8, .ref x20, .ref x39, .ref x41, .ref x43, .ref x45])), (x1, .inr (11, [.ref x2, .int 0, .ref x3, .int 0, .ref x4, .ref x5, .int 1, .ref x6, .ref x7, .int 0])), (x8, .inr (8, [.ref x1, .ref x9, .ref x10, .ref x12, .ref x14, .int 0, .ref x15, .ref x16, .ref x17, .int 0, .ref x18, .ref x19, .int 0, .int 0, .int 0, .int 0])), (x10, .inr (6, [.ref x11])), (x11, .inl (ty 1, 6, .inr (.inl (fun _ => 0)))), (x12, .inr (6, [.ref x13])), (x13, .inl (ty 1, 6, .inr (.inl (fun _ => 0)))), (x17, .inl (ty 0, 20, .inl (fun _ => 0))), (x19, .inl (ty 0, 384, .inl (fun _ => 0))), (x20, .inr (14, [.ref x1, .ref x8, .ref x21, .ref x28, .ref x35, .int 0, .ref x36, .ref x37, .ref x38, .int 0, .int 0, .int 0, .int 0, .int 0, .int 0, .int 0, .int 0])), (x21, .inr (12, [.ref x22, .ref x23, .ref x24, .ref x25, .ref x26, .ref x27, .int 0])), (x28, .inr (12, [.ref x29, .ref x30, .ref x31, .ref x32, .ref x33, .ref x34, .int 0])), (x36, .inl (ty 0, 6, .inl (fun _ => 0))), (x37, .inl (ty 0, 6, .inl (fun _ => 0))), (x41, .inr (6, [.ref x42])), (x42, .inl (ty 1, 6, .inr (.inl (fun _ => 0)))), (x43, .inr (6, [.ref x44])), (x44, .inl (ty 1, 6, .inr (.inl (fun _ => 0)))), (o1, .inl (ty 1, 1, .inr (.inl (fun _ => 0))))] sz)) (va_A [(x0, .inr (15, [.ref x1, .ref x8, .ref x20, .ref x39, .ref x41, .ref x43, .ref x45])), (x1, .inr (11, [.ref x2, .int 0, .ref x3, .int 0, .ref x4, .ref x5, .int 1, .ref x6, .ref x7, .int 0])), (x8, .inr (8, [.ref x1, .ref x9, .ref x10, .ref x12, .ref x14, .int 0, .ref x15, .ref x16, .ref x17, .int 0, .ref x18, .ref x19, .int 0, .int 0, .int 0, .int 0])), (x10, .inr (6, [.ref x11])), (x11, .inl (ty 1, 6, .inr (.inl (fun _ => 0)))), (x12, .inr (6, [.ref x13])), (x13, .inl (ty 1, 6, .inr (.inl (fun _ => 0)))), (x17, .inl (ty 0, 20, .inl (fun _ => 0))), (x19, .inl (ty 0, 384, .inl (fun _ => 0))), (x20, .inr (14, [.ref x1, .ref x8, .ref x21, .ref x28, .ref x35, .int 0, .ref x36, .ref x37, .ref x38, .int 0, .int 0, .int 0, .int 0, .int 0, .int 0, .int 0, .int 0])), (x21, .inr (12, [.ref x22, .ref x23, .ref x24, .ref x25, .ref x26, .ref x27, .int 0])), (x28, .inr (12, [.ref x29, .ref x30, .ref x31, .ref x32, .ref x33, .ref x34, .int 0])), (x36, .inl (ty 0, 6, .inl (fun _ => 0))), (x37, .inl (ty 0, 6, .inl (fun _ => 0))), (x41, .inr (6, [.ref x42])), (x42, .inl (ty 1, 6, .inr (.inl (fun _ => 0)))), (x43, .inr (6, [.ref x44])), (x44, .inl (ty 1, 6, .inr (.inl (fun _ => 0)))), (o1, .inl (ty 1, 1, .inr (.inl (fun _ => 0))))] sz)) 0 0 (va_A [(x0, .inr (15, [.ref x1, .ref x8, .ref x20, .ref x39, .ref x41, .ref x43, .ref x45])), (x1, .inr (11, [.ref x2, .int 0, .ref x3, .int 0, .ref x4, .ref x5, .int 1, .ref x6, .ref x7, .int 0])), (x8, .inr (8, [.ref x1, .ref x9, .ref x10, .ref x12, .ref x14, .int 0, .ref x15, .ref x16, .ref x17, .int 0, .ref x18, .ref x19, .int 0, .int 0, .int 0, .int 0])), (x10, .inr (6, [.ref x11])), (x11, .inl (ty 1, 6, .inr (.inl (fun _ => 0)))), (x12, .inr (6, [.ref x13])), (x13, .inl (ty 1, 6, .inr (.inl (fun _ => 0)))), (x17, .inl (ty 0, 20, .inl (fun _ => 0))), (x19, .inl (ty 0, 384, .inl (fun _ => 0))), (x20, .inr (14, [.ref x1, .ref x8, .ref x21, .ref x28, .ref x35, .int 0, .ref x36, .ref x37, .ref x38, .int 0, .int 0, .int 0, .int 0, .int 0, .int 0, .int 0, .int 0])), (x21, .inr (12, [.ref x22, .ref x23, .ref x24, .ref x25, .ref x26, .ref x27, .int 0])), (x28, .inr (12, [.ref x29, .ref x30, .ref x31, .ref x32, .ref x33, .ref x34, .int 0])), (x36, .inl (ty 0, 6, .inl (fun _ => 0))), (x37, .inl (ty 0, 6, .inl (fun _ => 0))), (x41, .inr (6, [.ref x42])), (x42, .inl (ty 1, 6, .inr (.inl (fun _ => 0)))), (x43, .inr (6, [.ref x44])), (x44, .inl (ty 1, 6, .inr (.inl (fun _ => 0)))), (o1, .inl (ty 1, 1, .inr (.inl (fun _ => 0))))] sz) := by
  refine vx_ofWH (cc := cL_walkByAll) (maxL := 3) (ret := (some .int)) (hh := [(0, 8, 11, 70)]) (by decide) rfl ?_
  intro p e s m args below meth c s₁ B hml hv
  obtain ⟨rfl, hsz, hP, hK, hD0, hE⟩ := hv
  have hx := B.exec
  have hb := B.bytes
  have hr := B.returns
  have hts := atoms_spec (ws := vs_k_L_walkByAll) B.pre
  have hown : s.vm.findClass RL = some m.cls := findClass_of_methodNamed B.named
  have hlocks := B.notSynchronized
  have hTab := vx_table (x := yL_walk) B (hts _ List.mem_cons_self)
  subst hsz
  have hD := hD0.self (sz := s.heap.size)
  generalize hAe : va_A [(x0, .inr (15, [.ref x1, .ref x8, .ref x20, .ref x39, .ref x41, .ref x43, .ref x45])), (x1, .inr (11, [.ref x2, .int 0, .ref x3, .int 0, .ref x4, .ref x5, .int 1, .ref x6, .ref x7, .int 0])), (x8, .inr (8, [.ref x1, .ref x9, .ref x10, .ref x12, .ref x14, .int 0, .ref x15, .ref x16, .ref x17, .int 0, .ref x18, .ref x19, .int 0, .int 0, .int 0, .int 0])), (x10, .inr (6, [.ref x11])), (x11, .inl (ty 1, 6, .inr (.inl (fun _ => 0)))), (x12, .inr (6, [.ref x13])), (x13, .inl (ty 1, 6, .inr (.inl (fun _ => 0)))), (x17, .inl (ty 0, 20, .inl (fun _ => 0))), (x19, .inl (ty 0, 384, .inl (fun _ => 0))), (x20, .inr (14, [.ref x1, .ref x8, .ref x21, .ref x28, .ref x35, .int 0, .ref x36, .ref x37, .ref x38, .int 0, .int 0, .int 0, .int 0, .int 0, .int 0, .int 0, .int 0])), (x21, .inr (12, [.ref x22, .ref x23, .ref x24, .ref x25, .ref x26, .ref x27, .int 0])), (x28, .inr (12, [.ref x29, .ref x30, .ref x31, .ref x32, .ref x33, .ref x34, .int 0])), (x36, .inl (ty 0, 6, .inl (fun _ => 0))), (x37, .inl (ty 0, 6, .inl (fun _ => 0))), (x41, .inr (6, [.ref x42])), (x42, .inl (ty 1, 6, .inr (.inl (fun _ => 0)))), (x43, .inr (6, [.ref x44])), (x44, .inl (ty 1, 6, .inr (.inl (fun _ => 0)))), (o1, .inl (ty 1, 1, .inr (.inl (fun _ => 0))))] s.heap.size = A at hD hE ⊢
  have hA : ∀ q : Nat, s.heap.size ≤ q → A q := fun q h => by rw [← hAe]; exact Or.inr h
  have hS : va_S A s.heap s.heap [] := va_S.rf
  have hP : va_P D vwCl [(x0, .inr (15, [.ref x1, .ref x8, .ref x20, .ref x39, .ref x41, .ref x43, .ref x45])), (x1, .inr (11, [.ref x2, .int 0, .ref x3, .int 0, .ref x4, .ref x5, .int 1, .ref x6, .ref x7, .int 0])), (x8, .inr (8, [.ref x1, .ref x9, .ref x10, .ref x12, .ref x14, .int 0, .ref x15, .ref x16, .ref x17, .int 0, .ref x18, .ref x19, .int 0, .int 0, .int 0, .int 0])), (x10, .inr (6, [.ref x11])), (x11, .inl (ty 1, 6, .inr (.inl (fun _ => 0)))), (x12, .inr (6, [.ref x13])), (x13, .inl (ty 1, 6, .inr (.inl (fun _ => 0)))), (x17, .inl (ty 0, 20, .inl (fun _ => 0))), (x19, .inl (ty 0, 384, .inl (fun _ => 0))), (x20, .inr (14, [.ref x1, .ref x8, .ref x21, .ref x28, .ref x35, .int 0, .ref x36, .ref x37, .ref x38, .int 0, .int 0, .int 0, .int 0, .int 0, .int 0, .int 0, .int 0])), (x21, .inr (12, [.ref x22, .ref x23, .ref x24, .ref x25, .ref x26, .ref x27, .int 0])), (x28, .inr (12, [.ref x29, .ref x30, .ref x31, .ref x32, .ref x33, .ref x34, .int 0])), (x36, .inl (ty 0, 6, .inl (fun _ => 0))), (x37, .inl (ty 0, 6, .inl (fun _ => 0))), (x41, .inr (6, [.ref x42])), (x42, .inl (ty 1, 6, .inr (.inl (fun _ => 0)))), (x43, .inr (6, [.ref x44])), (x44, .inl (ty 1, 6, .inr (.inl (fun _ => 0)))), (o1, .inl (ty 1, 1, .inr (.inl (fun _ => 0))))] s.heap := hP
  have hl := lv_entry ([.ref x0, .ref o1]) (n := 3) (Nat.le_of_ble_eq_true rfl)
  rw [lg_entry_eq]
  generalize (lg_sl ([.ref x0, .ref o1]) ++ List.replicate (3 - (lg_sl ([.ref x0, .ref o1])).length) Slot.unset).toArray = ls at hl ⊢
  have hl : lv_has ls 3 [(0, .ref x0), (1, .ref o1)] := hl
  refine lv_aload_n hx hb dL_walkByAll_0 rfl (lv_at hl 1 rfl) ?_
  refine lv_iconst (v := 0) hx hb dL_walkByAll_1 (by decide) ?_
  refine lv_aload_n hx hb dL_walkByAll_2 rfl (lv_at hl 0 rfl) ?_
  refine wq_i (wc := [(x0, .inr (15, [.ref x1, .ref x8, .ref x20, .ref x39, .ref x41, .ref x43, .ref x45])), (x1, .inr (11, [.ref x2, .int 0, .ref x3, .int 0, .ref x4, .ref x5, .int 1, .ref x6, .ref x7, .int 0])), (x8, .inr (8, [.ref x1, .ref x9, .ref x10, .ref x12, .ref x14, .int 0, .ref x15, .ref x16, .ref x17, .int 0, .ref x18, .ref x19, .int 0, .int 0, .int 0, .int 0])), (x10, .inr (6, [.ref x11])), (x11, .inl (ty 1, 6, .inr (.inl (fun _ => 0)))), (x12, .inr (6, [.ref x13])), (x13, .inl (ty 1, 6, .inr (.inl (fun _ => 0)))), (x17, .inl (ty 0, 20, .inl (fun _ => 0))), (x19, .inl (ty 0, 384, .inl (fun _ => 0))), (x20, .inr (14, [.ref x1, .ref x8, .ref x21, .ref x28, .ref x35, .int 0, .ref x36, .ref x37, .ref x38, .int 0, .int 0, .int 0, .int 0, .int 0, .int 0, .int 0, .int 0])), (x21, .inr (12, [.ref x22, .ref x23, .ref x24, .ref x25, .ref x26, .ref x27, .int 0])), (x28, .inr (12, [.ref x29, .ref x30, .ref x31, .ref x32, .ref x33, .ref x34, .int 0])), (x36, .inl (ty 0, 6, .inl (fun _ => 0))), (x37, .inl (ty 0, 6, .inl (fun _ => 0))), (x41, .inr (6, [.ref x42])), (x42, .inl (ty 1, 6, .inr (.inl (fun _ => 0)))), (x43, .inr (6, [.ref x44])), (x44, .inl (ty 1, 6, .inr (.inl (fun _ => 0))))]) (wr := [(o1, .inl (ty 1, 1, .inr (.inl (fun _ => 0))))]) (va_runV (As := []) (rest := [.int 0, .ref o1]) ⟨hx, hb, hml, hown, hts⟩ (k_X10_walkByAll l D ty td mi s.heap.size x0 x1 x8 x20 x39 x41 x43 x45 x2 x3 x4 x5 x6 x7 x9 x10 x12 x14 x15 x16 x17 x18 x19 x11 x13 x21 x28 x35 x36 x37 x38 x22 x23 x24 x25 x26 x27 x29 x30 x31 x32 x33 x34 x42 x44) (cwV 0 hts gv_k_L_walkByAll_0 rfl rfl rfl (by decide +kernel) ⟨(Nat.le_of_ble_eq_true rfl), (Nat.le_of_ble_eq_true rfl)⟩) (wq_preV hP hD hK hE hS hA [0, 1, 2, 3, 4, 5, 6, 7, 8, 9, 10, 11, 12, 13, 14, 15, 16, 17] rfl (by decide) 0 15 rfl rfl) rfl rfl hl.1 rfl (lv_room (Nat.le_of_ble_eq_true rfl)) dL_walkByAll_3 ⟨(Nat.le_of_ble_eq_true rfl), (Nat.le_of_ble_eq_true rfl)⟩) hS hA hP hD [0, 1, 2, 3, 4, 5, 6, 7, 8, 9, 10, 11, 12, 13, 14, 15, 16, 17] [18] rfl rfl (by decide) (by decide) (fun r u H locs hw hP hD hS => ?_)
  obtain ⟨rfl, rfl⟩ := hw
  have hP : va_P D vwCl [(o1, .inl (ty 1, 1, .inr (.inl (fun _ => 0))))] H := hP
  have hD : va_D A [(o1, .inl (ty 1, 1, .inr (.inl (fun _ => 0))))] := hD
  refine W.widen (k := 0) (n := 0) (Nat.le_of_ble_eq_true rfl) (Nat.le_of_ble_eq_true rfl) ?_
  refine lv_i2l (v := 1) hx hb dL_walkByAll_6 (by decide) ?_
  refine va_last (D := D) hx hb hK hP hD hS 0 1 rfl rfl (vp_in_iff.mpr (by decide)) dL_walkByAll_7 (fun H locs hP hD hS => ?_)
  have hP : va_P D vwCl [(o1, .inl (ty 1, 1, .inr (.inl (vp_updL (fun _ => 0) (0 : Int32).toNatClampNeg 1))))] H := hP
  have hD : va_D A [(o1, .inl (ty 1, 1, .inr (.inl (vp_updL (fun _ => 0) (0 : Int32).toNatClampNeg 1))))] := hD
  refine lv_goto (tgt := 14) hx hb dL_walkByAll_8 (by decide) ?_
  refine lv_iconst (v := 0) hx hb dL_walkByAll_14 (by decide) ?_
  have hP9 := hP.sub (ws' := [(o1, .inl (ty 1, 1, .inr (.inl (vp_updL (fun _ => 0) (0 : Int32).toNatClampNeg 1))))]) [0] rfl
  have hD9 := hD.sub (ws' := [(o1, .inl (ty 1, 1, .inr (.inl (vp_updL (fun _ => 0) (0 : Int32).toNatClampNeg 1))))]) [0] (by decide) rfl
  refine W.widen (k := 0) (n := 0) (Nat.le_of_ble_eq_true rfl) (Nat.le_of_ble_eq_true rfl) ?_
  refine vx_ret ?_
  exact W.iret (v := 0) hx hb hr (fun t ht hW => ⟨⟨0, [(o1, .inl (ty 1, 1, .inr (.inl (vp_updL (fun _ => 0) (0 : Int32).toNatClampNeg 1))))], rfl, ⟨rfl, rfl⟩, wq_B.of ht hP9 hD9⟩, hS.F ht⟩) hS.2.2 dL_walkByAll_15
