theorem dX6_tellTime_0 : decode cX6_tellTime 0 = .ok (.aload_n 0, 1) := by decide +kernel
theorem dX6_tellTime_1 : decode cX6_tellTime 1 = .ok (.getfield 27, 3) := by decide +kernel
theorem dX6_tellTime_4 : decode cX6_tellTime 4 = .ok (.ifCond .lt 57, 3) := by decide +kernel
theorem dX6_tellTime_7 : decode cX6_tellTime 7 = .ok (.aload_n 0, 1) := by decide +kernel
theorem dX6_tellTime_8 : decode cX6_tellTime 8 = .ok (.getfield 27, 3) := by decide +kernel
theorem dX6_tellTime_11 : decode cX6_tellTime 11 = .ok (.aload_n 0, 1) := by decide +kernel
theorem dX6_tellTime_12 : decode cX6_tellTime 12 = .ok (.getfield 21, 3) := by decide +kernel
theorem dX6_tellTime_15 : decode cX6_tellTime 15 = .ok (.arraylength, 1) := by decide +kernel
theorem dX6_tellTime_16 : decode cX6_tellTime 16 = .ok (.if_icmp .ge 45, 3) := by decide +kernel
theorem dX6_tellTime_19 : decode cX6_tellTime 19 = .ok (.aload_n 0, 1) := by decide +kernel
theorem dX6_tellTime_20 : decode cX6_tellTime 20 = .ok (.getfield 27, 3) := by decide +kernel
theorem dX6_tellTime_23 : decode cX6_tellTime 23 = .ok (.aload_n 0, 1) := by decide +kernel
theorem dX6_tellTime_24 : decode cX6_tellTime 24 = .ok (.getfield 24, 3) := by decide +kernel
theorem dX6_tellTime_27 : decode cX6_tellTime 27 = .ok (.arraylength, 1) := by decide +kernel
theorem dX6_tellTime_28 : decode cX6_tellTime 28 = .ok (.if_icmp .ge 33, 3) := by decide +kernel
theorem dX6_tellTime_31 : decode cX6_tellTime 31 = .ok (.aload_n 0, 1) := by decide +kernel
theorem dX6_tellTime_32 : decode cX6_tellTime 32 = .ok (.getfield 21, 3) := by decide +kernel
theorem dX6_tellTime_35 : decode cX6_tellTime 35 = .ok (.aload_n 0, 1) := by decide +kernel
theorem dX6_tellTime_36 : decode cX6_tellTime 36 = .ok (.getfield 27, 3) := by decide +kernel
theorem dX6_tellTime_39 : decode cX6_tellTime 39 = .ok (.iload_n 1, 1) := by decide +kernel
theorem dX6_tellTime_40 : decode cX6_tellTime 40 = .ok (.iastore, 1) := by decide +kernel
theorem dX6_tellTime_41 : decode cX6_tellTime 41 = .ok (.aload_n 0, 1) := by decide +kernel
theorem dX6_tellTime_42 : decode cX6_tellTime 42 = .ok (.getfield 24, 3) := by decide +kernel
theorem dX6_tellTime_45 : decode cX6_tellTime 45 = .ok (.aload_n 0, 1) := by decide +kernel
theorem dX6_tellTime_46 : decode cX6_tellTime 46 = .ok (.getfield 27, 3) := by decide +kernel
theorem dX6_tellTime_49 : decode cX6_tellTime 49 = .ok (.iload_n 2, 1) := by decide +kernel
theorem dX6_tellTime_50 : decode cX6_tellTime 50 = .ok (.iastore, 1) := by decide +kernel
theorem dX6_tellTime_51 : decode cX6_tellTime 51 = .ok (.aload_n 0, 1) := by decide +kernel
theorem dX6_tellTime_52 : decode cX6_tellTime 52 = .ok (.dup, 1) := by decide +kernel
theorem dX6_tellTime_53 : decode cX6_tellTime 53 = .ok (.getfield 27, 3) := by decide +kernel
theorem dX6_tellTime_56 : decode cX6_tellTime 56 = .ok (.iconst 1, 1) := by decide +kernel
theorem dX6_tellTime_57 : decode cX6_tellTime 57 = .ok (.iadd, 1) := by decide +kernel
theorem dX6_tellTime_58 : decode cX6_tellTime 58 = .ok (.putfield 27, 3) := by decide +kernel
theorem dX6_tellTime_61 : decode cX6_tellTime 61 = .ok (.return_, 1) := by decide +kernel
theorem dX6_groundedByCalls_0 : decode cX6_groundedByCalls 0 = .ok (.aload_n 0, 1) := by decide +kernel
theorem dX6_groundedByCalls_1 : decode cX6_groundedByCalls 1 = .ok (.getfield 27, 3) := by decide +kernel
theorem dX6_groundedByCalls_4 : decode cX6_groundedByCalls 4 = .ok (.iconst 1, 1) := by decide +kernel
theorem dX6_groundedByCalls_5 : decode cX6_groundedByCalls 5 = .ok (.isub, 1) := by decide +kernel
theorem dX6_groundedByCalls_6 : decode cX6_groundedByCalls 6 = .ok (.ireturn, 1) := by decide +kernel
theorem dX6_isGrounded_0 : decode cX6_isGrounded 0 = .ok (.iconst 0, 1) := by decide +kernel
theorem dX6_isGrounded_1 : decode cX6_isGrounded 1 = .ok (.istore_n 3, 1) := by decide +kernel
theorem dX6_isGrounded_2 : decode cX6_isGrounded 2 = .ok (.iload_n 3, 1) := by decide +kernel
theorem dX6_isGrounded_3 : decode cX6_isGrounded 3 = .ok (.aload_n 0, 1) := by decide +kernel
theorem dX6_isGrounded_4 : decode cX6_isGrounded 4 = .ok (.getfield 27, 3) := by decide +kernel
theorem dX6_isGrounded_7 : decode cX6_isGrounded 7 = .ok (.if_icmp .ge 21, 3) := by decide +kernel
theorem dX6_isGrounded_10 : decode cX6_isGrounded 10 = .ok (.aload_n 0, 1) := by decide +kernel
theorem dX6_isGrounded_11 : decode cX6_isGrounded 11 = .ok (.iload_n 3, 1) := by decide +kernel
theorem dX6_isGrounded_12 : decode cX6_isGrounded 12 = .ok (.iload_n 1, 1) := by decide +kernel
theorem dX6_isGrounded_13 : decode cX6_isGrounded 13 = .ok (.invokevirtual 48, 3) := by decide +kernel
theorem dX6_isGrounded_16 : decode cX6_isGrounded 16 = .ok (.iload_n 2, 1) := by decide +kernel
theorem dX6_isGrounded_17 : decode cX6_isGrounded 17 = .ok (.if_icmp .ne 5, 3) := by decide +kernel
theorem dX6_isGrounded_20 : decode cX6_isGrounded 20 = .ok (.iconst 1, 1) := by decide +kernel
theorem dX6_isGrounded_21 : decode cX6_isGrounded 21 = .ok (.ireturn, 1) := by decide +kernel
theorem dX6_isGrounded_22 : decode cX6_isGrounded 22 = .ok (.iinc 3 1, 3) := by decide +kernel
theorem dX6_isGrounded_25 : decode cX6_isGrounded 25 = .ok (.goto (-23), 3) := by decide +kernel
theorem dX6_isGrounded_28 : decode cX6_isGrounded 28 = .ok (.iconst 0, 1) := by decide +kernel
theorem dX6_isGrounded_29 : decode cX6_isGrounded 29 = .ok (.ireturn, 1) := by decide +kernel
theorem dX6_parameterAt_0 : decode cX6_parameterAt 0 = .ok (.iload_n 1, 1) := by decide +kernel
theorem dX6_parameterAt_1 : decode cX6_parameterAt 1 = .ok (.ifCond .lt 25, 3) := by decide +kernel
theorem dX6_parameterAt_4 : decode cX6_parameterAt 4 = .ok (.iload_n 1, 1) := by decide +kernel
theorem dX6_parameterAt_5 : decode cX6_parameterAt 5 = .ok (.aload_n 0, 1) := by decide +kernel
theorem dX6_parameterAt_6 : decode cX6_parameterAt 6 = .ok (.getfield 21, 3) := by decide +kernel
theorem dX6_parameterAt_9 : decode cX6_parameterAt 9 = .ok (.arraylength, 1) := by decide +kernel
theorem dX6_parameterAt_10 : decode cX6_parameterAt 10 = .ok (.if_icmp .ge 16, 3) := by decide +kernel
theorem dX6_parameterAt_13 : decode cX6_parameterAt 13 = .ok (.iload_n 1, 1) := by decide +kernel
theorem dX6_parameterAt_14 : decode cX6_parameterAt 14 = .ok (.aload_n 0, 1) := by decide +kernel
theorem dX6_parameterAt_15 : decode cX6_parameterAt 15 = .ok (.getfield 24, 3) := by decide +kernel
theorem dX6_parameterAt_18 : decode cX6_parameterAt 18 = .ok (.arraylength, 1) := by decide +kernel
theorem dX6_parameterAt_19 : decode cX6_parameterAt 19 = .ok (.if_icmp .ge 7, 3) := by decide +kernel
theorem dX6_parameterAt_22 : decode cX6_parameterAt 22 = .ok (.iconst 1, 1) := by decide +kernel
theorem dX6_parameterAt_23 : decode cX6_parameterAt 23 = .ok (.goto 4, 3) := by decide +kernel
theorem dX6_parameterAt_26 : decode cX6_parameterAt 26 = .ok (.iconst 0, 1) := by decide +kernel
theorem dX6_parameterAt_27 : decode cX6_parameterAt 27 = .ok (.istore_n 3, 1) := by decide +kernel
theorem dX6_parameterAt_28 : decode cX6_parameterAt 28 = .ok (.iload_n 3, 1) := by decide +kernel
theorem dX6_parameterAt_29 : decode cX6_parameterAt 29 = .ok (.ifCond .eq 22, 3) := by decide +kernel
theorem dX6_parameterAt_32 : decode cX6_parameterAt 32 = .ok (.aload_n 0, 1) := by decide +kernel
theorem dX6_parameterAt_33 : decode cX6_parameterAt 33 = .ok (.getfield 21, 3) := by decide +kernel
theorem dX6_parameterAt_36 : decode cX6_parameterAt 36 = .ok (.iload_n 1, 1) := by decide +kernel
theorem dX6_parameterAt_37 : decode cX6_parameterAt 37 = .ok (.iaload, 1) := by decide +kernel
theorem dX6_parameterAt_38 : decode cX6_parameterAt 38 = .ok (.iload_n 2, 1) := by decide +kernel
theorem dX6_parameterAt_39 : decode cX6_parameterAt 39 = .ok (.if_icmp .ne 12, 3) := by decide +kernel
theorem dX6_parameterAt_42 : decode cX6_parameterAt 42 = .ok (.aload_n 0, 1) := by decide +kernel
theorem dX6_parameterAt_43 : decode cX6_parameterAt 43 = .ok (.getfield 24, 3) := by decide +kernel
theorem dX6_parameterAt_46 : decode cX6_parameterAt 46 = .ok (.iload_n 1, 1) := by decide +kernel
theorem dX6_parameterAt_47 : decode cX6_parameterAt 47 = .ok (.iaload, 1) := by decide +kernel
theorem dX6_parameterAt_48 : decode cX6_parameterAt 48 = .ok (.goto 4, 3) := by decide +kernel
theorem dX6_parameterAt_51 : decode cX6_parameterAt 51 = .ok (.iconst (-1), 1) := by decide +kernel
theorem dX6_parameterAt_52 : decode cX6_parameterAt 52 = .ok (.ireturn, 1) := by decide +kernel
theorem dX10_ground_0 : decode cX10_ground 0 = .ok (.iload_n 1, 1) := by decide +kernel
theorem dX10_ground_1 : decode cX10_ground 1 = .ok (.iconst 1, 1) := by decide +kernel
theorem dX10_ground_2 : decode cX10_ground 2 = .ok (.if_icmp .lt 15, 3) := by decide +kernel
theorem dX10_ground_5 : decode cX10_ground 5 = .ok (.iload_n 1, 1) := by decide +kernel
theorem dX10_ground_6 : decode cX10_ground 6 = .ok (.iconst 3, 1) := by decide +kernel
theorem dX10_ground_7 : decode cX10_ground 7 = .ok (.if_icmp .gt 10, 3) := by decide +kernel
theorem dX10_ground_10 : decode cX10_ground 10 = .ok (.iload_n 2, 1) := by decide +kernel
theorem dX10_ground_11 : decode cX10_ground 11 = .ok (.invokestatic 187, 3) := by decide +kernel
theorem dX10_ground_14 : decode cX10_ground 14 = .ok (.ifCond .ne 13, 3) := by decide +kernel
theorem dX10_ground_17 : decode cX10_ground 17 = .ok (.new 60, 3) := by decide +kernel
theorem dX10_ground_20 : decode cX10_ground 20 = .ok (.dup, 1) := by decide +kernel
theorem dX10_ground_21 : decode cX10_ground 21 = .ok (.ldc 190, 2) := by decide +kernel
theorem dX10_ground_23 : decode cX10_ground 23 = .ok (.invokespecial 64, 3) := by decide +kernel
theorem dX10_ground_26 : decode cX10_ground 26 = .ok (.athrow, 1) := by decide +kernel
theorem dX10_ground_27 : decode cX10_ground 27 = .ok (.aload_n 0, 1) := by decide +kernel
theorem dX10_ground_28 : decode cX10_ground 28 = .ok (.getfield 12, 3) := by decide +kernel
theorem dX10_ground_31 : decode cX10_ground 31 = .ok (.invokevirtual 192, 3) := by decide +kernel
theorem dX10_ground_34 : decode cX10_ground 34 = .ok (.bipush 6, 2) := by decide +kernel
theorem dX10_ground_36 : decode cX10_ground 36 = .ok (.if_icmp .ge 15, 3) := by decide +kernel
theorem dX10_ground_39 : decode cX10_ground 39 = .ok (.aload_n 0, 1) := by decide +kernel
theorem dX10_ground_40 : decode cX10_ground 40 = .ok (.getfield 12, 3) := by decide +kernel
theorem dX10_ground_43 : decode cX10_ground 43 = .ok (.iload_n 1, 1) := by decide +kernel
theorem dX10_ground_44 : decode cX10_ground 44 = .ok (.iload_n 2, 1) := by decide +kernel
theorem dX10_ground_45 : decode cX10_ground 45 = .ok (.invokevirtual 196, 3) := by decide +kernel
theorem dX10_ground_48 : decode cX10_ground 48 = .ok (.ifCond .eq 13, 3) := by decide +kernel
theorem dX10_ground_51 : decode cX10_ground 51 = .ok (.new 71, 3) := by decide +kernel
theorem dX10_ground_54 : decode cX10_ground 54 = .ok (.dup, 1) := by decide +kernel
theorem dX10_ground_55 : decode cX10_ground 55 = .ok (.ldc 200, 2) := by decide +kernel
theorem dX10_ground_57 : decode cX10_ground 57 = .ok (.invokespecial 75, 3) := by decide +kernel
theorem dX10_ground_60 : decode cX10_ground 60 = .ok (.athrow, 1) := by decide +kernel
theorem dX10_ground_61 : decode cX10_ground 61 = .ok (.aload_n 0, 1) := by decide +kernel
theorem dX10_ground_62 : decode cX10_ground 62 = .ok (.invokevirtual 76, 3) := by decide +kernel
theorem dX10_ground_65 : decode cX10_ground 65 = .ok (.aload_n 0, 1) := by decide +kernel
theorem dX10_ground_66 : decode cX10_ground 66 = .ok (.getfield 12, 3) := by decide +kernel
theorem dX10_ground_69 : decode cX10_ground 69 = .ok (.iload_n 1, 1) := by decide +kernel
theorem dX10_ground_70 : decode cX10_ground 70 = .ok (.iload_n 2, 1) := by decide +kernel
theorem dX10_ground_71 : decode cX10_ground 71 = .ok (.invokevirtual 202, 3) := by decide +kernel
theorem dX10_ground_74 : decode cX10_ground 74 = .ok (.aload_n 0, 1) := by decide +kernel
theorem dX10_ground_75 : decode cX10_ground 75 = .ok (.getfield 12, 3) := by decide +kernel
theorem dX10_ground_78 : decode cX10_ground 78 = .ok (.invokevirtual 192, 3) := by decide +kernel
theorem dX10_ground_81 : decode cX10_ground 81 = .ok (.ireturn, 1) := by decide +kernel
def vs_k_X6_groundedByCalls : List Cond := .code yX6_groundedByCalls cX6_groundedByCalls 1 (some .int) :: ([.fieldLink RX6 27 "AnswerFold$Program" "timeCount" "I"] ++ (u_ws RX6 TX6 10))
theorem iv_k_X6_groundedByCalls_X6 : ∀ w ∈ u_ws RX6 TX6 10, w ∈ vs_k_X6_groundedByCalls := (fun _ h => List.mem_cons_of_mem _ (List.mem_append_right _ (h)))
set_option maxHeartbeats 4000000 in
set_option maxRecDepth 100000 in
theorem k_X6_groundedByCalls (l : Launch) (D : va_G) (ty : Nat → ClassId) (td mi sz : Nat) (x1 : Nat) (x2 : Nat) (x3 : Nat) (x4 : Nat) (x5 : Nat) (x6 : Nat) (x7 : Nat) : Met l yX6_groundedByCalls vs_k_X6_groundedByCalls { frames := 0, cells := 0, slots := 0, locals := 0 } (va_Pc [.ref x1] (wq_P D ty td mi [(x1, .inr (11, [.ref x2, .int 0, .ref x3, .int 0, .ref x4, .ref x5, .int 1, .ref x6, .ref x7, .int 0]))] sz)) (va_Qi (fun (r : Int32) (u : va_W) => (r = 0 ∧ (u = [(x1, .inr (11, [.ref x2, .int 0, .ref x3, .int 0, .ref x4, .ref x5, .int 1, .ref x6, .ref x7, .int 0]))]))) (wq_B D (va_A [(x1, .inr (11, [.ref x2, .int 0, .ref x3, .int 0, .ref x4, .ref x5, .int 1, .ref x6, .ref x7, .int 0]))] sz)) (va_A [(x1, .inr (11, [.ref x2, .int 0, .ref x3, .int 0, .ref x4, .ref x5, .int 1, .ref x6, .ref x7, .int 0]))] sz)) 0 0 (va_A [(x1, .inr (11, [.ref x2, .int 0, .ref x3, .int 0, .ref x4, .ref x5, .int 1, .ref x6, .ref x7, .int 0]))] sz) := by
  refine Met.ofW (cc := cX6_groundedByCalls) (maxL := 1) (ret := (some .int)) (by decide) rfl ?_
  intro p e s m args below meth c s₁ B hml hv
  obtain ⟨rfl, hsz, hP, hK, hD0, hE⟩ := hv
  have hx := B.exec
  have hb := B.bytes
  have hr := B.returns
  have hts := atoms_spec (ws := vs_k_X6_groundedByCalls) B.pre
  have hown : s.vm.findClass RX6 = some m.cls := findClass_of_methodNamed B.named
  have hlocks := B.notSynchronized
  subst hsz
  have hD := hD0.self (sz := s.heap.size)
  generalize hAe : va_A [(x1, .inr (11, [.ref x2, .int 0, .ref x3, .int 0, .ref x4, .ref x5, .int 1, .ref x6, .ref x7, .int 0]))] s.heap.size = A at hD hE ⊢
  have hA : ∀ q : Nat, s.heap.size ≤ q → A q := fun q h => by rw [← hAe]; exact Or.inr h
  have hS : va_S A s.heap s.heap [] := va_S.rf
  have hP : va_P D vwCl [(x1, .inr (11, [.ref x2, .int 0, .ref x3, .int 0, .ref x4, .ref x5, .int 1, .ref x6, .ref x7, .int 0]))] s.heap := hP
  have hl := lv_entry ([.ref x1]) (n := 1) (Nat.le_of_ble_eq_true rfl)
  rw [lg_entry_eq]
  generalize (lg_sl ([.ref x1]) ++ List.replicate (1 - (lg_sl ([.ref x1])).length) Slot.unset).toArray = ls at hl ⊢
  have hl : lv_has ls 1 [(0, .ref x1)] := hl
  refine lv_aload_n hx hb dX6_groundedByCalls_0 rfl (lv_at hl 0 rfl) ?_
  refine va_get (D := D) (ci := 11) (v := .int 1) (C := RX6) (T := TX6) (N := 10) hx hb hts iv_k_X6_groundedByCalls_X6 hown hK hP 0 rfl rfl 6 (by decide) (hts (.fieldLink RX6 27 "AnswerFold$Program" "timeCount" "I") (by decide +kernel)) (fun _ h9 => h9) rfl dX6_groundedByCalls_1 ?_
  refine lv_iconst (v := 1) hx hb dX6_groundedByCalls_4 (by decide) ?_
  refine lv_isub hx hb dX6_groundedByCalls_5 ?_
  refine lv_topi (nm_r (e' := 0) (by decide) ?_)
  have hP9 := hP.sub (ws' := [(x1, .inr (11, [.ref x2, .int 0, .ref x3, .int 0, .ref x4, .ref x5, .int 1, .ref x6, .ref x7, .int 0]))]) [0] rfl
  have hD9 := hD.sub (ws' := [(x1, .inr (11, [.ref x2, .int 0, .ref x3, .int 0, .ref x4, .ref x5, .int 1, .ref x6, .ref x7, .int 0]))]) [0] (by decide) rfl
  refine W.widen (k := 0) (n := 0) (Nat.le_of_ble_eq_true rfl) (Nat.le_of_ble_eq_true rfl) ?_
  exact W.iret (v := 0) hx hb hr (fun t ht hW => ⟨⟨0, [(x1, .inr (11, [.ref x2, .int 0, .ref x3, .int 0, .ref x4, .ref x5, .int 1, .ref x6, .ref x7, .int 0]))], rfl, ⟨rfl, rfl⟩, wq_B.of ht hP9 hD9⟩, hS.F ht⟩) hS.2.2 dX6_groundedByCalls_6
def vs_k_X6_groundedByCalls_2 : List Cond := .code yX6_groundedByCalls cX6_groundedByCalls 1 (some .int) :: ([.fieldLink RX6 27 "AnswerFold$Program" "timeCount" "I"] ++ (u_ws RX6 TX6 10))
theorem iv_k_X6_groundedByCalls_2_X6 : ∀ w ∈ u_ws RX6 TX6 10, w ∈ vs_k_X6_groundedByCalls_2 := (fun _ h => List.mem_cons_of_mem _ (List.mem_append_right _ (h)))
set_option maxHeartbeats 4000000 in
set_option maxRecDepth 100000 in
theorem k_X6_groundedByCalls_2 (l : Launch) (D : va_G) (ty : Nat → ClassId) (td mi sz : Nat) (x1 : Nat) (x2 : Nat) (x3 : Nat) (x4 : Nat) (x5 : Nat) (x6 : Nat) (x7 : Nat) : Met l yX6_groundedByCalls vs_k_X6_groundedByCalls_2 { frames := 0, cells := 0, slots := 0, locals := 0 } (va_Pc [.ref x1] (wq_P D ty td mi [(x1, .inr (11, [.ref x2, .int 0, .ref x3, .int 0, .ref x4, .ref x5, .int 2, .ref x6, .ref x7, .int 0]))] sz)) (va_Qi (fun (r : Int32) (u : va_W) => (r = 1 ∧ (u = [(x1, .inr (11, [.ref x2, .int 0, .ref x3, .int 0, .ref x4, .ref x5, .int 2, .ref x6, .ref x7, .int 0]))]))) (wq_B D (va_A [(x1, .inr (11, [.ref x2, .int 0, .ref x3, .int 0, .ref x4, .ref x5, .int 2, .ref x6, .ref x7, .int 0]))] sz)) (va_A [(x1, .inr (11, [.ref x2, .int 0, .ref x3, .int 0, .ref x4, .ref x5, .int 2, .ref x6, .ref x7, .int 0]))] sz)) 0 0 (va_A [(x1, .inr (11, [.ref x2, .int 0, .ref x3, .int 0, .ref x4, .ref x5, .int 2, .ref x6, .ref x7, .int 0]))] sz) := by
  refine Met.ofW (cc := cX6_groundedByCalls) (maxL := 1) (ret := (some .int)) (by decide) rfl ?_
  intro p e s m args below meth c s₁ B hml hv
  obtain ⟨rfl, hsz, hP, hK, hD0, hE⟩ := hv
  have hx := B.exec
  have hb := B.bytes
  have hr := B.returns
  have hts := atoms_spec (ws := vs_k_X6_groundedByCalls_2) B.pre
  have hown : s.vm.findClass RX6 = some m.cls := findClass_of_methodNamed B.named
  have hlocks := B.notSynchronized
  subst hsz
  have hD := hD0.self (sz := s.heap.size)
  generalize hAe : va_A [(x1, .inr (11, [.ref x2, .int 0, .ref x3, .int 0, .ref x4, .ref x5, .int 2, .ref x6, .ref x7, .int 0]))] s.heap.size = A at hD hE ⊢
  have hA : ∀ q : Nat, s.heap.size ≤ q → A q := fun q h => by rw [← hAe]; exact Or.inr h
  have hS : va_S A s.heap s.heap [] := va_S.rf
  have hP : va_P D vwCl [(x1, .inr (11, [.ref x2, .int 0, .ref x3, .int 0, .ref x4, .ref x5, .int 2, .ref x6, .ref x7, .int 0]))] s.heap := hP
  have hl := lv_entry ([.ref x1]) (n := 1) (Nat.le_of_ble_eq_true rfl)
  rw [lg_entry_eq]
  generalize (lg_sl ([.ref x1]) ++ List.replicate (1 - (lg_sl ([.ref x1])).length) Slot.unset).toArray = ls at hl ⊢
  have hl : lv_has ls 1 [(0, .ref x1)] := hl
  refine lv_aload_n hx hb dX6_groundedByCalls_0 rfl (lv_at hl 0 rfl) ?_
  refine va_get (D := D) (ci := 11) (v := .int 2) (C := RX6) (T := TX6) (N := 10) hx hb hts iv_k_X6_groundedByCalls_2_X6 hown hK hP 0 rfl rfl 6 (by decide) (hts (.fieldLink RX6 27 "AnswerFold$Program" "timeCount" "I") (by decide +kernel)) (fun _ h9 => h9) rfl dX6_groundedByCalls_1 ?_
  refine lv_iconst (v := 1) hx hb dX6_groundedByCalls_4 (by decide) ?_
  refine lv_isub hx hb dX6_groundedByCalls_5 ?_
  refine lv_topi (nm_r (e' := 1) (by decide) ?_)
  have hP9 := hP.sub (ws' := [(x1, .inr (11, [.ref x2, .int 0, .ref x3, .int 0, .ref x4, .ref x5, .int 2, .ref x6, .ref x7, .int 0]))]) [0] rfl
  have hD9 := hD.sub (ws' := [(x1, .inr (11, [.ref x2, .int 0, .ref x3, .int 0, .ref x4, .ref x5, .int 2, .ref x6, .ref x7, .int 0]))]) [0] (by decide) rfl
  refine W.widen (k := 0) (n := 0) (Nat.le_of_ble_eq_true rfl) (Nat.le_of_ble_eq_true rfl) ?_
  exact W.iret (v := 1) hx hb hr (fun t ht hW => ⟨⟨1, [(x1, .inr (11, [.ref x2, .int 0, .ref x3, .int 0, .ref x4, .ref x5, .int 2, .ref x6, .ref x7, .int 0]))], rfl, ⟨rfl, rfl⟩, wq_B.of ht hP9 hD9⟩, hS.F ht⟩) hS.2.2 dX6_groundedByCalls_6
def vs_k_X6_parameterAt : List Cond := .code yX6_parameterAt cX6_parameterAt 4 (some .int) :: ([.fieldLink RX6 21 "AnswerFold$Program" "timePart" "[I", .fieldLink RX6 24 "AnswerFold$Program" "timeParameter" "[I"] ++ (u_ws RX6 TX6 10))
theorem iv_k_X6_parameterAt_X6 : ∀ w ∈ u_ws RX6 TX6 10, w ∈ vs_k_X6_parameterAt := (fun _ h => List.mem_cons_of_mem _ (List.mem_append_right _ (h)))
set_option maxHeartbeats 4000000 in
set_option maxRecDepth 100000 in
theorem k_X6_parameterAt (l : Launch) (D : va_G) (ty : Nat → ClassId) (td mi sz : Nat) (x1 : Nat) (x2 : Nat) (x3 : Nat) (x4 : Nat) (x5 : Nat) (x6 : Nat) (x7 : Nat) (k1 : Int32) : Met l yX6_parameterAt vs_k_X6_parameterAt { frames := 0, cells := 0, slots := 0, locals := 0 } (va_Pc [.ref x1, .int 0, .int k1] (wq_P D ty td mi [(x1, .inr (11, [.ref x2, .int 0, .ref x3, .int 0, .ref x4, .ref x5, .int 1, .ref x6, .ref x7, .int 0])), (x4, .inl (ty 0, 7, .inl (fun _ => 0))), (x5, .inl (ty 0, 7, .inl (fun _ => 0)))] sz)) (va_Qi (fun (r : Int32) (u : va_W) => (r = (-1) ∧ (¬ (0 = k1)) ∧ (u = [(x1, .inr (11, [.ref x2, .int 0, .ref x3, .int 0, .ref x4, .ref x5, .int 1, .ref x6, .ref x7, .int 0])), (x4, .inl (ty 0, 7, .inl (fun _ => 0))), (x5, .inl (ty 0, 7, .inl (fun _ => 0)))])) ∨ (r = 0 ∧ (0 = k1) ∧ (u = [(x1, .inr (11, [.ref x2, .int 0, .ref x3, .int 0, .ref x4, .ref x5, .int 1, .ref x6, .ref x7, .int 0])), (x4, .inl (ty 0, 7, .inl (fun _ => 0))), (x5, .inl (ty 0, 7, .inl (fun _ => 0)))]))) (wq_B D (va_A [(x1, .inr (11, [.ref x2, .int 0, .ref x3, .int 0, .ref x4, .ref x5, .int 1, .ref x6, .ref x7, .int 0])), (x4, .inl (ty 0, 7, .inl (fun _ => 0))), (x5, .inl (ty 0, 7, .inl (fun _ => 0)))] sz)) (va_A [(x1, .inr (11, [.ref x2, .int 0, .ref x3, .int 0, .ref x4, .ref x5, .int 1, .ref x6, .ref x7, .int 0])), (x4, .inl (ty 0, 7, .inl (fun _ => 0))), (x5, .inl (ty 0, 7, .inl (fun _ => 0)))] sz)) 0 0 (va_A [(x1, .inr (11, [.ref x2, .int 0, .ref x3, .int 0, .ref x4, .ref x5, .int 1, .ref x6, .ref x7, .int 0])), (x4, .inl (ty 0, 7, .inl (fun _ => 0))), (x5, .inl (ty 0, 7, .inl (fun _ => 0)))] sz) := by
  refine Met.ofW (cc := cX6_parameterAt) (maxL := 4) (ret := (some .int)) (by decide) rfl ?_
  intro p e s m args below meth c s₁ B hml hv
  obtain ⟨rfl, hsz, hP, hK, hD0, hE⟩ := hv
  have hx := B.exec
  have hb := B.bytes
  have hr := B.returns
  have hts := atoms_spec (ws := vs_k_X6_parameterAt) B.pre
  have hown : s.vm.findClass RX6 = some m.cls := findClass_of_methodNamed B.named
  have hlocks := B.notSynchronized
  subst hsz
  have hD := hD0.self (sz := s.heap.size)
  generalize hAe : va_A [(x1, .inr (11, [.ref x2, .int 0, .ref x3, .int 0, .ref x4, .ref x5, .int 1, .ref x6, .ref x7, .int 0])), (x4, .inl (ty 0, 7, .inl (fun _ => 0))), (x5, .inl (ty 0, 7, .inl (fun _ => 0)))] s.heap.size = A at hD hE ⊢
  have hA : ∀ q : Nat, s.heap.size ≤ q → A q := fun q h => by rw [← hAe]; exact Or.inr h
  have hS : va_S A s.heap s.heap [] := va_S.rf
  have hP : va_P D vwCl [(x1, .inr (11, [.ref x2, .int 0, .ref x3, .int 0, .ref x4, .ref x5, .int 1, .ref x6, .ref x7, .int 0])), (x4, .inl (ty 0, 7, .inl (fun _ => 0))), (x5, .inl (ty 0, 7, .inl (fun _ => 0)))] s.heap := hP
  have hl := lv_entry ([.ref x1, .int 0, .int k1]) (n := 4) (Nat.le_of_ble_eq_true rfl)
  rw [lg_entry_eq]
  generalize (lg_sl ([.ref x1, .int 0, .int k1]) ++ List.replicate (4 - (lg_sl ([.ref x1, .int 0, .int k1])).length) Slot.unset).toArray = ls at hl ⊢
  have hl : lv_has ls 4 [(0, .ref x1), (1, .int 0), (2, .int k1)] := hl
  refine lv_iload_n hx hb dX6_parameterAt_0 rfl (lv_at hl 1 rfl) ?_
  refine lv_if_lt (tgt := 26) hx hb dX6_parameterAt_1 (by decide) (fun c0 => absurd c0 (by decide)) (fun _ => ?_)
  refine lv_iload_n hx hb dX6_parameterAt_4 rfl (lv_at hl 1 rfl) ?_
  refine lv_aload_n hx hb dX6_parameterAt_5 rfl (lv_at hl 0 rfl) ?_
  refine va_get (D := D) (ci := 11) (v := .ref x4) (C := RX6) (T := TX6) (N := 10) hx hb hts iv_k_X6_parameterAt_X6 hown hK hP 0 rfl rfl 4 (by decide) (hts (.fieldLink RX6 21 "AnswerFold$Program" "timePart" "[I") (by decide +kernel)) (fun _ h9 => h9) rfl dX6_parameterAt_6 ?_
  refine va_alen (D := D) (v := 7) hx hb hK hP 1 0 rfl rfl (by first | decide | rfl) dX6_parameterAt_9 ?_
  refine lv_icmp_ge (tgt := 26) hx hb dX6_parameterAt_10 (by decide) (fun c0 => absurd c0 (by decide)) (fun _ => ?_)
  refine lv_iload_n hx hb dX6_parameterAt_13 rfl (lv_at hl 1 rfl) ?_
  refine lv_aload_n hx hb dX6_parameterAt_14 rfl (lv_at hl 0 rfl) ?_
  refine va_get (D := D) (ci := 11) (v := .ref x5) (C := RX6) (T := TX6) (N := 10) hx hb hts iv_k_X6_parameterAt_X6 hown hK hP 0 rfl rfl 5 (by decide) (hts (.fieldLink RX6 24 "AnswerFold$Program" "timeParameter" "[I") (by decide +kernel)) (fun _ h9 => h9) rfl dX6_parameterAt_15 ?_
  refine va_alen (D := D) (v := 7) hx hb hK hP 2 0 rfl rfl (by first | decide | rfl) dX6_parameterAt_18 ?_
  refine lv_icmp_ge (tgt := 26) hx hb dX6_parameterAt_19 (by decide) (fun c0 => absurd c0 (by decide)) (fun _ => ?_)
  refine lv_iconst (v := 1) hx hb dX6_parameterAt_22 (by decide) ?_
  refine lv_goto (tgt := 27) hx hb dX6_parameterAt_23 (by decide) ?_
  refine lv_istore_n (lv' := [(3, .int 1), (0, .ref x1), (1, .int 0), (2, .int k1)]) hx hb dX6_parameterAt_27 rfl hl (by decide) rfl (fun ls hl => ?_)
  refine lv_iload_n hx hb dX6_parameterAt_28 rfl (lv_at hl 0 rfl) ?_
  refine lv_if_eq (tgt := 51) hx hb dX6_parameterAt_29 (by decide) (fun c0 => absurd c0 (by decide)) (fun _ => ?_)
  refine lv_aload_n hx hb dX6_parameterAt_32 rfl (lv_at hl 1 rfl) ?_
  refine va_get (D := D) (ci := 11) (v := .ref x4) (C := RX6) (T := TX6) (N := 10) hx hb hts iv_k_X6_parameterAt_X6 hown hK hP 0 rfl rfl 4 (by decide) (hts (.fieldLink RX6 21 "AnswerFold$Program" "timePart" "[I") (by decide +kernel)) (fun _ h9 => h9) rfl dX6_parameterAt_33 ?_
  refine lv_iload_n hx hb dX6_parameterAt_36 rfl (lv_at hl 2 rfl) ?_
  refine va_iald (D := D) hx hb hK hP 1 0 rfl rfl (vp_in_iff.mpr (by decide)) dX6_parameterAt_37 ?_
  refine lv_topi (nm_r (e' := 0) (by first | rfl | decide | exact wq_sel hlt (by decide)) ?_)
  refine lv_iload_n hx hb dX6_parameterAt_38 rfl (lv_at hl 3 rfl) ?_
  refine lv_icmp_ne (tgt := 51) hx hb dX6_parameterAt_39 (by decide) (fun c_1 => ?_) (fun c_1 => ?_)
  · refine lv_iconst (v := (-1)) hx hb dX6_parameterAt_51 (by decide) ?_
    have hP9 := hP.sub (ws' := [(x1, .inr (11, [.ref x2, .int 0, .ref x3, .int 0, .ref x4, .ref x5, .int 1, .ref x6, .ref x7, .int 0])), (x4, .inl (ty 0, 7, .inl (fun _ => 0))), (x5, .inl (ty 0, 7, .inl (fun _ => 0)))]) [0, 1, 2] rfl
    have hD9 := hD.sub (ws' := [(x1, .inr (11, [.ref x2, .int 0, .ref x3, .int 0, .ref x4, .ref x5, .int 1, .ref x6, .ref x7, .int 0])), (x4, .inl (ty 0, 7, .inl (fun _ => 0))), (x5, .inl (ty 0, 7, .inl (fun _ => 0)))]) [0, 1, 2] (by decide) rfl
    refine W.widen (k := 0) (n := 0) (Nat.le_of_ble_eq_true rfl) (Nat.le_of_ble_eq_true rfl) ?_
    exact W.iret (v := (-1)) hx hb hr (fun t ht hW => ⟨⟨(-1), [(x1, .inr (11, [.ref x2, .int 0, .ref x3, .int 0, .ref x4, .ref x5, .int 1, .ref x6, .ref x7, .int 0])), (x4, .inl (ty 0, 7, .inl (fun _ => 0))), (x5, .inl (ty 0, 7, .inl (fun _ => 0)))], rfl, (Or.inl ⟨rfl, c_1, rfl⟩), wq_B.of ht hP9 hD9⟩, hS.F ht⟩) hS.2.2 dX6_parameterAt_52
  · refine lv_aload_n hx hb dX6_parameterAt_42 rfl (lv_at hl 1 rfl) ?_
    refine va_get (D := D) (ci := 11) (v := .ref x5) (C := RX6) (T := TX6) (N := 10) hx hb hts iv_k_X6_parameterAt_X6 hown hK hP 0 rfl rfl 5 (by decide) (hts (.fieldLink RX6 24 "AnswerFold$Program" "timeParameter" "[I") (by decide +kernel)) (fun _ h9 => h9) rfl dX6_parameterAt_43 ?_
    refine lv_iload_n hx hb dX6_parameterAt_46 rfl (lv_at hl 2 rfl) ?_
    refine va_iald (D := D) hx hb hK hP 2 0 rfl rfl (vp_in_iff.mpr (by decide)) dX6_parameterAt_47 ?_
    refine lv_topi (nm_r (e' := 0) (by first | rfl | decide | exact wq_sel hlt (by decide)) ?_)
    refine lv_goto (tgt := 52) hx hb dX6_parameterAt_48 (by decide) ?_
    have hP9 := hP.sub (ws' := [(x1, .inr (11, [.ref x2, .int 0, .ref x3, .int 0, .ref x4, .ref x5, .int 1, .ref x6, .ref x7, .int 0])), (x4, .inl (ty 0, 7, .inl (fun _ => 0))), (x5, .inl (ty 0, 7, .inl (fun _ => 0)))]) [0, 1, 2] rfl
    have hD9 := hD.sub (ws' := [(x1, .inr (11, [.ref x2, .int 0, .ref x3, .int 0, .ref x4, .ref x5, .int 1, .ref x6, .ref x7, .int 0])), (x4, .inl (ty 0, 7, .inl (fun _ => 0))), (x5, .inl (ty 0, 7, .inl (fun _ => 0)))]) [0, 1, 2] (by decide) rfl
    refine W.widen (k := 0) (n := 0) (Nat.le_of_ble_eq_true rfl) (Nat.le_of_ble_eq_true rfl) ?_
    exact W.iret (v := 0) hx hb hr (fun t ht hW => ⟨⟨0, [(x1, .inr (11, [.ref x2, .int 0, .ref x3, .int 0, .ref x4, .ref x5, .int 1, .ref x6, .ref x7, .int 0])), (x4, .inl (ty 0, 7, .inl (fun _ => 0))), (x5, .inl (ty 0, 7, .inl (fun _ => 0)))], rfl, (Or.inr ⟨rfl, c_1, rfl⟩), wq_B.of ht hP9 hD9⟩, hS.F ht⟩) hS.2.2 dX6_parameterAt_52
def vs_k_X6_isGrounded : List Cond := .code yX6_isGrounded cX6_isGrounded 4 (some .boolean) :: ([.fieldLink RX6 27 "AnswerFold$Program" "timeCount" "I", .methodLink RX6 48 yX6_parameterAt, .instanceMethod yX6_parameterAt, .selects RX6 yX6_parameterAt yX6_parameterAt, .initialized RX6] ++ (u_ws RX6 TX6 10 ++ (vs_k_X6_parameterAt)))
theorem iv_k_X6_isGrounded_X6 : ∀ w ∈ u_ws RX6 TX6 10, w ∈ vs_k_X6_isGrounded := (fun _ h => List.mem_cons_of_mem _ (List.mem_append_right _ (List.mem_append_left _ h)))
set_option maxRecDepth 20000 in
theorem gv_k_X6_isGrounded_0 : GoodIn vs_k_X6_isGrounded (wsV RX6 48 RX6 yX6_parameterAt vs_k_X6_parameterAt) := goodIn_app (goodIn_sub (by decide +kernel) (by decide +kernel)) (goodIn_sub (fun _ h => List.mem_cons_of_mem _ (List.mem_append_right _ (List.mem_append_right _ (h)))) (by decide +kernel))
set_option maxHeartbeats 4000000 in
set_option maxRecDepth 100000 in
theorem k_X6_isGrounded (l : Launch) (D : va_G) (ty : Nat → ClassId) (td mi sz : Nat) (x1 : Nat) (x2 : Nat) (x3 : Nat) (x4 : Nat) (x5 : Nat) (x6 : Nat) (x7 : Nat) (k1 : Int32) (k2 : Int32) : Met l yX6_isGrounded vs_k_X6_isGrounded { frames := 1, cells := 0, slots := 0, locals := 23 } (va_Pc [.ref x1, .int k1, .int k2] (wq_P D ty td mi [(x1, .inr (11, [.ref x2, .int 0, .ref x3, .int 0, .ref x4, .ref x5, .int 1, .ref x6, .ref x7, .int 0])), (x4, .inl (ty 0, 7, .inl (fun _ => 0))), (x5, .inl (ty 0, 7, .inl (fun _ => 0)))] sz)) (va_Qi (fun (r : Int32) (u : va_W) => (r = 0 ∧ (¬ (0 = k1)) ∧ (¬ ((-1) = k2)) ∧ (u = [(x1, .inr (11, [.ref x2, .int 0, .ref x3, .int 0, .ref x4, .ref x5, .int 1, .ref x6, .ref x7, .int 0])), (x4, .inl (ty 0, 7, .inl (fun _ => 0))), (x5, .inl (ty 0, 7, .inl (fun _ => 0)))])) ∨ (r = 1 ∧ (¬ (0 = k1)) ∧ ((-1) = k2) ∧ (u = [(x1, .inr (11, [.ref x2, .int 0, .ref x3, .int 0, .ref x4, .ref x5, .int 1, .ref x6, .ref x7, .int 0])), (x4, .inl (ty 0, 7, .inl (fun _ => 0))), (x5, .inl (ty 0, 7, .inl (fun _ => 0)))])) ∨ (r = 0 ∧ (0 = k1) ∧ (¬ (0 = k2)) ∧ (u = [(x1, .inr (11, [.ref x2, .int 0, .ref x3, .int 0, .ref x4, .ref x5, .int 1, .ref x6, .ref x7, .int 0])), (x4, .inl (ty 0, 7, .inl (fun _ => 0))), (x5, .inl (ty 0, 7, .inl (fun _ => 0)))])) ∨ (r = 1 ∧ (0 = k1) ∧ (0 = k2) ∧ (u = [(x1, .inr (11, [.ref x2, .int 0, .ref x3, .int 0, .ref x4, .ref x5, .int 1, .ref x6, .ref x7, .int 0])), (x4, .inl (ty 0, 7, .inl (fun _ => 0))), (x5, .inl (ty 0, 7, .inl (fun _ => 0)))]))) (wq_B D (va_A [(x1, .inr (11, [.ref x2, .int 0, .ref x3, .int 0, .ref x4, .ref x5, .int 1, .ref x6, .ref x7, .int 0])), (x4, .inl (ty 0, 7, .inl (fun _ => 0))), (x5, .inl (ty 0, 7, .inl (fun _ => 0)))] sz)) (va_A [(x1, .inr (11, [.ref x2, .int 0, .ref x3, .int 0, .ref x4, .ref x5, .int 1, .ref x6, .ref x7, .int 0])), (x4, .inl (ty 0, 7, .inl (fun _ => 0))), (x5, .inl (ty 0, 7, .inl (fun _ => 0)))] sz)) 0 0 (va_A [(x1, .inr (11, [.ref x2, .int 0, .ref x3, .int 0, .ref x4, .ref x5, .int 1, .ref x6, .ref x7, .int 0])), (x4, .inl (ty 0, 7, .inl (fun _ => 0))), (x5, .inl (ty 0, 7, .inl (fun _ => 0)))] sz) := by
  refine Met.ofW (cc := cX6_isGrounded) (maxL := 4) (ret := (some .boolean)) (by decide) rfl ?_
  intro p e s m args below meth c s₁ B hml hv
  obtain ⟨rfl, hsz, hP, hK, hD0, hE⟩ := hv
  have hx := B.exec
  have hb := B.bytes
  have hr := B.returns
  have hts := atoms_spec (ws := vs_k_X6_isGrounded) B.pre
  have hown : s.vm.findClass RX6 = some m.cls := findClass_of_methodNamed B.named
  have hlocks := B.notSynchronized
  subst hsz
  have hD := hD0.self (sz := s.heap.size)
  generalize hAe : va_A [(x1, .inr (11, [.ref x2, .int 0, .ref x3, .int 0, .ref x4, .ref x5, .int 1, .ref x6, .ref x7, .int 0])), (x4, .inl (ty 0, 7, .inl (fun _ => 0))), (x5, .inl (ty 0, 7, .inl (fun _ => 0)))] s.heap.size = A at hD hE ⊢
  have hA : ∀ q : Nat, s.heap.size ≤ q → A q := fun q h => by rw [← hAe]; exact Or.inr h
  have hS : va_S A s.heap s.heap [] := va_S.rf
  have hP : va_P D vwCl [(x1, .inr (11, [.ref x2, .int 0, .ref x3, .int 0, .ref x4, .ref x5, .int 1, .ref x6, .ref x7, .int 0])), (x4, .inl (ty 0, 7, .inl (fun _ => 0))), (x5, .inl (ty 0, 7, .inl (fun _ => 0)))] s.heap := hP
  have hl := lv_entry ([.ref x1, .int k1, .int k2]) (n := 4) (Nat.le_of_ble_eq_true rfl)
  rw [lg_entry_eq]
  generalize (lg_sl ([.ref x1, .int k1, .int k2]) ++ List.replicate (4 - (lg_sl ([.ref x1, .int k1, .int k2])).length) Slot.unset).toArray = ls at hl ⊢
  have hl : lv_has ls 4 [(0, .ref x1), (1, .int k1), (2, .int k2)] := hl
  refine lv_iconst (v := 0) hx hb dX6_isGrounded_0 (by decide) ?_
  refine lv_istore_n (lv' := [(3, .int 0), (0, .ref x1), (1, .int k1), (2, .int k2)]) hx hb dX6_isGrounded_1 rfl hl (by decide) rfl (fun ls hl => ?_)
  refine lv_iload_n hx hb dX6_isGrounded_2 rfl (lv_at hl 0 rfl) ?_
  refine lv_aload_n hx hb dX6_isGrounded_3 rfl (lv_at hl 1 rfl) ?_
  refine va_get (D := D) (ci := 11) (v := .int 1) (C := RX6) (T := TX6) (N := 10) hx hb hts iv_k_X6_isGrounded_X6 hown hK hP 0 rfl rfl 6 (by decide) (hts (.fieldLink RX6 27 "AnswerFold$Program" "timeCount" "I") (by decide +kernel)) (fun _ h9 => h9) rfl dX6_isGrounded_4 ?_
  refine lv_icmp_ge (tgt := 28) hx hb dX6_isGrounded_7 (by decide) (fun c0 => absurd c0 (by decide)) (fun _ => ?_)
  refine lv_aload_n hx hb dX6_isGrounded_10 rfl (lv_at hl 1 rfl) ?_
  refine lv_iload_n hx hb dX6_isGrounded_11 rfl (lv_at hl 0 rfl) ?_
  refine lv_iload_n hx hb dX6_isGrounded_12 rfl (lv_at hl 2 rfl) ?_
  refine wq_i (wc := [(x1, .inr (11, [.ref x2, .int 0, .ref x3, .int 0, .ref x4, .ref x5, .int 1, .ref x6, .ref x7, .int 0])), (x4, .inl (ty 0, 7, .inl (fun _ => 0))), (x5, .inl (ty 0, 7, .inl (fun _ => 0)))]) (wr := []) (va_runV (As := [.int 0, .int k1]) (rest := []) ⟨hx, hb, hml, hown, hts⟩ (k_X6_parameterAt l D ty td mi s.heap.size x1 x2 x3 x4 x5 x6 x7 k1) (cwV 2 hts gv_k_X6_isGrounded_0 rfl rfl rfl (by decide +kernel) ⟨(Nat.le_of_ble_eq_true rfl), (Nat.le_of_ble_eq_true rfl)⟩) (wq_preV hP hD hK hE hS hA [0, 1, 2] rfl (by decide) 0 11 rfl rfl) rfl rfl hl.1 rfl (lv_room (Nat.le_of_ble_eq_true rfl)) dX6_isGrounded_13 ⟨(Nat.le_of_ble_eq_true rfl), (Nat.le_of_ble_eq_true rfl)⟩) hS hA hP hD [0, 1, 2] [] rfl rfl (by decide) (by decide) (fun r u H locs hw hP hD hS => ?_)
  rcases hw with ⟨rfl, c_1, rfl⟩ | ⟨rfl, c_2, rfl⟩
  · have hP : va_P D vwCl [(x1, .inr (11, [.ref x2, .int 0, .ref x3, .int 0, .ref x4, .ref x5, .int 1, .ref x6, .ref x7, .int 0])), (x4, .inl (ty 0, 7, .inl (fun _ => 0))), (x5, .inl (ty 0, 7, .inl (fun _ => 0)))] H := hP
    have hD : va_D A [(x1, .inr (11, [.ref x2, .int 0, .ref x3, .int 0, .ref x4, .ref x5, .int 1, .ref x6, .ref x7, .int 0])), (x4, .inl (ty 0, 7, .inl (fun _ => 0))), (x5, .inl (ty 0, 7, .inl (fun _ => 0)))] := hD
    refine W.widen (k := 0) (n := 0) (Nat.le_of_ble_eq_true rfl) (Nat.le_of_ble_eq_true rfl) ?_
    refine lv_iload_n hx hb dX6_isGrounded_16 rfl (lv_at hl 3 rfl) ?_
    refine lv_icmp_ne (tgt := 22) hx hb dX6_isGrounded_17 (by decide) (fun c_3 => ?_) (fun c_3 => ?_)
    · refine lv_iinc (v := 1) (lv' := [(3, .int 1), (0, .ref x1), (1, .int k1), (2, .int k2)]) hx hb dX6_isGrounded_22 hl (k := 0) rfl (by decide) (by decide) rfl (fun ls hl => ?_)
      refine lv_goto (tgt := 2) hx hb dX6_isGrounded_25 (by decide) ?_
      refine lv_iload_n hx hb dX6_isGrounded_2 rfl (lv_at hl 0 rfl) ?_
      refine lv_aload_n hx hb dX6_isGrounded_3 rfl (lv_at hl 1 rfl) ?_
      refine va_get (D := D) (ci := 11) (v := .int 1) (C := RX6) (T := TX6) (N := 10) hx hb hts iv_k_X6_isGrounded_X6 hown hK hP 0 rfl rfl 6 (by decide) (hts (.fieldLink RX6 27 "AnswerFold$Program" "timeCount" "I") (by decide +kernel)) (fun _ h9 => h9) rfl dX6_isGrounded_4 ?_
      refine lv_icmp_ge (tgt := 28) hx hb dX6_isGrounded_7 (by decide) (fun _ => ?_) (fun c0 => absurd (by decide) c0)
      refine lv_iconst (v := 0) hx hb dX6_isGrounded_28 (by decide) ?_
      have hP9 := hP.sub (ws' := [(x1, .inr (11, [.ref x2, .int 0, .ref x3, .int 0, .ref x4, .ref x5, .int 1, .ref x6, .ref x7, .int 0])), (x4, .inl (ty 0, 7, .inl (fun _ => 0))), (x5, .inl (ty 0, 7, .inl (fun _ => 0)))]) [0, 1, 2] rfl
      have hD9 := hD.sub (ws' := [(x1, .inr (11, [.ref x2, .int 0, .ref x3, .int 0, .ref x4, .ref x5, .int 1, .ref x6, .ref x7, .int 0])), (x4, .inl (ty 0, 7, .inl (fun _ => 0))), (x5, .inl (ty 0, 7, .inl (fun _ => 0)))]) [0, 1, 2] (by decide) rfl
      refine W.widen (k := 0) (n := 0) (Nat.le_of_ble_eq_true rfl) (Nat.le_of_ble_eq_true rfl) ?_
      exact W.zret (v := 0) hx hb hr rfl (fun t ht hW => ⟨⟨0, [(x1, .inr (11, [.ref x2, .int 0, .ref x3, .int 0, .ref x4, .ref x5, .int 1, .ref x6, .ref x7, .int 0])), (x4, .inl (ty 0, 7, .inl (fun _ => 0))), (x5, .inl (ty 0, 7, .inl (fun _ => 0)))], rfl, (Or.inl ⟨rfl, c_1, c_3, rfl⟩), wq_B.of ht hP9 hD9⟩, hS.F ht⟩) hS.2.2 dX6_isGrounded_29
    · refine lv_iconst (v := 1) hx hb dX6_isGrounded_20 (by decide) ?_
      have hP9 := hP.sub (ws' := [(x1, .inr (11, [.ref x2, .int 0, .ref x3, .int 0, .ref x4, .ref x5, .int 1, .ref x6, .ref x7, .int 0])), (x4, .inl (ty 0, 7, .inl (fun _ => 0))), (x5, .inl (ty 0, 7, .inl (fun _ => 0)))]) [0, 1, 2] rfl
      have hD9 := hD.sub (ws' := [(x1, .inr (11, [.ref x2, .int 0, .ref x3, .int 0, .ref x4, .ref x5, .int 1, .ref x6, .ref x7, .int 0])), (x4, .inl (ty 0, 7, .inl (fun _ => 0))), (x5, .inl (ty 0, 7, .inl (fun _ => 0)))]) [0, 1, 2] (by decide) rfl
      refine W.widen (k := 0) (n := 0) (Nat.le_of_ble_eq_true rfl) (Nat.le_of_ble_eq_true rfl) ?_
      exact W.zret (v := 1) hx hb hr rfl (fun t ht hW => ⟨⟨1, [(x1, .inr (11, [.ref x2, .int 0, .ref x3, .int 0, .ref x4, .ref x5, .int 1, .ref x6, .ref x7, .int 0])), (x4, .inl (ty 0, 7, .inl (fun _ => 0))), (x5, .inl (ty 0, 7, .inl (fun _ => 0)))], rfl, (Or.inr (Or.inl ⟨rfl, c_1, c_3, rfl⟩)), wq_B.of ht hP9 hD9⟩, hS.F ht⟩) hS.2.2 dX6_isGrounded_21
  · have hP : va_P D vwCl [(x1, .inr (11, [.ref x2, .int 0, .ref x3, .int 0, .ref x4, .ref x5, .int 1, .ref x6, .ref x7, .int 0])), (x4, .inl (ty 0, 7, .inl (fun _ => 0))), (x5, .inl (ty 0, 7, .inl (fun _ => 0)))] H := hP
    have hD : va_D A [(x1, .inr (11, [.ref x2, .int 0, .ref x3, .int 0, .ref x4, .ref x5, .int 1, .ref x6, .ref x7, .int 0])), (x4, .inl (ty 0, 7, .inl (fun _ => 0))), (x5, .inl (ty 0, 7, .inl (fun _ => 0)))] := hD
    refine W.widen (k := 0) (n := 0) (Nat.le_of_ble_eq_true rfl) (Nat.le_of_ble_eq_true rfl) ?_
    refine lv_iload_n hx hb dX6_isGrounded_16 rfl (lv_at hl 3 rfl) ?_
    refine lv_icmp_ne (tgt := 22) hx hb dX6_isGrounded_17 (by decide) (fun c_4 => ?_) (fun c_4 => ?_)
    · refine lv_iinc (v := 1) (lv' := [(3, .int 1), (0, .ref x1), (1, .int k1), (2, .int k2)]) hx hb dX6_isGrounded_22 hl (k := 0) rfl (by decide) (by decide) rfl (fun ls hl => ?_)
      refine lv_goto (tgt := 2) hx hb dX6_isGrounded_25 (by decide) ?_
      refine lv_iload_n hx hb dX6_isGrounded_2 rfl (lv_at hl 0 rfl) ?_
      refine lv_aload_n hx hb dX6_isGrounded_3 rfl (lv_at hl 1 rfl) ?_
      refine va_get (D := D) (ci := 11) (v := .int 1) (C := RX6) (T := TX6) (N := 10) hx hb hts iv_k_X6_isGrounded_X6 hown hK hP 0 rfl rfl 6 (by decide) (hts (.fieldLink RX6 27 "AnswerFold$Program" "timeCount" "I") (by decide +kernel)) (fun _ h9 => h9) rfl dX6_isGrounded_4 ?_
      refine lv_icmp_ge (tgt := 28) hx hb dX6_isGrounded_7 (by decide) (fun _ => ?_) (fun c0 => absurd (by decide) c0)
      refine lv_iconst (v := 0) hx hb dX6_isGrounded_28 (by decide) ?_
      have hP9 := hP.sub (ws' := [(x1, .inr (11, [.ref x2, .int 0, .ref x3, .int 0, .ref x4, .ref x5, .int 1, .ref x6, .ref x7, .int 0])), (x4, .inl (ty 0, 7, .inl (fun _ => 0))), (x5, .inl (ty 0, 7, .inl (fun _ => 0)))]) [0, 1, 2] rfl
      have hD9 := hD.sub (ws' := [(x1, .inr (11, [.ref x2, .int 0, .ref x3, .int 0, .ref x4, .ref x5, .int 1, .ref x6, .ref x7, .int 0])), (x4, .inl (ty 0, 7, .inl (fun _ => 0))), (x5, .inl (ty 0, 7, .inl (fun _ => 0)))]) [0, 1, 2] (by decide) rfl
      refine W.widen (k := 0) (n := 0) (Nat.le_of_ble_eq_true rfl) (Nat.le_of_ble_eq_true rfl) ?_
      exact W.zret (v := 0) hx hb hr rfl (fun t ht hW => ⟨⟨0, [(x1, .inr (11, [.ref x2, .int 0, .ref x3, .int 0, .ref x4, .ref x5, .int 1, .ref x6, .ref x7, .int 0])), (x4, .inl (ty 0, 7, .inl (fun _ => 0))), (x5, .inl (ty 0, 7, .inl (fun _ => 0)))], rfl, (Or.inr (Or.inr (Or.inl ⟨rfl, c_2, c_4, rfl⟩))), wq_B.of ht hP9 hD9⟩, hS.F ht⟩) hS.2.2 dX6_isGrounded_29
    · refine lv_iconst (v := 1) hx hb dX6_isGrounded_20 (by decide) ?_
      have hP9 := hP.sub (ws' := [(x1, .inr (11, [.ref x2, .int 0, .ref x3, .int 0, .ref x4, .ref x5, .int 1, .ref x6, .ref x7, .int 0])), (x4, .inl (ty 0, 7, .inl (fun _ => 0))), (x5, .inl (ty 0, 7, .inl (fun _ => 0)))]) [0, 1, 2] rfl
      have hD9 := hD.sub (ws' := [(x1, .inr (11, [.ref x2, .int 0, .ref x3, .int 0, .ref x4, .ref x5, .int 1, .ref x6, .ref x7, .int 0])), (x4, .inl (ty 0, 7, .inl (fun _ => 0))), (x5, .inl (ty 0, 7, .inl (fun _ => 0)))]) [0, 1, 2] (by decide) rfl
      refine W.widen (k := 0) (n := 0) (Nat.le_of_ble_eq_true rfl) (Nat.le_of_ble_eq_true rfl) ?_
      exact W.zret (v := 1) hx hb hr rfl (fun t ht hW => ⟨⟨1, [(x1, .inr (11, [.ref x2, .int 0, .ref x3, .int 0, .ref x4, .ref x5, .int 1, .ref x6, .ref x7, .int 0])), (x4, .inl (ty 0, 7, .inl (fun _ => 0))), (x5, .inl (ty 0, 7, .inl (fun _ => 0)))], rfl, (Or.inr (Or.inr (Or.inr ⟨rfl, c_2, c_4, rfl⟩))), wq_B.of ht hP9 hD9⟩, hS.F ht⟩) hS.2.2 dX6_isGrounded_21
def vs_k_X6_tellTime : List Cond := .code yX6_tellTime cX6_tellTime 3 none :: ([.fieldLink RX6 27 "AnswerFold$Program" "timeCount" "I", .fieldLink RX6 21 "AnswerFold$Program" "timePart" "[I", .fieldLink RX6 24 "AnswerFold$Program" "timeParameter" "[I"] ++ (u_ws RX6 TX6 10))
theorem iv_k_X6_tellTime_X6 : ∀ w ∈ u_ws RX6 TX6 10, w ∈ vs_k_X6_tellTime := (fun _ h => List.mem_cons_of_mem _ (List.mem_append_right _ (h)))
set_option maxHeartbeats 4000000 in
set_option maxRecDepth 100000 in
theorem k_X6_tellTime (l : Launch) (D : va_G) (ty : Nat → ClassId) (td mi sz : Nat) (x1 : Nat) (x2 : Nat) (x3 : Nat) (x4 : Nat) (x5 : Nat) (x6 : Nat) (x7 : Nat) (k1 : Int32) (k2 : Int32) : Met l yX6_tellTime vs_k_X6_tellTime { frames := 0, cells := 0, slots := 0, locals := 0 } (va_Pc [.ref x1, .int k1, .int k2] (wq_P D ty td mi [(x1, .inr (11, [.ref x2, .int 0, .ref x3, .int 0, .ref x4, .ref x5, .int 1, .ref x6, .ref x7, .int 0])), (x4, .inl (ty 0, 7, .inl (fun _ => 0))), (x5, .inl (ty 0, 7, .inl (fun _ => 0)))] sz)) (va_Qv (fun u : va_W => ((u = [(x1, .inr (11, [.ref x2, .int 0, .ref x3, .int 0, .ref x4, .ref x5, .int 2, .ref x6, .ref x7, .int 0]))]))) (wq_B D (va_A [(x1, .inr (11, [.ref x2, .int 0, .ref x3, .int 0, .ref x4, .ref x5, .int 1, .ref x6, .ref x7, .int 0])), (x4, .inl (ty 0, 7, .inl (fun _ => 0))), (x5, .inl (ty 0, 7, .inl (fun _ => 0)))] sz)) (va_A [(x1, .inr (11, [.ref x2, .int 0, .ref x3, .int 0, .ref x4, .ref x5, .int 1, .ref x6, .ref x7, .int 0])), (x4, .inl (ty 0, 7, .inl (fun _ => 0))), (x5, .inl (ty 0, 7, .inl (fun _ => 0)))] sz)) 0 0 (va_A [(x1, .inr (11, [.ref x2, .int 0, .ref x3, .int 0, .ref x4, .ref x5, .int 1, .ref x6, .ref x7, .int 0])), (x4, .inl (ty 0, 7, .inl (fun _ => 0))), (x5, .inl (ty 0, 7, .inl (fun _ => 0)))] sz) := by
  refine Met.ofW (cc := cX6_tellTime) (maxL := 3) (ret := none) (by decide) rfl ?_
  intro p e s m args below meth c s₁ B hml hv
  obtain ⟨rfl, hsz, hP, hK, hD0, hE⟩ := hv
  have hx := B.exec
  have hb := B.bytes
  have hr := B.returns
  have hts := atoms_spec (ws := vs_k_X6_tellTime) B.pre
  have hown : s.vm.findClass RX6 = some m.cls := findClass_of_methodNamed B.named
  have hlocks := B.notSynchronized
  subst hsz
  have hD := hD0.self (sz := s.heap.size)
  generalize hAe : va_A [(x1, .inr (11, [.ref x2, .int 0, .ref x3, .int 0, .ref x4, .ref x5, .int 1, .ref x6, .ref x7, .int 0])), (x4, .inl (ty 0, 7, .inl (fun _ => 0))), (x5, .inl (ty 0, 7, .inl (fun _ => 0)))] s.heap.size = A at hD hE ⊢
  have hA : ∀ q : Nat, s.heap.size ≤ q → A q := fun q h => by rw [← hAe]; exact Or.inr h
  have hS : va_S A s.heap s.heap [] := va_S.rf
  have hP : va_P D vwCl [(x1, .inr (11, [.ref x2, .int 0, .ref x3, .int 0, .ref x4, .ref x5, .int 1, .ref x6, .ref x7, .int 0])), (x4, .inl (ty 0, 7, .inl (fun _ => 0))), (x5, .inl (ty 0, 7, .inl (fun _ => 0)))] s.heap := hP
  have hl := lv_entry ([.ref x1, .int k1, .int k2]) (n := 3) (Nat.le_of_ble_eq_true rfl)
  rw [lg_entry_eq]
  generalize (lg_sl ([.ref x1, .int k1, .int k2]) ++ List.replicate (3 - (lg_sl ([.ref x1, .int k1, .int k2])).length) Slot.unset).toArray = ls at hl ⊢
  have hl : lv_has ls 3 [(0, .ref x1), (1, .int k1), (2, .int k2)] := hl
  refine lv_aload_n hx hb dX6_tellTime_0 rfl (lv_at hl 0 rfl) ?_
  refine va_get (D := D) (ci := 11) (v := .int 1) (C := RX6) (T := TX6) (N := 10) hx hb hts iv_k_X6_tellTime_X6 hown hK hP 0 rfl rfl 6 (by decide) (hts (.fieldLink RX6 27 "AnswerFold$Program" "timeCount" "I") (by decide +kernel)) (fun _ h9 => h9) rfl dX6_tellTime_1 ?_
  refine lv_if_lt (tgt := 61) hx hb dX6_tellTime_4 (by decide) (fun c0 => absurd c0 (by decide)) (fun _ => ?_)
  refine lv_aload_n hx hb dX6_tellTime_7 rfl (lv_at hl 0 rfl) ?_
  refine va_get (D := D) (ci := 11) (v := .int 1) (C := RX6) (T := TX6) (N := 10) hx hb hts iv_k_X6_tellTime_X6 hown hK hP 0 rfl rfl 6 (by decide) (hts (.fieldLink RX6 27 "AnswerFold$Program" "timeCount" "I") (by decide +kernel)) (fun _ h9 => h9) rfl dX6_tellTime_8 ?_
  refine lv_aload_n hx hb dX6_tellTime_11 rfl (lv_at hl 0 rfl) ?_
  refine va_get (D := D) (ci := 11) (v := .ref x4) (C := RX6) (T := TX6) (N := 10) hx hb hts iv_k_X6_tellTime_X6 hown hK hP 0 rfl rfl 4 (by decide) (hts (.fieldLink RX6 21 "AnswerFold$Program" "timePart" "[I") (by decide +kernel)) (fun _ h9 => h9) rfl dX6_tellTime_12 ?_
  refine va_alen (D := D) (v := 7) hx hb hK hP 1 0 rfl rfl (by first | decide | rfl) dX6_tellTime_15 ?_
  refine lv_icmp_ge (tgt := 61) hx hb dX6_tellTime_16 (by decide) (fun c0 => absurd c0 (by decide)) (fun _ => ?_)
  refine lv_aload_n hx hb dX6_tellTime_19 rfl (lv_at hl 0 rfl) ?_
  refine va_get (D := D) (ci := 11) (v := .int 1) (C := RX6) (T := TX6) (N := 10) hx hb hts iv_k_X6_tellTime_X6 hown hK hP 0 rfl rfl 6 (by decide) (hts (.fieldLink RX6 27 "AnswerFold$Program" "timeCount" "I") (by decide +kernel)) (fun _ h9 => h9) rfl dX6_tellTime_20 ?_
  refine lv_aload_n hx hb dX6_tellTime_23 rfl (lv_at hl 0 rfl) ?_
  refine va_get (D := D) (ci := 11) (v := .ref x5) (C := RX6) (T := TX6) (N := 10) hx hb hts iv_k_X6_tellTime_X6 hown hK hP 0 rfl rfl 5 (by decide) (hts (.fieldLink RX6 24 "AnswerFold$Program" "timeParameter" "[I") (by decide +kernel)) (fun _ h9 => h9) rfl dX6_tellTime_24 ?_
  refine va_alen (D := D) (v := 7) hx hb hK hP 2 0 rfl rfl (by first | decide | rfl) dX6_tellTime_27 ?_
  refine lv_icmp_ge (tgt := 61) hx hb dX6_tellTime_28 (by decide) (fun c0 => absurd c0 (by decide)) (fun _ => ?_)
  refine lv_aload_n hx hb dX6_tellTime_31 rfl (lv_at hl 0 rfl) ?_
  refine va_get (D := D) (ci := 11) (v := .ref x4) (C := RX6) (T := TX6) (N := 10) hx hb hts iv_k_X6_tellTime_X6 hown hK hP 0 rfl rfl 4 (by decide) (hts (.fieldLink RX6 21 "AnswerFold$Program" "timePart" "[I") (by decide +kernel)) (fun _ h9 => h9) rfl dX6_tellTime_32 ?_
  refine lv_aload_n hx hb dX6_tellTime_35 rfl (lv_at hl 0 rfl) ?_
  refine va_get (D := D) (ci := 11) (v := .int 1) (C := RX6) (T := TX6) (N := 10) hx hb hts iv_k_X6_tellTime_X6 hown hK hP 0 rfl rfl 6 (by decide) (hts (.fieldLink RX6 27 "AnswerFold$Program" "timeCount" "I") (by decide +kernel)) (fun _ h9 => h9) rfl dX6_tellTime_36 ?_
  refine lv_iload_n hx hb dX6_tellTime_39 rfl (lv_at hl 1 rfl) ?_
  refine va_iast (D := D) hx hb hK hP hD hS 1 0 rfl rfl (vp_in_iff.mpr (by decide)) dX6_tellTime_40 (fun H locs hP hD hS => ?_)
  have hP : va_P D vwCl [(x1, .inr (11, [.ref x2, .int 0, .ref x3, .int 0, .ref x4, .ref x5, .int 1, .ref x6, .ref x7, .int 0])), (x4, .inl (ty 0, 7, .inl (upd (fun _ => 0) (1 : Int32).toNatClampNeg k1))), (x5, .inl (ty 0, 7, .inl (fun _ => 0)))] H := hP
  have hD : va_D A [(x1, .inr (11, [.ref x2, .int 0, .ref x3, .int 0, .ref x4, .ref x5, .int 1, .ref x6, .ref x7, .int 0])), (x4, .inl (ty 0, 7, .inl (upd (fun _ => 0) (1 : Int32).toNatClampNeg k1))), (x5, .inl (ty 0, 7, .inl (fun _ => 0)))] := hD
  refine lv_aload_n hx hb dX6_tellTime_41 rfl (lv_at hl 0 rfl) ?_
  refine va_get (D := D) (ci := 11) (v := .ref x5) (C := RX6) (T := TX6) (N := 10) hx hb hts iv_k_X6_tellTime_X6 hown hK hP 0 rfl rfl 5 (by decide) (hts (.fieldLink RX6 24 "AnswerFold$Program" "timeParameter" "[I") (by decide +kernel)) (fun _ h9 => h9) rfl dX6_tellTime_42 ?_
  refine lv_aload_n hx hb dX6_tellTime_45 rfl (lv_at hl 0 rfl) ?_
  refine va_get (D := D) (ci := 11) (v := .int 1) (C := RX6) (T := TX6) (N := 10) hx hb hts iv_k_X6_tellTime_X6 hown hK hP 0 rfl rfl 6 (by decide) (hts (.fieldLink RX6 27 "AnswerFold$Program" "timeCount" "I") (by decide +kernel)) (fun _ h9 => h9) rfl dX6_tellTime_46 ?_
  refine lv_iload_n hx hb dX6_tellTime_49 rfl (lv_at hl 2 rfl) ?_
  refine va_iast (D := D) hx hb hK hP hD hS 2 0 rfl rfl (vp_in_iff.mpr (by decide)) dX6_tellTime_50 (fun H locs hP hD hS => ?_)
  have hP : va_P D vwCl [(x1, .inr (11, [.ref x2, .int 0, .ref x3, .int 0, .ref x4, .ref x5, .int 1, .ref x6, .ref x7, .int 0])), (x4, .inl (ty 0, 7, .inl (upd (fun _ => 0) (1 : Int32).toNatClampNeg k1))), (x5, .inl (ty 0, 7, .inl (upd (fun _ => 0) (1 : Int32).toNatClampNeg k2)))] H := hP
  have hD : va_D A [(x1, .inr (11, [.ref x2, .int 0, .ref x3, .int 0, .ref x4, .ref x5, .int 1, .ref x6, .ref x7, .int 0])), (x4, .inl (ty 0, 7, .inl (upd (fun _ => 0) (1 : Int32).toNatClampNeg k1))), (x5, .inl (ty 0, 7, .inl (upd (fun _ => 0) (1 : Int32).toNatClampNeg k2)))] := hD
  refine lv_aload_n hx hb dX6_tellTime_51 rfl (lv_at hl 0 rfl) ?_
  refine lv_dup hx hb dX6_tellTime_52 rfl ?_
  refine va_get (D := D) (ci := 11) (v := .int 1) (C := RX6) (T := TX6) (N := 10) hx hb hts iv_k_X6_tellTime_X6 hown hK hP 0 rfl rfl 6 (by decide) (hts (.fieldLink RX6 27 "AnswerFold$Program" "timeCount" "I") (by decide +kernel)) (fun _ h9 => h9) rfl dX6_tellTime_53 ?_
  refine lv_iconst (v := 1) hx hb dX6_tellTime_56 (by decide) ?_
  refine lv_iadd hx hb dX6_tellTime_57 ?_
  refine lv_topi (nm_r (e' := 2) (by decide) ?_)
  refine va_put (D := D) (ci := 11) (v := .int 2) (ty := tyX6 6) (C := RX6) (T := TX6) (N := 10) hx hb hts iv_k_X6_tellTime_X6 tyX6 tyX6_ok nmX6 hown hK hP hD hS 0 rfl rfl 6 (by decide) (hts (.fieldLink RX6 27 "AnswerFold$Program" "timeCount" "I") (by decide +kernel)) (fun _ h9 => h9) rfl (by decide +kernel) rfl rfl (Nat.le_of_ble_eq_true rfl) dX6_tellTime_58 (fun H locs hP hD hS => ?_)
  have hP : va_P D vwCl [(x1, .inr (11, [.ref x2, .int 0, .ref x3, .int 0, .ref x4, .ref x5, .int 2, .ref x6, .ref x7, .int 0])), (x4, .inl (ty 0, 7, .inl (upd (fun _ => 0) (1 : Int32).toNatClampNeg k1))), (x5, .inl (ty 0, 7, .inl (upd (fun _ => 0) (1 : Int32).toNatClampNeg k2)))] H := hP
  have hD : va_D A [(x1, .inr (11, [.ref x2, .int 0, .ref x3, .int 0, .ref x4, .ref x5, .int 2, .ref x6, .ref x7, .int 0])), (x4, .inl (ty 0, 7, .inl (upd (fun _ => 0) (1 : Int32).toNatClampNeg k1))), (x5, .inl (ty 0, 7, .inl (upd (fun _ => 0) (1 : Int32).toNatClampNeg k2)))] := hD
  have hP9 := hP.sub (ws' := [(x1, .inr (11, [.ref x2, .int 0, .ref x3, .int 0, .ref x4, .ref x5, .int 2, .ref x6, .ref x7, .int 0]))]) [0] rfl
  have hD9 := hD.sub (ws' := [(x1, .inr (11, [.ref x2, .int 0, .ref x3, .int 0, .ref x4, .ref x5, .int 2, .ref x6, .ref x7, .int 0]))]) [0] (by decide) rfl
  refine W.widen (k := 0) (n := 0) (Nat.le_of_ble_eq_true rfl) (Nat.le_of_ble_eq_true rfl) ?_
  exact W.vret hx hb hr (fun t ht hW => ⟨⟨[(x1, .inr (11, [.ref x2, .int 0, .ref x3, .int 0, .ref x4, .ref x5, .int 2, .ref x6, .ref x7, .int 0]))], rfl, rfl, wq_B.of ht hP9 hD9⟩, hS.F ht⟩) hS.2.2 dX6_tellTime_61
def vs_k_X10_ground : List Cond := .code yX10_ground cX10_ground 3 (some .int) :: ([.classLink RX10 60 "java/lang/IllegalArgumentException", .initialized "java/lang/IllegalArgumentException", .methodLink RX10 187 yX10_isValue, .static yX10_isValue, .initialized RX10, .fieldLink RX10 12 "AnswerFold" "program" "LAnswerFold$Program;", .methodLink RX10 192 yX6_groundedByCalls, .instanceMethod yX6_groundedByCalls, .selects RX6 yX6_groundedByCalls yX6_groundedByCalls, .initialized RX6, .methodLink RX10 196 yX6_isGrounded, .instanceMethod yX6_isGrounded, .selects RX6 yX6_isGrounded yX6_isGrounded, .methodLink RX10 76 yX10_forgetGrounding, .instanceMethod yX10_forgetGrounding, .selects RX10 yX10_forgetGrounding yX10_forgetGrounding, .methodLink RX10 202 yX6_tellTime, .instanceMethod yX6_tellTime, .selects RX6 yX6_tellTime yX6_tellTime, .classLink RX10 71 "java/lang/IllegalStateException", .initialized "java/lang/IllegalStateException"] ++ ((vx_atS RX10 64 "java/lang/IllegalArgumentException" ["java/lang/RuntimeException", "java/lang/Exception"]).filter goodWord ++ (vs_k_X10_isValue ++ (u_ws RX10 TX10 7 ++ (vs_k_X6_groundedByCalls ++ (vs_k_X6_isGrounded ++ (vs_k_X10_forgetGrounding ++ (vs_k_X6_tellTime ++ (vs_k_X6_groundedByCalls_2 ++ ((vx_atS RX10 75 "java/lang/IllegalStateException" ["java/lang/RuntimeException", "java/lang/Exception"]).filter goodWord))))))))))
theorem iv_k_X10_ground_X10 : ∀ w ∈ u_ws RX10 TX10 7, w ∈ vs_k_X10_ground := (fun _ h => List.mem_cons_of_mem _ (List.mem_append_right _ (List.mem_append_right _ (List.mem_append_right _ (List.mem_append_left _ h)))))
theorem ix_k_X10_ground_64 : ∀ w ∈ (vx_atS RX10 64 "java/lang/IllegalArgumentException" ["java/lang/RuntimeException", "java/lang/Exception"]).filter goodWord, w ∈ vs_k_X10_ground := (fun _ h => List.mem_cons_of_mem _ (List.mem_append_right _ (List.mem_append_left _ h)))
theorem ix_k_X10_ground_75 : ∀ w ∈ (vx_atS RX10 75 "java/lang/IllegalStateException" ["java/lang/RuntimeException", "java/lang/Exception"]).filter goodWord, w ∈ vs_k_X10_ground := (fun _ h => List.mem_cons_of_mem _ (List.mem_append_right _ (List.mem_append_right _ (List.mem_append_right _ (List.mem_append_right _ (List.mem_append_right _ (List.mem_append_right _ (List.mem_append_right _ (List.mem_append_right _ (List.mem_append_right _ (h)))))))))))
set_option maxRecDepth 20000 in
theorem gv_k_X10_ground_0 : GoodIn vs_k_X10_ground (va_wsS RX10 187 yX10_isValue vs_k_X10_isValue) := goodIn_app (goodIn_sub (by decide +kernel) (by decide +kernel)) (goodIn_sub (fun _ h => List.mem_cons_of_mem _ (List.mem_append_right _ (List.mem_append_right _ (List.mem_append_left _ h)))) (by decide +kernel))
set_option maxRecDepth 20000 in
theorem gv_k_X10_ground_1 : GoodIn vs_k_X10_ground (wsV RX10 192 RX6 yX6_groundedByCalls vs_k_X6_groundedByCalls) := goodIn_app (goodIn_sub (by decide +kernel) (by decide +kernel)) (goodIn_sub (fun _ h => List.mem_cons_of_mem _ (List.mem_append_right _ (List.mem_append_right _ (List.mem_append_right _ (List.mem_append_right _ (List.mem_append_left _ h)))))) (by decide +kernel))
set_option maxRecDepth 20000 in
theorem gv_k_X10_ground_2 : GoodIn vs_k_X10_ground (wsV RX10 196 RX6 yX6_isGrounded vs_k_X6_isGrounded) := goodIn_app (goodIn_sub (by decide +kernel) (by decide +kernel)) (goodIn_sub (fun _ h => List.mem_cons_of_mem _ (List.mem_append_right _ (List.mem_append_right _ (List.mem_append_right _ (List.mem_append_right _ (List.mem_append_right _ (List.mem_append_left _ h))))))) (by decide +kernel))
set_option maxRecDepth 20000 in
theorem gv_k_X10_ground_3 : GoodIn vs_k_X10_ground (wsV RX10 76 RX10 yX10_forgetGrounding vs_k_X10_forgetGrounding) := goodIn_app (goodIn_sub (by decide +kernel) (by decide +kernel)) (goodIn_sub (fun _ h => List.mem_cons_of_mem _ (List.mem_append_right _ (List.mem_append_right _ (List.mem_append_right _ (List.mem_append_right _ (List.mem_append_right _ (List.mem_append_right _ (List.mem_append_left _ h)))))))) (by decide +kernel))
set_option maxRecDepth 20000 in
theorem gv_k_X10_ground_4 : GoodIn vs_k_X10_ground (wsV RX10 202 RX6 yX6_tellTime vs_k_X6_tellTime) := goodIn_app (goodIn_sub (by decide +kernel) (by decide +kernel)) (goodIn_sub (fun _ h => List.mem_cons_of_mem _ (List.mem_append_right _ (List.mem_append_right _ (List.mem_append_right _ (List.mem_append_right _ (List.mem_append_right _ (List.mem_append_right _ (List.mem_append_right _ (List.mem_append_left _ h))))))))) (by decide +kernel))
set_option maxRecDepth 20000 in
theorem gv_k_X10_ground_5 : GoodIn vs_k_X10_ground (wsV RX10 192 RX6 yX6_groundedByCalls vs_k_X6_groundedByCalls_2) := goodIn_app (goodIn_sub (by decide +kernel) (by decide +kernel)) (goodIn_sub (fun _ h => List.mem_cons_of_mem _ (List.mem_append_right _ (List.mem_append_right _ (List.mem_append_right _ (List.mem_append_right _ (List.mem_append_right _ (List.mem_append_right _ (List.mem_append_right _ (List.mem_append_right _ (List.mem_append_left _ h)))))))))) (by decide +kernel))
set_option maxRecDepth 20000 in
theorem gv_k_X10_ground_6 : GoodIn vs_k_X10_ground (wsV RX10 76 RX10 yX10_forgetGrounding vs_k_X10_forgetGrounding) := goodIn_app (goodIn_sub (by decide +kernel) (by decide +kernel)) (goodIn_sub (fun _ h => List.mem_cons_of_mem _ (List.mem_append_right _ (List.mem_append_right _ (List.mem_append_right _ (List.mem_append_right _ (List.mem_append_right _ (List.mem_append_right _ (List.mem_append_left _ h)))))))) (by decide +kernel))
set_option maxRecDepth 20000 in
theorem gv_k_X10_ground_7 : GoodIn vs_k_X10_ground (wsV RX10 202 RX6 yX6_tellTime vs_k_X6_tellTime) := goodIn_app (goodIn_sub (by decide +kernel) (by decide +kernel)) (goodIn_sub (fun _ h => List.mem_cons_of_mem _ (List.mem_append_right _ (List.mem_append_right _ (List.mem_append_right _ (List.mem_append_right _ (List.mem_append_right _ (List.mem_append_right _ (List.mem_append_right _ (List.mem_append_left _ h))))))))) (by decide +kernel))
set_option maxRecDepth 20000 in
theorem gv_k_X10_ground_8 : GoodIn vs_k_X10_ground (wsV RX10 192 RX6 yX6_groundedByCalls vs_k_X6_groundedByCalls_2) := goodIn_app (goodIn_sub (by decide +kernel) (by decide +kernel)) (goodIn_sub (fun _ h => List.mem_cons_of_mem _ (List.mem_append_right _ (List.mem_append_right _ (List.mem_append_right _ (List.mem_append_right _ (List.mem_append_right _ (List.mem_append_right _ (List.mem_append_right _ (List.mem_append_right _ (List.mem_append_left _ h)))))))))) (by decide +kernel))
set_option maxHeartbeats 4000000 in
set_option maxRecDepth 100000 in
theorem k_X10_ground (l : Launch) (hl9 : l.stackTraces = false) (D : va_G) (ty : Nat → ClassId) (td mi sz : Nat) (x0 : Nat) (x1 : Nat) (x8 : Nat) (x20 : Nat) (x39 : Nat) (x41 : Nat) (x43 : Nat) (x45 : Nat) (x2 : Nat) (x3 : Nat) (x4 : Nat) (x5 : Nat) (x6 : Nat) (x7 : Nat) (x9 : Nat) (x10 : Nat) (x12 : Nat) (x14 : Nat) (x15 : Nat) (x16 : Nat) (x17 : Nat) (x18 : Nat) (x19 : Nat) (x21 : Nat) (x28 : Nat) (x35 : Nat) (x36 : Nat) (x37 : Nat) (x38 : Nat) (x46 : Nat) (x47 : Nat) (k1 : Int32) (k2 : Int32) : vx_Met l yX10_ground vs_k_X10_ground { frames := 6, cells := 1, slots := 6, locals := 82 } (va_Pc [.ref x0, .int k1, .int k2] (wq_P D ty td mi [(x0, .inr (15, [.ref x1, .ref x8, .ref x20, .ref x39, .ref x41, .ref x43, .ref x45])), (x1, .inr (11, [.ref x2, .int 0, .ref x3, .int 0, .ref x4, .ref x5, .int 1, .ref x6, .ref x7, .int 0])), (x4, .inl (ty 0, 7, .inl (fun _ => 0))), (x5, .inl (ty 0, 7, .inl (fun _ => 0))), (x8, .inr (8, [.ref x1, .ref x9, .ref x10, .ref x12, .ref x14, .int 0, .ref x15, .ref x16, .ref x17, .int 0, .ref x18, .ref x19, .int 0, .int 0, .int 0, .int 0])), (x20, .inr (14, [.ref x1, .ref x8, .ref x21, .ref x28, .ref x35, .int 0, .ref x36, .ref x37, .ref x38, .int 0, .int 0, .int 0, .int 0, .int 0, .int 0, .int 0, .int 0])), (x45, .inr (5, [.ref x46, .ref x47, .int 0, .int 0]))] sz)) (va_Qi (fun (r : Int32) (u : va_W) => (r = 1 ∧ (¬ (k1 < 1)) ∧ (¬ (3 < k1)) ∧ (¬ (k2 < 0)) ∧ (¬ (8 ≤ k2)) ∧ (¬ (0 = k1)) ∧ (¬ ((-1) = k2)) ∧ (u = [])) ∨ (r = 1 ∧ (¬ (k1 < 1)) ∧ (¬ (3 < k1)) ∧ (¬ (k2 < 0)) ∧ (¬ (8 ≤ k2)) ∧ (0 = k1) ∧ (¬ (0 = k2)) ∧ (u = []))) (wq_B D (va_A [(x0, .inr (15, [.ref x1, .ref x8, .ref x20, .ref x39, .ref x41, .ref x43, .ref x45])), (x1, .inr (11, [.ref x2, .int 0, .ref x3, .int 0, .ref x4, .ref x5, .int 1, .ref x6, .ref x7, .int 0])), (x4, .inl (ty 0, 7, .inl (fun _ => 0))), (x5, .inl (ty 0, 7, .inl (fun _ => 0))), (x8, .inr (8, [.ref x1, .ref x9, .ref x10, .ref x12, .ref x14, .int 0, .ref x15, .ref x16, .ref x17, .int 0, .ref x18, .ref x19, .int 0, .int 0, .int 0, .int 0])), (x20, .inr (14, [.ref x1, .ref x8, .ref x21, .ref x28, .ref x35, .int 0, .ref x36, .ref x37, .ref x38, .int 0, .int 0, .int 0, .int 0, .int 0, .int 0, .int 0, .int 0])), (x45, .inr (5, [.ref x46, .ref x47, .int 0, .int 0]))] sz)) (va_A [(x0, .inr (15, [.ref x1, .ref x8, .ref x20, .ref x39, .ref x41, .ref x43, .ref x45])), (x1, .inr (11, [.ref x2, .int 0, .ref x3, .int 0, .ref x4, .ref x5, .int 1, .ref x6, .ref x7, .int 0])), (x4, .inl (ty 0, 7, .inl (fun _ => 0))), (x5, .inl (ty 0, 7, .inl (fun _ => 0))), (x8, .inr (8, [.ref x1, .ref x9, .ref x10, .ref x12, .ref x14, .int 0, .ref x15, .ref x16, .ref x17, .int 0, .ref x18, .ref x19, .int 0, .int 0, .int 0, .int 0])), (x20, .inr (14, [.ref x1, .ref x8, .ref x21, .ref x28, .ref x35, .int 0, .ref x36, .ref x37, .ref x38, .int 0, .int 0, .int 0, .int 0, .int 0, .int 0, .int 0, .int 0])), (x45, .inr (5, [.ref x46, .ref x47, .int 0, .int 0]))] sz)) (vx_X (fun u : String × va_W => (u = ("java/lang/IllegalArgumentException", []) ∧ (k1 < 1)) ∨ (u = ("java/lang/IllegalArgumentException", []) ∧ (¬ (k1 < 1)) ∧ (3 < k1)) ∨ (u = ("java/lang/IllegalArgumentException", []) ∧ (¬ (k1 < 1)) ∧ (¬ (3 < k1)) ∧ (k2 < 0)) ∨ (u = ("java/lang/IllegalArgumentException", []) ∧ (¬ (k1 < 1)) ∧ (¬ (3 < k1)) ∧ (¬ (k2 < 0)) ∧ (8 ≤ k2)) ∨ (u = ("java/lang/IllegalStateException", []) ∧ (¬ (k1 < 1)) ∧ (¬ (3 < k1)) ∧ (¬ (k2 < 0)) ∧ (¬ (8 ≤ k2)) ∧ (¬ (0 = k1)) ∧ ((-1) = k2)) ∨ (u = ("java/lang/IllegalStateException", []) ∧ (¬ (k1 < 1)) ∧ (¬ (3 < k1)) ∧ (¬ (k2 < 0)) ∧ (¬ (8 ≤ k2)) ∧ (0 = k1) ∧ (0 = k2))) (wq_BX D (va_A [(x0, .inr (15, [.ref x1, .ref x8, .ref x20, .ref x39, .ref x41, .ref x43, .ref x45])), (x1, .inr (11, [.ref x2, .int 0, .ref x3, .int 0, .ref x4, .ref x5, .int 1, .ref x6, .ref x7, .int 0])), (x4, .inl (ty 0, 7, .inl (fun _ => 0))), (x5, .inl (ty 0, 7, .inl (fun _ => 0))), (x8, .inr (8, [.ref x1, .ref x9, .ref x10, .ref x12, .ref x14, .int 0, .ref x15, .ref x16, .ref x17, .int 0, .ref x18, .ref x19, .int 0, .int 0, .int 0, .int 0])), (x20, .inr (14, [.ref x1, .ref x8, .ref x21, .ref x28, .ref x35, .int 0, .ref x36, .ref x37, .ref x38, .int 0, .int 0, .int 0, .int 0, .int 0, .int 0, .int 0, .int 0])), (x45, .inr (5, [.ref x46, .ref x47, .int 0, .int 0]))] sz)) (va_A [(x0, .inr (15, [.ref x1, .ref x8, .ref x20, .ref x39, .ref x41, .ref x43, .ref x45])), (x1, .inr (11, [.ref x2, .int 0, .ref x3, .int 0, .ref x4, .ref x5, .int 1, .ref x6, .ref x7, .int 0])), (x4, .inl (ty 0, 7, .inl (fun _ => 0))), (x5, .inl (ty 0, 7, .inl (fun _ => 0))), (x8, .inr (8, [.ref x1, .ref x9, .ref x10, .ref x12, .ref x14, .int 0, .ref x15, .ref x16, .ref x17, .int 0, .ref x18, .ref x19, .int 0, .int 0, .int 0, .int 0])), (x20, .inr (14, [.ref x1, .ref x8, .ref x21, .ref x28, .ref x35, .int 0, .ref x36, .ref x37, .ref x38, .int 0, .int 0, .int 0, .int 0, .int 0, .int 0, .int 0, .int 0])), (x45, .inr (5, [.ref x46, .ref x47, .int 0, .int 0]))] sz)) 1 6 (va_A [(x0, .inr (15, [.ref x1, .ref x8, .ref x20, .ref x39, .ref x41, .ref x43, .ref x45])), (x1, .inr (11, [.ref x2, .int 0, .ref x3, .int 0, .ref x4, .ref x5, .int 1, .ref x6, .ref x7, .int 0])), (x4, .inl (ty 0, 7, .inl (fun _ => 0))), (x5, .inl (ty 0, 7, .inl (fun _ => 0))), (x8, .inr (8, [.ref x1, .ref x9, .ref x10, .ref x12, .ref x14, .int 0, .ref x15, .ref x16, .ref x17, .int 0, .ref x18, .ref x19, .int 0, .int 0, .int 0, .int 0])), (x20, .inr (14, [.ref x1, .ref x8, .ref x21, .ref x28, .ref x35, .int 0, .ref x36, .ref x37, .ref x38, .int 0, .int 0, .int 0, .int 0, .int 0, .int 0, .int 0, .int 0])), (x45, .inr (5, [.ref x46, .ref x47, .int 0, .int 0]))] sz) := by
  refine vx_ofW (cc := cX10_ground) (maxL := 3) (ret := (some .int)) (by decide) rfl ?_
  intro p e s m args below meth c s₁ B hml hEx hv
  obtain ⟨rfl, hsz, hP, hK, hD0, hE⟩ := hv
  have hx := B.exec
  have hb := B.bytes
  have hr := B.returns
  have hts := atoms_spec (ws := vs_k_X10_ground) B.pre
  have hown : s.vm.findClass RX10 = some m.cls := findClass_of_methodNamed B.named
  have hlocks := B.notSynchronized
  subst hsz
  have hD := hD0.self (sz := s.heap.size)
  generalize hAe : va_A [(x0, .inr (15, [.ref x1, .ref x8, .ref x20, .ref x39, .ref x41, .ref x43, .ref x45])), (x1, .inr (11, [.ref x2, .int 0, .ref x3, .int 0, .ref x4, .ref x5, .int 1, .ref x6, .ref x7, .int 0])), (x4, .inl (ty 0, 7, .inl (fun _ => 0))), (x5, .inl (ty 0, 7, .inl (fun _ => 0))), (x8, .inr (8, [.ref x1, .ref x9, .ref x10, .ref x12, .ref x14, .int 0, .ref x15, .ref x16, .ref x17, .int 0, .ref x18, .ref x19, .int 0, .int 0, .int 0, .int 0])), (x20, .inr (14, [.ref x1, .ref x8, .ref x21, .ref x28, .ref x35, .int 0, .ref x36, .ref x37, .ref x38, .int 0, .int 0, .int 0, .int 0, .int 0, .int 0, .int 0, .int 0])), (x45, .inr (5, [.ref x46, .ref x47, .int 0, .int 0]))] s.heap.size = A at hD hE ⊢
  have hA : ∀ q : Nat, s.heap.size ≤ q → A q := fun q h => by rw [← hAe]; exact Or.inr h
  have hS : va_S A s.heap s.heap [] := va_S.rf
  have hP : va_P D vwCl [(x0, .inr (15, [.ref x1, .ref x8, .ref x20, .ref x39, .ref x41, .ref x43, .ref x45])), (x1, .inr (11, [.ref x2, .int 0, .ref x3, .int 0, .ref x4, .ref x5, .int 1, .ref x6, .ref x7, .int 0])), (x4, .inl (ty 0, 7, .inl (fun _ => 0))), (x5, .inl (ty 0, 7, .inl (fun _ => 0))), (x8, .inr (8, [.ref x1, .ref x9, .ref x10, .ref x12, .ref x14, .int 0, .ref x15, .ref x16, .ref x17, .int 0, .ref x18, .ref x19, .int 0, .int 0, .int 0, .int 0])), (x20, .inr (14, [.ref x1, .ref x8, .ref x21, .ref x28, .ref x35, .int 0, .ref x36, .ref x37, .ref x38, .int 0, .int 0, .int 0, .int 0, .int 0, .int 0, .int 0, .int 0])), (x45, .inr (5, [.ref x46, .ref x47, .int 0, .int 0]))] s.heap := hP
  have hl := lv_entry ([.ref x0, .int k1, .int k2]) (n := 3) (Nat.le_of_ble_eq_true rfl)
  rw [lg_entry_eq]
  generalize (lg_sl ([.ref x0, .int k1, .int k2]) ++ List.replicate (3 - (lg_sl ([.ref x0, .int k1, .int k2])).length) Slot.unset).toArray = ls at hl ⊢
  have hl : lv_has ls 3 [(0, .ref x0), (1, .int k1), (2, .int k2)] := hl
  refine lv_iload_n hx hb dX10_ground_0 rfl (lv_at hl 1 rfl) ?_
  refine lv_iconst (v := 1) hx hb dX10_ground_1 (by decide) ?_
  refine lv_icmp_lt (tgt := 17) hx hb dX10_ground_2 (by decide) (fun c_1 => ?_) (fun c_1 => ?_)
  · obtain ⟨sa, hsa⟩ := hE.st 190 "parts are 1 to 3, parameters 0 to 7" (by decide +kernel)
    exact vx_throwS (own := RX10) (cls := "java/lang/IllegalArgumentException") (text := "parts are 1 to 3, parameters 0 to 7") (names := ["java/lang/RuntimeException", "java/lang/Exception"]) (ik := 60) (is := 190) (ic := 64) (sa := sa) (A := A) hx hb hl9 hown (by decide +kernel) (by decide +kernel) (hts (.classLink RX10 60 "java/lang/IllegalArgumentException") (by decide +kernel)) (hts (.initialized "java/lang/IllegalArgumentException") (by decide +kernel)) hsa (wq_hat hE hts ix_k_X10_ground_64 (by decide +kernel) (by decide +kernel)) (by decide +kernel) hE.zu hE.zs hS (hl.1.trans hml.symm) dX10_ground_17 dX10_ground_20 dX10_ground_21 dX10_ground_23 dX10_ground_26 (fun x hx => (hEx x hx).elim) (Nat.le_of_ble_eq_true rfl) (Nat.le_of_ble_eq_true rfl) (Nat.le_of_ble_eq_true rfl) (Nat.le_of_ble_eq_true rfl) hlocks (fun t ha hz hk => wq_thr hS (by exact (Or.inl ⟨rfl, c_1⟩)) hz hk) hS.2.2 (Nat.le_of_ble_eq_true rfl) (Nat.le_of_ble_eq_true rfl)
  · refine lv_iload_n hx hb dX10_ground_5 rfl (lv_at hl 1 rfl) ?_
    refine lv_iconst (v := 3) hx hb dX10_ground_6 (by decide) ?_
    refine lv_icmp_gt (tgt := 17) hx hb dX10_ground_7 (by decide) (fun c_2 => ?_) (fun c_2 => ?_)
    · obtain ⟨sa, hsa⟩ := hE.st 190 "parts are 1 to 3, parameters 0 to 7" (by decide +kernel)
      exact vx_throwS (own := RX10) (cls := "java/lang/IllegalArgumentException") (text := "parts are 1 to 3, parameters 0 to 7") (names := ["java/lang/RuntimeException", "java/lang/Exception"]) (ik := 60) (is := 190) (ic := 64) (sa := sa) (A := A) hx hb hl9 hown (by decide +kernel) (by decide +kernel) (hts (.classLink RX10 60 "java/lang/IllegalArgumentException") (by decide +kernel)) (hts (.initialized "java/lang/IllegalArgumentException") (by decide +kernel)) hsa (wq_hat hE hts ix_k_X10_ground_64 (by decide +kernel) (by decide +kernel)) (by decide +kernel) hE.zu hE.zs hS (hl.1.trans hml.symm) dX10_ground_17 dX10_ground_20 dX10_ground_21 dX10_ground_23 dX10_ground_26 (fun x hx => (hEx x hx).elim) (Nat.le_of_ble_eq_true rfl) (Nat.le_of_ble_eq_true rfl) (Nat.le_of_ble_eq_true rfl) (Nat.le_of_ble_eq_true rfl) hlocks (fun t ha hz hk => wq_thr hS (by exact (Or.inr (Or.inl ⟨rfl, c_1, c_2⟩))) hz hk) hS.2.2 (Nat.le_of_ble_eq_true rfl) (Nat.le_of_ble_eq_true rfl)
    · refine lv_iload_n hx hb dX10_ground_10 rfl (lv_at hl 2 rfl) ?_
      refine wq_i (wc := []) (wr := [(x0, .inr (15, [.ref x1, .ref x8, .ref x20, .ref x39, .ref x41, .ref x43, .ref x45])), (x1, .inr (11, [.ref x2, .int 0, .ref x3, .int 0, .ref x4, .ref x5, .int 1, .ref x6, .ref x7, .int 0])), (x4, .inl (ty 0, 7, .inl (fun _ => 0))), (x5, .inl (ty 0, 7, .inl (fun _ => 0))), (x8, .inr (8, [.ref x1, .ref x9, .ref x10, .ref x12, .ref x14, .int 0, .ref x15, .ref x16, .ref x17, .int 0, .ref x18, .ref x19, .int 0, .int 0, .int 0, .int 0])), (x20, .inr (14, [.ref x1, .ref x8, .ref x21, .ref x28, .ref x35, .int 0, .ref x36, .ref x37, .ref x38, .int 0, .int 0, .int 0, .int 0, .int 0, .int 0, .int 0, .int 0])), (x45, .inr (5, [.ref x46, .ref x47, .int 0, .int 0]))]) (va_runS (As := [.int k2]) (rest := []) ⟨hx, hb, hml, hown, hts⟩ (k_X10_isValue l D ty td mi s.heap.size k2) (va_cwS 1 hts gv_k_X10_ground_0 rfl rfl rfl (by decide +kernel) ⟨(Nat.le_of_ble_eq_true rfl), (Nat.le_of_ble_eq_true rfl)⟩) (wq_preS hP hD hK hE hS hA [] rfl (by decide)) rfl rfl hl.1 rfl (lv_room (Nat.le_of_ble_eq_true rfl)) dX10_ground_11 ⟨(Nat.le_of_ble_eq_true rfl), (Nat.le_of_ble_eq_true rfl)⟩) hS hA hP hD [] [0, 1, 2, 3, 4, 5, 6] rfl rfl (by decide) (by decide) (fun r u H locs hw hP hD hS => ?_)
      rcases hw with ⟨rfl, c_3, rfl⟩ | ⟨rfl, c_4, c_5, rfl⟩ | ⟨rfl, c_6, c_7, rfl⟩
      · have hP : va_P D vwCl [(x0, .inr (15, [.ref x1, .ref x8, .ref x20, .ref x39, .ref x41, .ref x43, .ref x45])), (x1, .inr (11, [.ref x2, .int 0, .ref x3, .int 0, .ref x4, .ref x5, .int 1, .ref x6, .ref x7, .int 0])), (x4, .inl (ty 0, 7, .inl (fun _ => 0))), (x5, .inl (ty 0, 7, .inl (fun _ => 0))), (x8, .inr (8, [.ref x1, .ref x9, .ref x10, .ref x12, .ref x14, .int 0, .ref x15, .ref x16, .ref x17, .int 0, .ref x18, .ref x19, .int 0, .int 0, .int 0, .int 0])), (x20, .inr (14, [.ref x1, .ref x8, .ref x21, .ref x28, .ref x35, .int 0, .ref x36, .ref x37, .ref x38, .int 0, .int 0, .int 0, .int 0, .int 0, .int 0, .int 0, .int 0])), (x45, .inr (5, [.ref x46, .ref x47, .int 0, .int 0]))] H := hP
        have hD : va_D A [(x0, .inr (15, [.ref x1, .ref x8, .ref x20, .ref x39, .ref x41, .ref x43, .ref x45])), (x1, .inr (11, [.ref x2, .int 0, .ref x3, .int 0, .ref x4, .ref x5, .int 1, .ref x6, .ref x7, .int 0])), (x4, .inl (ty 0, 7, .inl (fun _ => 0))), (x5, .inl (ty 0, 7, .inl (fun _ => 0))), (x8, .inr (8, [.ref x1, .ref x9, .ref x10, .ref x12, .ref x14, .int 0, .ref x15, .ref x16, .ref x17, .int 0, .ref x18, .ref x19, .int 0, .int 0, .int 0, .int 0])), (x20, .inr (14, [.ref x1, .ref x8, .ref x21, .ref x28, .ref x35, .int 0, .ref x36, .ref x37, .ref x38, .int 0, .int 0, .int 0, .int 0, .int 0, .int 0, .int 0, .int 0])), (x45, .inr (5, [.ref x46, .ref x47, .int 0, .int 0]))] := hD
        refine W.widen (k := 0) (n := 0) (Nat.le_of_ble_eq_true rfl) (Nat.le_of_ble_eq_true rfl) ?_
        refine lv_if_ne (tgt := 27) hx hb dX10_ground_14 (by decide) (fun c0 => absurd (by decide) c0) (fun _ => ?_)
        obtain ⟨sa, hsa⟩ := hE.st 190 "parts are 1 to 3, parameters 0 to 7" (by decide +kernel)
        exact vx_throwS (own := RX10) (cls := "java/lang/IllegalArgumentException") (text := "parts are 1 to 3, parameters 0 to 7") (names := ["java/lang/RuntimeException", "java/lang/Exception"]) (ik := 60) (is := 190) (ic := 64) (sa := sa) (A := A) hx hb hl9 hown (by decide +kernel) (by decide +kernel) (hts (.classLink RX10 60 "java/lang/IllegalArgumentException") (by decide +kernel)) (hts (.initialized "java/lang/IllegalArgumentException") (by decide +kernel)) hsa (wq_hat hE hts ix_k_X10_ground_64 (by decide +kernel) (by decide +kernel)) (by decide +kernel) hE.zu hE.zs hS (hl.1.trans hml.symm) dX10_ground_17 dX10_ground_20 dX10_ground_21 dX10_ground_23 dX10_ground_26 (fun x hx => (hEx x hx).elim) (Nat.le_of_ble_eq_true rfl) (Nat.le_of_ble_eq_true rfl) (Nat.le_of_ble_eq_true rfl) (Nat.le_of_ble_eq_true rfl) hlocks (fun t ha hz hk => wq_thr hS (by exact (Or.inr (Or.inr (Or.inl ⟨rfl, c_1, c_2, c_3⟩)))) hz hk) hS.2.2 (Nat.le_of_ble_eq_true rfl) (Nat.le_of_ble_eq_true rfl)
      · have hP : va_P D vwCl [(x0, .inr (15, [.ref x1, .ref x8, .ref x20, .ref x39, .ref x41, .ref x43, .ref x45])), (x1, .inr (11, [.ref x2, .int 0, .ref x3, .int 0, .ref x4, .ref x5, .int 1, .ref x6, .ref x7, .int 0])), (x4, .inl (ty 0, 7, .inl (fun _ => 0))), (x5, .inl (ty 0, 7, .inl (fun _ => 0))), (x8, .inr (8, [.ref x1, .ref x9, .ref x10, .ref x12, .ref x14, .int 0, .ref x15, .ref x16, .ref x17, .int 0, .ref x18, .ref x19, .int 0, .int 0, .int 0, .int 0])), (x20, .inr (14, [.ref x1, .ref x8, .ref x21, .ref x28, .ref x35, .int 0, .ref x36, .ref x37, .ref x38, .int 0, .int 0, .int 0, .int 0, .int 0, .int 0, .int 0, .int 0])), (x45, .inr (5, [.ref x46, .ref x47, .int 0, .int 0]))] H := hP
        have hD : va_D A [(x0, .inr (15, [.ref x1, .ref x8, .ref x20, .ref x39, .ref x41, .ref x43, .ref x45])), (x1, .inr (11, [.ref x2, .int 0, .ref x3, .int 0, .ref x4, .ref x5, .int 1, .ref x6, .ref x7, .int 0])), (x4, .inl (ty 0, 7, .inl (fun _ => 0))), (x5, .inl (ty 0, 7, .inl (fun _ => 0))), (x8, .inr (8, [.ref x1, .ref x9, .ref x10, .ref x12, .ref x14, .int 0, .ref x15, .ref x16, .ref x17, .int 0, .ref x18, .ref x19, .int 0, .int 0, .int 0, .int 0])), (x20, .inr (14, [.ref x1, .ref x8, .ref x21, .ref x28, .ref x35, .int 0, .ref x36, .ref x37, .ref x38, .int 0, .int 0, .int 0, .int 0, .int 0, .int 0, .int 0, .int 0])), (x45, .inr (5, [.ref x46, .ref x47, .int 0, .int 0]))] := hD
        refine W.widen (k := 0) (n := 0) (Nat.le_of_ble_eq_true rfl) (Nat.le_of_ble_eq_true rfl) ?_
        refine lv_if_ne (tgt := 27) hx hb dX10_ground_14 (by decide) (fun c0 => absurd (by decide) c0) (fun _ => ?_)
        obtain ⟨sa, hsa⟩ := hE.st 190 "parts are 1 to 3, parameters 0 to 7" (by decide +kernel)
        exact vx_throwS (own := RX10) (cls := "java/lang/IllegalArgumentException") (text := "parts are 1 to 3, parameters 0 to 7") (names := ["java/lang/RuntimeException", "java/lang/Exception"]) (ik := 60) (is := 190) (ic := 64) (sa := sa) (A := A) hx hb hl9 hown (by decide +kernel) (by decide +kernel) (hts (.classLink RX10 60 "java/lang/IllegalArgumentException") (by decide +kernel)) (hts (.initialized "java/lang/IllegalArgumentException") (by decide +kernel)) hsa (wq_hat hE hts ix_k_X10_ground_64 (by decide +kernel) (by decide +kernel)) (by decide +kernel) hE.zu hE.zs hS (hl.1.trans hml.symm) dX10_ground_17 dX10_ground_20 dX10_ground_21 dX10_ground_23 dX10_ground_26 (fun x hx => (hEx x hx).elim) (Nat.le_of_ble_eq_true rfl) (Nat.le_of_ble_eq_true rfl) (Nat.le_of_ble_eq_true rfl) (Nat.le_of_ble_eq_true rfl) hlocks (fun t ha hz hk => wq_thr hS (by exact (Or.inr (Or.inr (Or.inr (Or.inl ⟨rfl, c_1, c_2, c_4, c_5⟩))))) hz hk) hS.2.2 (Nat.le_of_ble_eq_true rfl) (Nat.le_of_ble_eq_true rfl)
      · have hP : va_P D vwCl [(x0, .inr (15, [.ref x1, .ref x8, .ref x20, .ref x39, .ref x41, .ref x43, .ref x45])), (x1, .inr (11, [.ref x2, .int 0, .ref x3, .int 0, .ref x4, .ref x5, .int 1, .ref x6, .ref x7, .int 0])), (x4, .inl (ty 0, 7, .inl (fun _ => 0))), (x5, .inl (ty 0, 7, .inl (fun _ => 0))), (x8, .inr (8, [.ref x1, .ref x9, .ref x10, .ref x12, .ref x14, .int 0, .ref x15, .ref x16, .ref x17, .int 0, .ref x18, .ref x19, .int 0, .int 0, .int 0, .int 0])), (x20, .inr (14, [.ref x1, .ref x8, .ref x21, .ref x28, .ref x35, .int 0, .ref x36, .ref x37, .ref x38, .int 0, .int 0, .int 0, .int 0, .int 0, .int 0, .int 0, .int 0])), (x45, .inr (5, [.ref x46, .ref x47, .int 0, .int 0]))] H := hP
        have hD : va_D A [(x0, .inr (15, [.ref x1, .ref x8, .ref x20, .ref x39, .ref x41, .ref x43, .ref x45])), (x1, .inr (11, [.ref x2, .int 0, .ref x3, .int 0, .ref x4, .ref x5, .int 1, .ref x6, .ref x7, .int 0])), (x4, .inl (ty 0, 7, .inl (fun _ => 0))), (x5, .inl (ty 0, 7, .inl (fun _ => 0))), (x8, .inr (8, [.ref x1, .ref x9, .ref x10, .ref x12, .ref x14, .int 0, .ref x15, .ref x16, .ref x17, .int 0, .ref x18, .ref x19, .int 0, .int 0, .int 0, .int 0])), (x20, .inr (14, [.ref x1, .ref x8, .ref x21, .ref x28, .ref x35, .int 0, .ref x36, .ref x37, .ref x38, .int 0, .int 0, .int 0, .int 0, .int 0, .int 0, .int 0, .int 0])), (x45, .inr (5, [.ref x46, .ref x47, .int 0, .int 0]))] := hD
        refine W.widen (k := 0) (n := 0) (Nat.le_of_ble_eq_true rfl) (Nat.le_of_ble_eq_true rfl) ?_
        refine lv_if_ne (tgt := 27) hx hb dX10_ground_14 (by decide) (fun _ => ?_) (fun c0 => absurd c0 (by decide))
        refine lv_aload_n hx hb dX10_ground_27 rfl (lv_at hl 0 rfl) ?_
        refine va_get (D := D) (ci := 15) (v := .ref x1) (C := RX10) (T := TX10) (N := 7) hx hb hts iv_k_X10_ground_X10 hown hK hP 0 rfl rfl 0 (by decide) (hts (.fieldLink RX10 12 "AnswerFold" "program" "LAnswerFold$Program;") (by decide +kernel)) (fun _ h9 => h9) rfl dX10_ground_28 ?_
        refine wq_i (wc := [(x1, .inr (11, [.ref x2, .int 0, .ref x3, .int 0, .ref x4, .ref x5, .int 1, .ref x6, .ref x7, .int 0]))]) (wr := [(x0, .inr (15, [.ref x1, .ref x8, .ref x20, .ref x39, .ref x41, .ref x43, .ref x45])), (x4, .inl (ty 0, 7, .inl (fun _ => 0))), (x5, .inl (ty 0, 7, .inl (fun _ => 0))), (x8, .inr (8, [.ref x1, .ref x9, .ref x10, .ref x12, .ref x14, .int 0, .ref x15, .ref x16, .ref x17, .int 0, .ref x18, .ref x19, .int 0, .int 0, .int 0, .int 0])), (x20, .inr (14, [.ref x1, .ref x8, .ref x21, .ref x28, .ref x35, .int 0, .ref x36, .ref x37, .ref x38, .int 0, .int 0, .int 0, .int 0, .int 0, .int 0, .int 0, .int 0])), (x45, .inr (5, [.ref x46, .ref x47, .int 0, .int 0]))]) (va_runV (As := []) (rest := []) ⟨hx, hb, hml, hown, hts⟩ (k_X6_groundedByCalls l D ty td mi H.size x1 x2 x3 x4 x5 x6 x7) (cwV 0 hts gv_k_X10_ground_1 rfl rfl rfl (by decide +kernel) ⟨(Nat.le_of_ble_eq_true rfl), (Nat.le_of_ble_eq_true rfl)⟩) (wq_preV hP hD hK hE hS hA [1] rfl (by decide) 1 11 rfl rfl) rfl rfl hl.1 rfl (lv_room (Nat.le_of_ble_eq_true rfl)) dX10_ground_31 ⟨(Nat.le_of_ble_eq_true rfl), (Nat.le_of_ble_eq_true rfl)⟩) hS hA hP hD [1] [0, 2, 3, 4, 5, 6] rfl rfl (by decide) (by decide) (fun r u H locs hw hP hD hS => ?_)
        obtain ⟨rfl, rfl⟩ := hw
        have hP : va_P D vwCl [(x0, .inr (15, [.ref x1, .ref x8, .ref x20, .ref x39, .ref x41, .ref x43, .ref x45])), (x4, .inl (ty 0, 7, .inl (fun _ => 0))), (x5, .inl (ty 0, 7, .inl (fun _ => 0))), (x8, .inr (8, [.ref x1, .ref x9, .ref x10, .ref x12, .ref x14, .int 0, .ref x15, .ref x16, .ref x17, .int 0, .ref x18, .ref x19, .int 0, .int 0, .int 0, .int 0])), (x20, .inr (14, [.ref x1, .ref x8, .ref x21, .ref x28, .ref x35, .int 0, .ref x36, .ref x37, .ref x38, .int 0, .int 0, .int 0, .int 0, .int 0, .int 0, .int 0, .int 0])), (x45, .inr (5, [.ref x46, .ref x47, .int 0, .int 0])), (x1, .inr (11, [.ref x2, .int 0, .ref x3, .int 0, .ref x4, .ref x5, .int 1, .ref x6, .ref x7, .int 0]))] H := hP
        have hD : va_D A [(x0, .inr (15, [.ref x1, .ref x8, .ref x20, .ref x39, .ref x41, .ref x43, .ref x45])), (x4, .inl (ty 0, 7, .inl (fun _ => 0))), (x5, .inl (ty 0, 7, .inl (fun _ => 0))), (x8, .inr (8, [.ref x1, .ref x9, .ref x10, .ref x12, .ref x14, .int 0, .ref x15, .ref x16, .ref x17, .int 0, .ref x18, .ref x19, .int 0, .int 0, .int 0, .int 0])), (x20, .inr (14, [.ref x1, .ref x8, .ref x21, .ref x28, .ref x35, .int 0, .ref x36, .ref x37, .ref x38, .int 0, .int 0, .int 0, .int 0, .int 0, .int 0, .int 0, .int 0])), (x45, .inr (5, [.ref x46, .ref x47, .int 0, .int 0])), (x1, .inr (11, [.ref x2, .int 0, .ref x3, .int 0, .ref x4, .ref x5, .int 1, .ref x6, .ref x7, .int 0]))] := hD
        refine W.widen (k := 0) (n := 0) (Nat.le_of_ble_eq_true rfl) (Nat.le_of_ble_eq_true rfl) ?_
        refine lv_bipush (v := 6) hx hb dX10_ground_34 (by decide) ?_
        refine lv_icmp_ge (tgt := 51) hx hb dX10_ground_36 (by decide) (fun c0 => absurd c0 (by decide)) (fun _ => ?_)
        refine lv_aload_n hx hb dX10_ground_39 rfl (lv_at hl 0 rfl) ?_
        refine va_get (D := D) (ci := 15) (v := .ref x1) (C := RX10) (T := TX10) (N := 7) hx hb hts iv_k_X10_ground_X10 hown hK hP 0 rfl rfl 0 (by decide) (hts (.fieldLink RX10 12 "AnswerFold" "program" "LAnswerFold$Program;") (by decide +kernel)) (fun _ h9 => h9) rfl dX10_ground_40 ?_
        refine lv_iload_n hx hb dX10_ground_43 rfl (lv_at hl 1 rfl) ?_
        refine lv_iload_n hx hb dX10_ground_44 rfl (lv_at hl 2 rfl) ?_
        refine wq_i (wc := [(x1, .inr (11, [.ref x2, .int 0, .ref x3, .int 0, .ref x4, .ref x5, .int 1, .ref x6, .ref x7, .int 0])), (x4, .inl (ty 0, 7, .inl (fun _ => 0))), (x5, .inl (ty 0, 7, .inl (fun _ => 0)))]) (wr := [(x0, .inr (15, [.ref x1, .ref x8, .ref x20, .ref x39, .ref x41, .ref x43, .ref x45])), (x8, .inr (8, [.ref x1, .ref x9, .ref x10, .ref x12, .ref x14, .int 0, .ref x15, .ref x16, .ref x17, .int 0, .ref x18, .ref x19, .int 0, .int 0, .int 0, .int 0])), (x20, .inr (14, [.ref x1, .ref x8, .ref x21, .ref x28, .ref x35, .int 0, .ref x36, .ref x37, .ref x38, .int 0, .int 0, .int 0, .int 0, .int 0, .int 0, .int 0, .int 0])), (x45, .inr (5, [.ref x46, .ref x47, .int 0, .int 0]))]) (va_runV (As := [.int k1, .int k2]) (rest := []) ⟨hx, hb, hml, hown, hts⟩ (k_X6_isGrounded l D ty td mi H.size x1 x2 x3 x4 x5 x6 x7 k1 k2) (cwV 2 hts gv_k_X10_ground_2 rfl rfl rfl (by decide +kernel) ⟨(Nat.le_of_ble_eq_true rfl), (Nat.le_of_ble_eq_true rfl)⟩) (wq_preV hP hD hK hE hS hA [6, 1, 2] rfl (by decide) 6 11 rfl rfl) rfl rfl hl.1 rfl (lv_room (Nat.le_of_ble_eq_true rfl)) dX10_ground_45 ⟨(Nat.le_of_ble_eq_true rfl), (Nat.le_of_ble_eq_true rfl)⟩) hS hA hP hD [6, 1, 2] [0, 3, 4, 5] rfl rfl (by decide) (by decide) (fun r u H locs hw hP hD hS => ?_)
        rcases hw with ⟨rfl, c_8, c_9, rfl⟩ | ⟨rfl, c_10, c_11, rfl⟩ | ⟨rfl, c_12, c_13, rfl⟩ | ⟨rfl, c_14, c_15, rfl⟩
        · have hP : va_P D vwCl [(x0, .inr (15, [.ref x1, .ref x8, .ref x20, .ref x39, .ref x41, .ref x43, .ref x45])), (x8, .inr (8, [.ref x1, .ref x9, .ref x10, .ref x12, .ref x14, .int 0, .ref x15, .ref x16, .ref x17, .int 0, .ref x18, .ref x19, .int 0, .int 0, .int 0, .int 0])), (x20, .inr (14, [.ref x1, .ref x8, .ref x21, .ref x28, .ref x35, .int 0, .ref x36, .ref x37, .ref x38, .int 0, .int 0, .int 0, .int 0, .int 0, .int 0, .int 0, .int 0])), (x45, .inr (5, [.ref x46, .ref x47, .int 0, .int 0])), (x1, .inr (11, [.ref x2, .int 0, .ref x3, .int 0, .ref x4, .ref x5, .int 1, .ref x6, .ref x7, .int 0])), (x4, .inl (ty 0, 7, .inl (fun _ => 0))), (x5, .inl (ty 0, 7, .inl (fun _ => 0)))] H := hP
          have hD : va_D A [(x0, .inr (15, [.ref x1, .ref x8, .ref x20, .ref x39, .ref x41, .ref x43, .ref x45])), (x8, .inr (8, [.ref x1, .ref x9, .ref x10, .ref x12, .ref x14, .int 0, .ref x15, .ref x16, .ref x17, .int 0, .ref x18, .ref x19, .int 0, .int 0, .int 0, .int 0])), (x20, .inr (14, [.ref x1, .ref x8, .ref x21, .ref x28, .ref x35, .int 0, .ref x36, .ref x37, .ref x38, .int 0, .int 0, .int 0, .int 0, .int 0, .int 0, .int 0, .int 0])), (x45, .inr (5, [.ref x46, .ref x47, .int 0, .int 0])), (x1, .inr (11, [.ref x2, .int 0, .ref x3, .int 0, .ref x4, .ref x5, .int 1, .ref x6, .ref x7, .int 0])), (x4, .inl (ty 0, 7, .inl (fun _ => 0))), (x5, .inl (ty 0, 7, .inl (fun _ => 0)))] := hD
          refine W.widen (k := 0) (n := 0) (Nat.le_of_ble_eq_true rfl) (Nat.le_of_ble_eq_true rfl) ?_
          refine lv_if_eq (tgt := 61) hx hb dX10_ground_48 (by decide) (fun _ => ?_) (fun c0 => absurd (by decide) c0)
          refine lv_aload_n hx hb dX10_ground_61 rfl (lv_at hl 0 rfl) ?_
          refine wq_v (wc := [(x0, .inr (15, [.ref x1, .ref x8, .ref x20, .ref x39, .ref x41, .ref x43, .ref x45])), (x8, .inr (8, [.ref x1, .ref x9, .ref x10, .ref x12, .ref x14, .int 0, .ref x15, .ref x16, .ref x17, .int 0, .ref x18, .ref x19, .int 0, .int 0, .int 0, .int 0])), (x20, .inr (14, [.ref x1, .ref x8, .ref x21, .ref x28, .ref x35, .int 0, .ref x36, .ref x37, .ref x38, .int 0, .int 0, .int 0, .int 0, .int 0, .int 0, .int 0, .int 0])), (x45, .inr (5, [.ref x46, .ref x47, .int 0, .int 0]))]) (wr := [(x1, .inr (11, [.ref x2, .int 0, .ref x3, .int 0, .ref x4, .ref x5, .int 1, .ref x6, .ref x7, .int 0])), (x4, .inl (ty 0, 7, .inl (fun _ => 0))), (x5, .inl (ty 0, 7, .inl (fun _ => 0)))]) (va_runV (As := []) (rest := []) ⟨hx, hb, hml, hown, hts⟩ (k_X10_forgetGrounding l D ty td mi H.size x0 x1 x8 x20 x39 x41 x43 x45 x9 x10 x12 x14 x15 x16 x17 x18 x19 x21 x28 x35 x36 x37 x38 x46 x47) (cwV 0 hts gv_k_X10_ground_3 rfl rfl rfl (by decide +kernel) ⟨(Nat.le_of_ble_eq_true rfl), (Nat.le_of_ble_eq_true rfl)⟩) (wq_preV hP hD hK hE hS hA [0, 1, 2, 3] rfl (by decide) 0 15 rfl rfl) rfl rfl hl.1 rfl (lv_room (Nat.le_of_ble_eq_true rfl)) dX10_ground_62 ⟨(Nat.le_of_ble_eq_true rfl), (Nat.le_of_ble_eq_true rfl)⟩) hS hA hP hD [0, 1, 2, 3] [4, 5, 6] rfl rfl (by decide) (by decide) (fun u H locs hw hP hD hS => ?_)
          obtain rfl := hw
          have hP : va_P D vwCl [(x1, .inr (11, [.ref x2, .int 0, .ref x3, .int 0, .ref x4, .ref x5, .int 1, .ref x6, .ref x7, .int 0])), (x4, .inl (ty 0, 7, .inl (fun _ => 0))), (x5, .inl (ty 0, 7, .inl (fun _ => 0))), (x0, .inr (15, [.ref x1, .ref x8, .ref x20, .ref x39, .ref x41, .ref x43, .ref x45])), (x8, .inr (8, [.ref x1, .ref x9, .ref x10, .ref x12, .ref x14, .int 0, .ref x15, .ref x16, .ref x17, .int 0, .ref x18, .ref x19, .int 0, .int 0, .int 0, .int 0])), (x20, .inr (14, [.ref x1, .ref x8, .ref x21, .ref x28, .ref x35, .int 0, .ref x36, .ref x37, .ref x38, .int 0, .int 0, .int 0, .int 0, .int 0, .int 0, .int 0, .int 0])), (x45, .inr (5, [.ref x46, .ref x47, .int 0, .int 0]))] H := hP
          have hD : va_D A [(x1, .inr (11, [.ref x2, .int 0, .ref x3, .int 0, .ref x4, .ref x5, .int 1, .ref x6, .ref x7, .int 0])), (x4, .inl (ty 0, 7, .inl (fun _ => 0))), (x5, .inl (ty 0, 7, .inl (fun _ => 0))), (x0, .inr (15, [.ref x1, .ref x8, .ref x20, .ref x39, .ref x41, .ref x43, .ref x45])), (x8, .inr (8, [.ref x1, .ref x9, .ref x10, .ref x12, .ref x14, .int 0, .ref x15, .ref x16, .ref x17, .int 0, .ref x18, .ref x19, .int 0, .int 0, .int 0, .int 0])), (x20, .inr (14, [.ref x1, .ref x8, .ref x21, .ref x28, .ref x35, .int 0, .ref x36, .ref x37, .ref x38, .int 0, .int 0, .int 0, .int 0, .int 0, .int 0, .int 0, .int 0])), (x45, .inr (5, [.ref x46, .ref x47, .int 0, .int 0]))] := hD
          refine W.widen (k := 0) (n := 0) (Nat.le_of_ble_eq_true rfl) (Nat.le_of_ble_eq_true rfl) ?_
          refine lv_aload_n hx hb dX10_ground_65 rfl (lv_at hl 0 rfl) ?_
          refine va_get (D := D) (ci := 15) (v := .ref x1) (C := RX10) (T := TX10) (N := 7) hx hb hts iv_k_X10_ground_X10 hown hK hP 3 rfl rfl 0 (by decide) (hts (.fieldLink RX10 12 "AnswerFold" "program" "LAnswerFold$Program;") (by decide +kernel)) (fun _ h9 => h9) rfl dX10_ground_66 ?_
          refine lv_iload_n hx hb dX10_ground_69 rfl (lv_at hl 1 rfl) ?_
          refine lv_iload_n hx hb dX10_ground_70 rfl (lv_at hl 2 rfl) ?_
          refine wq_v (wc := [(x1, .inr (11, [.ref x2, .int 0, .ref x3, .int 0, .ref x4, .ref x5, .int 1, .ref x6, .ref x7, .int 0])), (x4, .inl (ty 0, 7, .inl (fun _ => 0))), (x5, .inl (ty 0, 7, .inl (fun _ => 0)))]) (wr := [(x0, .inr (15, [.ref x1, .ref x8, .ref x20, .ref x39, .ref x41, .ref x43, .ref x45])), (x8, .inr (8, [.ref x1, .ref x9, .ref x10, .ref x12, .ref x14, .int 0, .ref x15, .ref x16, .ref x17, .int 0, .ref x18, .ref x19, .int 0, .int 0, .int 0, .int 0])), (x20, .inr (14, [.ref x1, .ref x8, .ref x21, .ref x28, .ref x35, .int 0, .ref x36, .ref x37, .ref x38, .int 0, .int 0, .int 0, .int 0, .int 0, .int 0, .int 0, .int 0])), (x45, .inr (5, [.ref x46, .ref x47, .int 0, .int 0]))]) (va_runV (As := [.int k1, .int k2]) (rest := []) ⟨hx, hb, hml, hown, hts⟩ (k_X6_tellTime l D ty td mi H.size x1 x2 x3 x4 x5 x6 x7 k1 k2) (cwV 2 hts gv_k_X10_ground_4 rfl rfl rfl (by decide +kernel) ⟨(Nat.le_of_ble_eq_true rfl), (Nat.le_of_ble_eq_true rfl)⟩) (wq_preV hP hD hK hE hS hA [0, 1, 2] rfl (by decide) 0 11 rfl rfl) rfl rfl hl.1 rfl (lv_room (Nat.le_of_ble_eq_true rfl)) dX10_ground_71 ⟨(Nat.le_of_ble_eq_true rfl), (Nat.le_of_ble_eq_true rfl)⟩) hS hA hP hD [0, 1, 2] [3, 4, 5, 6] rfl rfl (by decide) (by decide) (fun u H locs hw hP hD hS => ?_)
          obtain rfl := hw
          have hP : va_P D vwCl [(x0, .inr (15, [.ref x1, .ref x8, .ref x20, .ref x39, .ref x41, .ref x43, .ref x45])), (x8, .inr (8, [.ref x1, .ref x9, .ref x10, .ref x12, .ref x14, .int 0, .ref x15, .ref x16, .ref x17, .int 0, .ref x18, .ref x19, .int 0, .int 0, .int 0, .int 0])), (x20, .inr (14, [.ref x1, .ref x8, .ref x21, .ref x28, .ref x35, .int 0, .ref x36, .ref x37, .ref x38, .int 0, .int 0, .int 0, .int 0, .int 0, .int 0, .int 0, .int 0])), (x45, .inr (5, [.ref x46, .ref x47, .int 0, .int 0])), (x1, .inr (11, [.ref x2, .int 0, .ref x3, .int 0, .ref x4, .ref x5, .int 2, .ref x6, .ref x7, .int 0]))] H := hP
          have hD : va_D A [(x0, .inr (15, [.ref x1, .ref x8, .ref x20, .ref x39, .ref x41, .ref x43, .ref x45])), (x8, .inr (8, [.ref x1, .ref x9, .ref x10, .ref x12, .ref x14, .int 0, .ref x15, .ref x16, .ref x17, .int 0, .ref x18, .ref x19, .int 0, .int 0, .int 0, .int 0])), (x20, .inr (14, [.ref x1, .ref x8, .ref x21, .ref x28, .ref x35, .int 0, .ref x36, .ref x37, .ref x38, .int 0, .int 0, .int 0, .int 0, .int 0, .int 0, .int 0, .int 0])), (x45, .inr (5, [.ref x46, .ref x47, .int 0, .int 0])), (x1, .inr (11, [.ref x2, .int 0, .ref x3, .int 0, .ref x4, .ref x5, .int 2, .ref x6, .ref x7, .int 0]))] := hD
          refine W.widen (k := 0) (n := 0) (Nat.le_of_ble_eq_true rfl) (Nat.le_of_ble_eq_true rfl) ?_
          refine lv_aload_n hx hb dX10_ground_74 rfl (lv_at hl 0 rfl) ?_
          refine va_get (D := D) (ci := 15) (v := .ref x1) (C := RX10) (T := TX10) (N := 7) hx hb hts iv_k_X10_ground_X10 hown hK hP 0 rfl rfl 0 (by decide) (hts (.fieldLink RX10 12 "AnswerFold" "program" "LAnswerFold$Program;") (by decide +kernel)) (fun _ h9 => h9) rfl dX10_ground_75 ?_
          refine wq_i (wc := [(x1, .inr (11, [.ref x2, .int 0, .ref x3, .int 0, .ref x4, .ref x5, .int 2, .ref x6, .ref x7, .int 0]))]) (wr := [(x0, .inr (15, [.ref x1, .ref x8, .ref x20, .ref x39, .ref x41, .ref x43, .ref x45])), (x8, .inr (8, [.ref x1, .ref x9, .ref x10, .ref x12, .ref x14, .int 0, .ref x15, .ref x16, .ref x17, .int 0, .ref x18, .ref x19, .int 0, .int 0, .int 0, .int 0])), (x20, .inr (14, [.ref x1, .ref x8, .ref x21, .ref x28, .ref x35, .int 0, .ref x36, .ref x37, .ref x38, .int 0, .int 0, .int 0, .int 0, .int 0, .int 0, .int 0, .int 0])), (x45, .inr (5, [.ref x46, .ref x47, .int 0, .int 0]))]) (va_runV (As := []) (rest := []) ⟨hx, hb, hml, hown, hts⟩ (k_X6_groundedByCalls_2 l D ty td mi H.size x1 x2 x3 x4 x5 x6 x7) (cwV 0 hts gv_k_X10_ground_5 rfl rfl rfl (by decide +kernel) ⟨(Nat.le_of_ble_eq_true rfl), (Nat.le_of_ble_eq_true rfl)⟩) (wq_preV hP hD hK hE hS hA [4] rfl (by decide) 4 11 rfl rfl) rfl rfl hl.1 rfl (lv_room (Nat.le_of_ble_eq_true rfl)) dX10_ground_78 ⟨(Nat.le_of_ble_eq_true rfl), (Nat.le_of_ble_eq_true rfl)⟩) hS hA hP hD [4] [0, 1, 2, 3] rfl rfl (by decide) (by decide) (fun r u H locs hw hP hD hS => ?_)
          obtain ⟨rfl, rfl⟩ := hw
          have hP : va_P D vwCl [(x0, .inr (15, [.ref x1, .ref x8, .ref x20, .ref x39, .ref x41, .ref x43, .ref x45])), (x8, .inr (8, [.ref x1, .ref x9, .ref x10, .ref x12, .ref x14, .int 0, .ref x15, .ref x16, .ref x17, .int 0, .ref x18, .ref x19, .int 0, .int 0, .int 0, .int 0])), (x20, .inr (14, [.ref x1, .ref x8, .ref x21, .ref x28, .ref x35, .int 0, .ref x36, .ref x37, .ref x38, .int 0, .int 0, .int 0, .int 0, .int 0, .int 0, .int 0, .int 0])), (x45, .inr (5, [.ref x46, .ref x47, .int 0, .int 0])), (x1, .inr (11, [.ref x2, .int 0, .ref x3, .int 0, .ref x4, .ref x5, .int 2, .ref x6, .ref x7, .int 0]))] H := hP
          have hD : va_D A [(x0, .inr (15, [.ref x1, .ref x8, .ref x20, .ref x39, .ref x41, .ref x43, .ref x45])), (x8, .inr (8, [.ref x1, .ref x9, .ref x10, .ref x12, .ref x14, .int 0, .ref x15, .ref x16, .ref x17, .int 0, .ref x18, .ref x19, .int 0, .int 0, .int 0, .int 0])), (x20, .inr (14, [.ref x1, .ref x8, .ref x21, .ref x28, .ref x35, .int 0, .ref x36, .ref x37, .ref x38, .int 0, .int 0, .int 0, .int 0, .int 0, .int 0, .int 0, .int 0])), (x45, .inr (5, [.ref x46, .ref x47, .int 0, .int 0])), (x1, .inr (11, [.ref x2, .int 0, .ref x3, .int 0, .ref x4, .ref x5, .int 2, .ref x6, .ref x7, .int 0]))] := hD
          refine W.widen (k := 0) (n := 0) (Nat.le_of_ble_eq_true rfl) (Nat.le_of_ble_eq_true rfl) ?_
          have hP9 := hP.sub (ws' := []) [] rfl
          have hD9 := hD.sub (ws' := []) [] (by decide) rfl
          refine W.widen (k := 1) (n := 6) (Nat.le_of_ble_eq_true rfl) (Nat.le_of_ble_eq_true rfl) ?_
          refine vx_ret ?_
          exact W.iret (v := 1) hx hb hr (fun t ht hW => ⟨⟨1, [], rfl, (Or.inl ⟨rfl, c_1, c_2, c_6, c_7, c_8, c_9, rfl⟩), wq_B.of ht hP9 hD9⟩, hS.F ht⟩) hS.2.2 dX10_ground_81
        · have hP : va_P D vwCl [(x0, .inr (15, [.ref x1, .ref x8, .ref x20, .ref x39, .ref x41, .ref x43, .ref x45])), (x8, .inr (8, [.ref x1, .ref x9, .ref x10, .ref x12, .ref x14, .int 0, .ref x15, .ref x16, .ref x17, .int 0, .ref x18, .ref x19, .int 0, .int 0, .int 0, .int 0])), (x20, .inr (14, [.ref x1, .ref x8, .ref x21, .ref x28, .ref x35, .int 0, .ref x36, .ref x37, .ref x38, .int 0, .int 0, .int 0, .int 0, .int 0, .int 0, .int 0, .int 0])), (x45, .inr (5, [.ref x46, .ref x47, .int 0, .int 0])), (x1, .inr (11, [.ref x2, .int 0, .ref x3, .int 0, .ref x4, .ref x5, .int 1, .ref x6, .ref x7, .int 0])), (x4, .inl (ty 0, 7, .inl (fun _ => 0))), (x5, .inl (ty 0, 7, .inl (fun _ => 0)))] H := hP
          have hD : va_D A [(x0, .inr (15, [.ref x1, .ref x8, .ref x20, .ref x39, .ref x41, .ref x43, .ref x45])), (x8, .inr (8, [.ref x1, .ref x9, .ref x10, .ref x12, .ref x14, .int 0, .ref x15, .ref x16, .ref x17, .int 0, .ref x18, .ref x19, .int 0, .int 0, .int 0, .int 0])), (x20, .inr (14, [.ref x1, .ref x8, .ref x21, .ref x28, .ref x35, .int 0, .ref x36, .ref x37, .ref x38, .int 0, .int 0, .int 0, .int 0, .int 0, .int 0, .int 0, .int 0])), (x45, .inr (5, [.ref x46, .ref x47, .int 0, .int 0])), (x1, .inr (11, [.ref x2, .int 0, .ref x3, .int 0, .ref x4, .ref x5, .int 1, .ref x6, .ref x7, .int 0])), (x4, .inl (ty 0, 7, .inl (fun _ => 0))), (x5, .inl (ty 0, 7, .inl (fun _ => 0)))] := hD
          refine W.widen (k := 0) (n := 0) (Nat.le_of_ble_eq_true rfl) (Nat.le_of_ble_eq_true rfl) ?_
          refine lv_if_eq (tgt := 61) hx hb dX10_ground_48 (by decide) (fun c0 => absurd c0 (by decide)) (fun _ => ?_)
          obtain ⟨sa, hsa⟩ := hE.st 200 "6 times, or this part with this parameter before" (by decide +kernel)
          exact vx_throwS (own := RX10) (cls := "java/lang/IllegalStateException") (text := "6 times, or this part with this parameter before") (names := ["java/lang/RuntimeException", "java/lang/Exception"]) (ik := 71) (is := 200) (ic := 75) (sa := sa) (A := A) hx hb hl9 hown (by decide +kernel) (by decide +kernel) (hts (.classLink RX10 71 "java/lang/IllegalStateException") (by decide +kernel)) (hts (.initialized "java/lang/IllegalStateException") (by decide +kernel)) hsa (wq_hat hE hts ix_k_X10_ground_75 (by decide +kernel) (by decide +kernel)) (by decide +kernel) hE.zu hE.zs hS (hl.1.trans hml.symm) dX10_ground_51 dX10_ground_54 dX10_ground_55 dX10_ground_57 dX10_ground_60 (fun x hx => (hEx x hx).elim) (Nat.le_of_ble_eq_true rfl) (Nat.le_of_ble_eq_true rfl) (Nat.le_of_ble_eq_true rfl) (Nat.le_of_ble_eq_true rfl) hlocks (fun t ha hz hk => wq_thr hS (by exact (Or.inr (Or.inr (Or.inr (Or.inr (Or.inl ⟨rfl, c_1, c_2, c_6, c_7, c_10, c_11⟩)))))) hz hk) hS.2.2 (Nat.le_of_ble_eq_true rfl) (Nat.le_of_ble_eq_true rfl)
        · have hP : va_P D vwCl [(x0, .inr (15, [.ref x1, .ref x8, .ref x20, .ref x39, .ref x41, .ref x43, .ref x45])), (x8, .inr (8, [.ref x1, .ref x9, .ref x10, .ref x12, .ref x14, .int 0, .ref x15, .ref x16, .ref x17, .int 0, .ref x18, .ref x19, .int 0, .int 0, .int 0, .int 0])), (x20, .inr (14, [.ref x1, .ref x8, .ref x21, .ref x28, .ref x35, .int 0, .ref x36, .ref x37, .ref x38, .int 0, .int 0, .int 0, .int 0, .int 0, .int 0, .int 0, .int 0])), (x45, .inr (5, [.ref x46, .ref x47, .int 0, .int 0])), (x1, .inr (11, [.ref x2, .int 0, .ref x3, .int 0, .ref x4, .ref x5, .int 1, .ref x6, .ref x7, .int 0])), (x4, .inl (ty 0, 7, .inl (fun _ => 0))), (x5, .inl (ty 0, 7, .inl (fun _ => 0)))] H := hP
          have hD : va_D A [(x0, .inr (15, [.ref x1, .ref x8, .ref x20, .ref x39, .ref x41, .ref x43, .ref x45])), (x8, .inr (8, [.ref x1, .ref x9, .ref x10, .ref x12, .ref x14, .int 0, .ref x15, .ref x16, .ref x17, .int 0, .ref x18, .ref x19, .int 0, .int 0, .int 0, .int 0])), (x20, .inr (14, [.ref x1, .ref x8, .ref x21, .ref x28, .ref x35, .int 0, .ref x36, .ref x37, .ref x38, .int 0, .int 0, .int 0, .int 0, .int 0, .int 0, .int 0, .int 0])), (x45, .inr (5, [.ref x46, .ref x47, .int 0, .int 0])), (x1, .inr (11, [.ref x2, .int 0, .ref x3, .int 0, .ref x4, .ref x5, .int 1, .ref x6, .ref x7, .int 0])), (x4, .inl (ty 0, 7, .inl (fun _ => 0))), (x5, .inl (ty 0, 7, .inl (fun _ => 0)))] := hD
          refine W.widen (k := 0) (n := 0) (Nat.le_of_ble_eq_true rfl) (Nat.le_of_ble_eq_true rfl) ?_
          refine lv_if_eq (tgt := 61) hx hb dX10_ground_48 (by decide) (fun _ => ?_) (fun c0 => absurd (by decide) c0)
          refine lv_aload_n hx hb dX10_ground_61 rfl (lv_at hl 0 rfl) ?_
          refine wq_v (wc := [(x0, .inr (15, [.ref x1, .ref x8, .ref x20, .ref x39, .ref x41, .ref x43, .ref x45])), (x8, .inr (8, [.ref x1, .ref x9, .ref x10, .ref x12, .ref x14, .int 0, .ref x15, .ref x16, .ref x17, .int 0, .ref x18, .ref x19, .int 0, .int 0, .int 0, .int 0])), (x20, .inr (14, [.ref x1, .ref x8, .ref x21, .ref x28, .ref x35, .int 0, .ref x36, .ref x37, .ref x38, .int 0, .int 0, .int 0, .int 0, .int 0, .int 0, .int 0, .int 0])), (x45, .inr (5, [.ref x46, .ref x47, .int 0, .int 0]))]) (wr := [(x1, .inr (11, [.ref x2, .int 0, .ref x3, .int 0, .ref x4, .ref x5, .int 1, .ref x6, .ref x7, .int 0])), (x4, .inl (ty 0, 7, .inl (fun _ => 0))), (x5, .inl (ty 0, 7, .inl (fun _ => 0)))]) (va_runV (As := []) (rest := []) ⟨hx, hb, hml, hown, hts⟩ (k_X10_forgetGrounding l D ty td mi H.size x0 x1 x8 x20 x39 x41 x43 x45 x9 x10 x12 x14 x15 x16 x17 x18 x19 x21 x28 x35 x36 x37 x38 x46 x47) (cwV 0 hts gv_k_X10_ground_6 rfl rfl rfl (by decide +kernel) ⟨(Nat.le_of_ble_eq_true rfl), (Nat.le_of_ble_eq_true rfl)⟩) (wq_preV hP hD hK hE hS hA [0, 1, 2, 3] rfl (by decide) 0 15 rfl rfl) rfl rfl hl.1 rfl (lv_room (Nat.le_of_ble_eq_true rfl)) dX10_ground_62 ⟨(Nat.le_of_ble_eq_true rfl), (Nat.le_of_ble_eq_true rfl)⟩) hS hA hP hD [0, 1, 2, 3] [4, 5, 6] rfl rfl (by decide) (by decide) (fun u H locs hw hP hD hS => ?_)
          obtain rfl := hw
          have hP : va_P D vwCl [(x1, .inr (11, [.ref x2, .int 0, .ref x3, .int 0, .ref x4, .ref x5, .int 1, .ref x6, .ref x7, .int 0])), (x4, .inl (ty 0, 7, .inl (fun _ => 0))), (x5, .inl (ty 0, 7, .inl (fun _ => 0))), (x0, .inr (15, [.ref x1, .ref x8, .ref x20, .ref x39, .ref x41, .ref x43, .ref x45])), (x8, .inr (8, [.ref x1, .ref x9, .ref x10, .ref x12, .ref x14, .int 0, .ref x15, .ref x16, .ref x17, .int 0, .ref x18, .ref x19, .int 0, .int 0, .int 0, .int 0])), (x20, .inr (14, [.ref x1, .ref x8, .ref x21, .ref x28, .ref x35, .int 0, .ref x36, .ref x37, .ref x38, .int 0, .int 0, .int 0, .int 0, .int 0, .int 0, .int 0, .int 0])), (x45, .inr (5, [.ref x46, .ref x47, .int 0, .int 0]))] H := hP
          have hD : va_D A [(x1, .inr (11, [.ref x2, .int 0, .ref x3, .int 0, .ref x4, .ref x5, .int 1, .ref x6, .ref x7, .int 0])), (x4, .inl (ty 0, 7, .inl (fun _ => 0))), (x5, .inl (ty 0, 7, .inl (fun _ => 0))), (x0, .inr (15, [.ref x1, .ref x8, .ref x20, .ref x39, .ref x41, .ref x43, .ref x45])), (x8, .inr (8, [.ref x1, .ref x9, .ref x10, .ref x12, .ref x14, .int 0, .ref x15, .ref x16, .ref x17, .int 0, .ref x18, .ref x19, .int 0, .int 0, .int 0, .int 0])), (x20, .inr (14, [.ref x1, .ref x8, .ref x21, .ref x28, .ref x35, .int 0, .ref x36, .ref x37, .ref x38, .int 0, .int 0, .int 0, .int 0, .int 0, .int 0, .int 0, .int 0])), (x45, .inr (5, [.ref x46, .ref x47, .int 0, .int 0]))] := hD
          refine W.widen (k := 0) (n := 0) (Nat.le_of_ble_eq_true rfl) (Nat.le_of_ble_eq_true rfl) ?_
          refine lv_aload_n hx hb dX10_ground_65 rfl (lv_at hl 0 rfl) ?_
          refine va_get (D := D) (ci := 15) (v := .ref x1) (C := RX10) (T := TX10) (N := 7) hx hb hts iv_k_X10_ground_X10 hown hK hP 3 rfl rfl 0 (by decide) (hts (.fieldLink RX10 12 "AnswerFold" "program" "LAnswerFold$Program;") (by decide +kernel)) (fun _ h9 => h9) rfl dX10_ground_66 ?_
          refine lv_iload_n hx hb dX10_ground_69 rfl (lv_at hl 1 rfl) ?_
          refine lv_iload_n hx hb dX10_ground_70 rfl (lv_at hl 2 rfl) ?_
          refine wq_v (wc := [(x1, .inr (11, [.ref x2, .int 0, .ref x3, .int 0, .ref x4, .ref x5, .int 1, .ref x6, .ref x7, .int 0])), (x4, .inl (ty 0, 7, .inl (fun _ => 0))), (x5, .inl (ty 0, 7, .inl (fun _ => 0)))]) (wr := [(x0, .inr (15, [.ref x1, .ref x8, .ref x20, .ref x39, .ref x41, .ref x43, .ref x45])), (x8, .inr (8, [.ref x1, .ref x9, .ref x10, .ref x12, .ref x14, .int 0, .ref x15, .ref x16, .ref x17, .int 0, .ref x18, .ref x19, .int 0, .int 0, .int 0, .int 0])), (x20, .inr (14, [.ref x1, .ref x8, .ref x21, .ref x28, .ref x35, .int 0, .ref x36, .ref x37, .ref x38, .int 0, .int 0, .int 0, .int 0, .int 0, .int 0, .int 0, .int 0])), (x45, .inr (5, [.ref x46, .ref x47, .int 0, .int 0]))]) (va_runV (As := [.int k1, .int k2]) (rest := []) ⟨hx, hb, hml, hown, hts⟩ (k_X6_tellTime l D ty td mi H.size x1 x2 x3 x4 x5 x6 x7 k1 k2) (cwV 2 hts gv_k_X10_ground_7 rfl rfl rfl (by decide +kernel) ⟨(Nat.le_of_ble_eq_true rfl), (Nat.le_of_ble_eq_true rfl)⟩) (wq_preV hP hD hK hE hS hA [0, 1, 2] rfl (by decide) 0 11 rfl rfl) rfl rfl hl.1 rfl (lv_room (Nat.le_of_ble_eq_true rfl)) dX10_ground_71 ⟨(Nat.le_of_ble_eq_true rfl), (Nat.le_of_ble_eq_true rfl)⟩) hS hA hP hD [0, 1, 2] [3, 4, 5, 6] rfl rfl (by decide) (by decide) (fun u H locs hw hP hD hS => ?_)
          obtain rfl := hw
          have hP : va_P D vwCl [(x0, .inr (15, [.ref x1, .ref x8, .ref x20, .ref x39, .ref x41, .ref x43, .ref x45])), (x8, .inr (8, [.ref x1, .ref x9, .ref x10, .ref x12, .ref x14, .int 0, .ref x15, .ref x16, .ref x17, .int 0, .ref x18, .ref x19, .int 0, .int 0, .int 0, .int 0])), (x20, .inr (14, [.ref x1, .ref x8, .ref x21, .ref x28, .ref x35, .int 0, .ref x36, .ref x37, .ref x38, .int 0, .int 0, .int 0, .int 0, .int 0, .int 0, .int 0, .int 0])), (x45, .inr (5, [.ref x46, .ref x47, .int 0, .int 0])), (x1, .inr (11, [.ref x2, .int 0, .ref x3, .int 0, .ref x4, .ref x5, .int 2, .ref x6, .ref x7, .int 0]))] H := hP
          have hD : va_D A [(x0, .inr (15, [.ref x1, .ref x8, .ref x20, .ref x39, .ref x41, .ref x43, .ref x45])), (x8, .inr (8, [.ref x1, .ref x9, .ref x10, .ref x12, .ref x14, .int 0, .ref x15, .ref x16, .ref x17, .int 0, .ref x18, .ref x19, .int 0, .int 0, .int 0, .int 0])), (x20, .inr (14, [.ref x1, .ref x8, .ref x21, .ref x28, .ref x35, .int 0, .ref x36, .ref x37, .ref x38, .int 0, .int 0, .int 0, .int 0, .int 0, .int 0, .int 0, .int 0])), (x45, .inr (5, [.ref x46, .ref x47, .int 0, .int 0])), (x1, .inr (11, [.ref x2, .int 0, .ref x3, .int 0, .ref x4, .ref x5, .int 2, .ref x6, .ref x7, .int 0]))] := hD
          refine W.widen (k := 0) (n := 0) (Nat.le_of_ble_eq_true rfl) (Nat.le_of_ble_eq_true rfl) ?_
          refine lv_aload_n hx hb dX10_ground_74 rfl (lv_at hl 0 rfl) ?_
          refine va_get (D := D) (ci := 15) (v := .ref x1) (C := RX10) (T := TX10) (N := 7) hx hb hts iv_k_X10_ground_X10 hown hK hP 0 rfl rfl 0 (by decide) (hts (.fieldLink RX10 12 "AnswerFold" "program" "LAnswerFold$Program;") (by decide +kernel)) (fun _ h9 => h9) rfl dX10_ground_75 ?_
          refine wq_i (wc := [(x1, .inr (11, [.ref x2, .int 0, .ref x3, .int 0, .ref x4, .ref x5, .int 2, .ref x6, .ref x7, .int 0]))]) (wr := [(x0, .inr (15, [.ref x1, .ref x8, .ref x20, .ref x39, .ref x41, .ref x43, .ref x45])), (x8, .inr (8, [.ref x1, .ref x9, .ref x10, .ref x12, .ref x14, .int 0, .ref x15, .ref x16, .ref x17, .int 0, .ref x18, .ref x19, .int 0, .int 0, .int 0, .int 0])), (x20, .inr (14, [.ref x1, .ref x8, .ref x21, .ref x28, .ref x35, .int 0, .ref x36, .ref x37, .ref x38, .int 0, .int 0, .int 0, .int 0, .int 0, .int 0, .int 0, .int 0])), (x45, .inr (5, [.ref x46, .ref x47, .int 0, .int 0]))]) (va_runV (As := []) (rest := []) ⟨hx, hb, hml, hown, hts⟩ (k_X6_groundedByCalls_2 l D ty td mi H.size x1 x2 x3 x4 x5 x6 x7) (cwV 0 hts gv_k_X10_ground_8 rfl rfl rfl (by decide +kernel) ⟨(Nat.le_of_ble_eq_true rfl), (Nat.le_of_ble_eq_true rfl)⟩) (wq_preV hP hD hK hE hS hA [4] rfl (by decide) 4 11 rfl rfl) rfl rfl hl.1 rfl (lv_room (Nat.le_of_ble_eq_true rfl)) dX10_ground_78 ⟨(Nat.le_of_ble_eq_true rfl), (Nat.le_of_ble_eq_true rfl)⟩) hS hA hP hD [4] [0, 1, 2, 3] rfl rfl (by decide) (by decide) (fun r u H locs hw hP hD hS => ?_)
          obtain ⟨rfl, rfl⟩ := hw
          have hP : va_P D vwCl [(x0, .inr (15, [.ref x1, .ref x8, .ref x20, .ref x39, .ref x41, .ref x43, .ref x45])), (x8, .inr (8, [.ref x1, .ref x9, .ref x10, .ref x12, .ref x14, .int 0, .ref x15, .ref x16, .ref x17, .int 0, .ref x18, .ref x19, .int 0, .int 0, .int 0, .int 0])), (x20, .inr (14, [.ref x1, .ref x8, .ref x21, .ref x28, .ref x35, .int 0, .ref x36, .ref x37, .ref x38, .int 0, .int 0, .int 0, .int 0, .int 0, .int 0, .int 0, .int 0])), (x45, .inr (5, [.ref x46, .ref x47, .int 0, .int 0])), (x1, .inr (11, [.ref x2, .int 0, .ref x3, .int 0, .ref x4, .ref x5, .int 2, .ref x6, .ref x7, .int 0]))] H := hP
          have hD : va_D A [(x0, .inr (15, [.ref x1, .ref x8, .ref x20, .ref x39, .ref x41, .ref x43, .ref x45])), (x8, .inr (8, [.ref x1, .ref x9, .ref x10, .ref x12, .ref x14, .int 0, .ref x15, .ref x16, .ref x17, .int 0, .ref x18, .ref x19, .int 0, .int 0, .int 0, .int 0])), (x20, .inr (14, [.ref x1, .ref x8, .ref x21, .ref x28, .ref x35, .int 0, .ref x36, .ref x37, .ref x38, .int 0, .int 0, .int 0, .int 0, .int 0, .int 0, .int 0, .int 0])), (x45, .inr (5, [.ref x46, .ref x47, .int 0, .int 0])), (x1, .inr (11, [.ref x2, .int 0, .ref x3, .int 0, .ref x4, .ref x5, .int 2, .ref x6, .ref x7, .int 0]))] := hD
          refine W.widen (k := 0) (n := 0) (Nat.le_of_ble_eq_true rfl) (Nat.le_of_ble_eq_true rfl) ?_
          have hP9 := hP.sub (ws' := []) [] rfl
          have hD9 := hD.sub (ws' := []) [] (by decide) rfl
          refine W.widen (k := 1) (n := 6) (Nat.le_of_ble_eq_true rfl) (Nat.le_of_ble_eq_true rfl) ?_
          refine vx_ret ?_
          exact W.iret (v := 1) hx hb hr (fun t ht hW => ⟨⟨1, [], rfl, (Or.inr ⟨rfl, c_1, c_2, c_6, c_7, c_12, c_13, rfl⟩), wq_B.of ht hP9 hD9⟩, hS.F ht⟩) hS.2.2 dX10_ground_81
        · have hP : va_P D vwCl [(x0, .inr (15, [.ref x1, .ref x8, .ref x20, .ref x39, .ref x41, .ref x43, .ref x45])), (x8, .inr (8, [.ref x1, .ref x9, .ref x10, .ref x12, .ref x14, .int 0, .ref x15, .ref x16, .ref x17, .int 0, .ref x18, .ref x19, .int 0, .int 0, .int 0, .int 0])), (x20, .inr (14, [.ref x1, .ref x8, .ref x21, .ref x28, .ref x35, .int 0, .ref x36, .ref x37, .ref x38, .int 0, .int 0, .int 0, .int 0, .int 0, .int 0, .int 0, .int 0])), (x45, .inr (5, [.ref x46, .ref x47, .int 0, .int 0])), (x1, .inr (11, [.ref x2, .int 0, .ref x3, .int 0, .ref x4, .ref x5, .int 1, .ref x6, .ref x7, .int 0])), (x4, .inl (ty 0, 7, .inl (fun _ => 0))), (x5, .inl (ty 0, 7, .inl (fun _ => 0)))] H := hP
          have hD : va_D A [(x0, .inr (15, [.ref x1, .ref x8, .ref x20, .ref x39, .ref x41, .ref x43, .ref x45])), (x8, .inr (8, [.ref x1, .ref x9, .ref x10, .ref x12, .ref x14, .int 0, .ref x15, .ref x16, .ref x17, .int 0, .ref x18, .ref x19, .int 0, .int 0, .int 0, .int 0])), (x20, .inr (14, [.ref x1, .ref x8, .ref x21, .ref x28, .ref x35, .int 0, .ref x36, .ref x37, .ref x38, .int 0, .int 0, .int 0, .int 0, .int 0, .int 0, .int 0, .int 0])), (x45, .inr (5, [.ref x46, .ref x47, .int 0, .int 0])), (x1, .inr (11, [.ref x2, .int 0, .ref x3, .int 0, .ref x4, .ref x5, .int 1, .ref x6, .ref x7, .int 0])), (x4, .inl (ty 0, 7, .inl (fun _ => 0))), (x5, .inl (ty 0, 7, .inl (fun _ => 0)))] := hD
          refine W.widen (k := 0) (n := 0) (Nat.le_of_ble_eq_true rfl) (Nat.le_of_ble_eq_true rfl) ?_
          refine lv_if_eq (tgt := 61) hx hb dX10_ground_48 (by decide) (fun c0 => absurd c0 (by decide)) (fun _ => ?_)
          obtain ⟨sa, hsa⟩ := hE.st 200 "6 times, or this part with this parameter before" (by decide +kernel)
          exact vx_throwS (own := RX10) (cls := "java/lang/IllegalStateException") (text := "6 times, or this part with this parameter before") (names := ["java/lang/RuntimeException", "java/lang/Exception"]) (ik := 71) (is := 200) (ic := 75) (sa := sa) (A := A) hx hb hl9 hown (by decide +kernel) (by decide +kernel) (hts (.classLink RX10 71 "java/lang/IllegalStateException") (by decide +kernel)) (hts (.initialized "java/lang/IllegalStateException") (by decide +kernel)) hsa (wq_hat hE hts ix_k_X10_ground_75 (by decide +kernel) (by decide +kernel)) (by decide +kernel) hE.zu hE.zs hS (hl.1.trans hml.symm) dX10_ground_51 dX10_ground_54 dX10_ground_55 dX10_ground_57 dX10_ground_60 (fun x hx => (hEx x hx).elim) (Nat.le_of_ble_eq_true rfl) (Nat.le_of_ble_eq_true rfl) (Nat.le_of_ble_eq_true rfl) (Nat.le_of_ble_eq_true rfl) hlocks (fun t ha hz hk => wq_thr hS (by exact (Or.inr (Or.inr (Or.inr (Or.inr (Or.inr ⟨rfl, c_1, c_2, c_6, c_7, c_14, c_15⟩)))))) hz hk) hS.2.2 (Nat.le_of_ble_eq_true rfl) (Nat.le_of_ble_eq_true rfl)
