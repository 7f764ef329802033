def wW_k_X10_addDisjunction (ty : Nat → ClassId) (X : Nat → Nat) (z9_0 : Int32) (z9_1 : Int32) (z9_2 : Int32) (z9_3 : Int32) (z9_4 : Nat → Option Nat) (z9_5 : Int32) (z9_6 : Int32) (z9_7 : Int32) (z9_8 : Int32) (z9_9 : Int32) (z9_10 : Int32) (z9_11 : Int32) (z9_12 : Int32) (z9_13 : Int32) (z9_14 : Int32) (z9_15 : Int32) (z9_16 : Int32) (z9_17 : Int32) (z9_18 : Int32) (z9_19 : Int32) (z9_20 : Int32) (z9_21 : Int32) : va_W := [((X 0), .inr (12, [.ref (X 1), .ref (X 8), .ref (X 20), .ref (X 39), .ref (X 41), .ref (X 43), .ref (X 45)])), ((X 1), .inr (8, [.ref (X 2), .int z9_0, .ref (X 3), .int z9_1, .ref (X 4), .ref (X 5), .int z9_2, .ref (X 6), .ref (X 7), .int z9_3])), ((X 3), .inl (ty 4, 20, .inr (.inr (.inr (.inr z9_4))))), ((X 8), .inr (5, [.ref (X 1), .ref (X 9), .ref (X 10), .ref (X 12), .ref (X 14), .int z9_5, .ref (X 15), .ref (X 16), .ref (X 17), .int z9_6, .ref (X 18), .ref (X 19), .int z9_7, .int z9_8, .int z9_9, .int z9_10])), ((X 20), .inr (11, [.ref (X 1), .ref (X 8), .ref (X 21), .ref (X 28), .ref (X 35), .int z9_11, .ref (X 36), .ref (X 37), .ref (X 38), .int z9_12, .int z9_13, .int z9_14, .int z9_15, .int z9_16, .int z9_17, .int z9_18, .int z9_19])), ((X 45), .inr (2, [.ref (X 46), .ref (X 47), .int z9_20, .int z9_21]))]
def vs_k_X10_addDisjunction : List Cond := .code yX10_addDisjunction cX10_addDisjunction 2 (some .int) :: ([.methodLink RX10 83 yX10_checkPart, .instanceMethod yX10_checkPart, .selects RX10 yX10_checkPart yX10_checkPart, .initialized RX10, .methodLink RX10 87 yX10_checkRoomForRule, .instanceMethod yX10_checkRoomForRule, .selects RX10 yX10_checkRoomForRule yX10_checkRoomForRule, .methodLink RX10 76 yX10_forgetGrounding, .instanceMethod yX10_forgetGrounding, .selects RX10 yX10_forgetGrounding yX10_forgetGrounding, .fieldLink RX10 12 "AnswerFold" "program" "LAnswerFold$Program;", .classLink RX10 90 RX8, .instantiable RX8 11, .initialized RX8, .methodLink RX10 92 yX8_init, .instanceMethod yX8_init, .methodLink RX10 95 yX6_tellRule, .instanceMethod yX6_tellRule, .selects RX6 yX6_tellRule yX6_tellRule, .initialized RX6] ++ (vs_k_X10_checkPart ++ (vs_k_X10_checkRoomForRule ++ (vs_k_X10_forgetGrounding ++ (u_ws RX10 TX10 7 ++ (u_ws RX8 TX8 11 ++ (vs_k_X8_init_100 ++ (vs_k_X6_tellRule))))))))
theorem iv_k_X10_addDisjunction_X10 : ∀ w ∈ u_ws RX10 TX10 7, w ∈ vs_k_X10_addDisjunction := (fun _ h => List.mem_cons_of_mem _ (List.mem_append_right _ (List.mem_append_right _ (List.mem_append_right _ (List.mem_append_right _ (List.mem_append_left _ h))))))
theorem iv_k_X10_addDisjunction_X8 : ∀ w ∈ u_ws RX8 TX8 11, w ∈ vs_k_X10_addDisjunction := (fun _ h => List.mem_cons_of_mem _ (List.mem_append_right _ (List.mem_append_right _ (List.mem_append_right _ (List.mem_append_right _ (List.mem_append_right _ (List.mem_append_left _ h)))))))
set_option maxRecDepth 20000 in
theorem gv_k_X10_addDisjunction_0 : GoodIn vs_k_X10_addDisjunction (wsV RX10 83 RX10 yX10_checkPart vs_k_X10_checkPart) := goodIn_app (goodIn_sub (by decide +kernel) (by decide +kernel)) (goodIn_sub (fun _ h => List.mem_cons_of_mem _ (List.mem_append_right _ (List.mem_append_left _ h))) (by decide +kernel))
set_option maxRecDepth 20000 in
theorem gv_k_X10_addDisjunction_1 : GoodIn vs_k_X10_addDisjunction (wsV RX10 87 RX10 yX10_checkRoomForRule vs_k_X10_checkRoomForRule) := goodIn_app (goodIn_sub (by decide +kernel) (by decide +kernel)) (goodIn_sub (fun _ h => List.mem_cons_of_mem _ (List.mem_append_right _ (List.mem_append_right _ (List.mem_append_left _ h)))) (by decide +kernel))
set_option maxRecDepth 20000 in
theorem gv_k_X10_addDisjunction_2 : GoodIn vs_k_X10_addDisjunction (wsV RX10 76 RX10 yX10_forgetGrounding vs_k_X10_forgetGrounding) := goodIn_app (goodIn_sub (by decide +kernel) (by decide +kernel)) (goodIn_sub (fun _ h => List.mem_cons_of_mem _ (List.mem_append_right _ (List.mem_append_right _ (List.mem_append_right _ (List.mem_append_left _ h))))) (by decide +kernel))
set_option maxRecDepth 20000 in
theorem gv_k_X10_addDisjunction_3 : GoodIn vs_k_X10_addDisjunction (vs_k_X8_init_100) := (goodIn_sub (fun _ h => List.mem_cons_of_mem _ (List.mem_append_right _ (List.mem_append_right _ (List.mem_append_right _ (List.mem_append_right _ (List.mem_append_right _ (List.mem_append_right _ (List.mem_append_left _ h)))))))) (by decide +kernel))
set_option maxRecDepth 20000 in
theorem gv_k_X10_addDisjunction_4 : GoodIn vs_k_X10_addDisjunction (vs_k_X8_init_100) := (goodIn_sub (fun _ h => List.mem_cons_of_mem _ (List.mem_append_right _ (List.mem_append_right _ (List.mem_append_right _ (List.mem_append_right _ (List.mem_append_right _ (List.mem_append_right _ (List.mem_append_left _ h)))))))) (by decide +kernel))
set_option maxRecDepth 20000 in
theorem gv_k_X10_addDisjunction_5 : GoodIn vs_k_X10_addDisjunction (wsV RX10 95 RX6 yX6_tellRule vs_k_X6_tellRule) := goodIn_app (goodIn_sub (by decide +kernel) (by decide +kernel)) (goodIn_sub (fun _ h => List.mem_cons_of_mem _ (List.mem_append_right _ (List.mem_append_right _ (List.mem_append_right _ (List.mem_append_right _ (List.mem_append_right _ (List.mem_append_right _ (List.mem_append_right _ (h))))))))) (by decide +kernel))
set_option maxHeartbeats 4000000 in
set_option maxRecDepth 100000 in
theorem k_X10_addDisjunction (l : Launch) (hl9 : l.stackTraces = false) (D : va_G) (ty : Nat → ClassId) (td mi sz : Nat) (X : Nat → Nat) (pn : Int32) (rn : Int32) (tn : Int32) (en : Int32) (rf : Nat → Option Nat) (hn : Int32) (kn : Int32) (on : Int32) (cu : Int32) (pu : Int32) (gw : Int32) (an : Int32) (ch : Int32) (cg : Int32) (fb : Int32) (mh : Int32) (ml : Int32) (ih : Int32) (lb : Int32) (ic : Int32) (nn : Int32) (kp : Int32) (a1 : Int32) (TT : r_k_X10_addDisjunction) (hTT : TT = m_k_X10_addDisjunction rn cu ic kp a1) : vx_Met l yX10_addDisjunction vs_k_X10_addDisjunction { frames := 7, cells := 5, slots := 30, locals := 103 } (va_Pc [.ref (X 0), .int a1] (wq_P D ty td mi (wW_k_X10_addDisjunction ty X pn rn tn en rf hn kn on cu pu gw an ch cg fb mh ml ih lb ic nn kp) sz)) (va_Qi (fun (r : Int32) (u : va_W) => (∃ (q_17 : Nat) (q_24_1 : Nat) (q_24_2 : Nat), TT.1 = 0 ∧ TT.2.1 = 0 ∧ r = TT.2.2.1 ∧ (u = ((wW_k_X10_addDisjunction ty X pn TT.2.2.2.2.2.2.2.2.2.2.2.2.1 tn en rf hn kn on TT.2.2.2.2.2.2.2.2.2.2.2.2.2.2.2 pu gw an ch cg fb mh ml ih lb TT.2.2.2.2.2.2.2.2.2.2.2.2.2.1 nn TT.2.2.2.2.2.2.2.2.2.2.2.2.2.2.1) ++ [(q_17, .inr (10, [.int TT.2.2.2.1, .int TT.2.2.2.2.1, .int TT.2.2.2.2.2.2.1, .int TT.2.2.2.2.2.2.2.1, .int TT.2.2.2.2.2.2.2.2.1, .int TT.2.2.2.2.2.2.2.2.2.1, .int TT.2.2.2.2.2.2.2.2.2.2.1, .ref q_24_1, .int TT.2.2.2.2.2.2.2.2.2.2.2.1, .ref q_24_2, .int TT.2.2.2.2.2.1])), (q_24_1, .inl (ty 5, 2, .inr (.inr (.inr (.inr (fun _ => none)))))), (q_24_2, .inl (ty 5, 5, .inr (.inr (.inr (.inr (fun _ => none))))))]))) ∨ (∃ (q_17 : Nat) (q_24_1 : Nat) (q_24_2 : Nat), TT.1 = 0 ∧ TT.2.1 = 1 ∧ r = TT.2.2.1 ∧ (u = ((wW_k_X10_addDisjunction ty X pn TT.2.2.2.2.2.2.2.2.2.2.2.2.1 tn en (va_up rf rn.toNatClampNeg (some q_17)) hn kn on TT.2.2.2.2.2.2.2.2.2.2.2.2.2.2.2 pu gw an ch cg fb mh ml ih lb TT.2.2.2.2.2.2.2.2.2.2.2.2.2.1 nn TT.2.2.2.2.2.2.2.2.2.2.2.2.2.2.1) ++ [(q_17, .inr (10, [.int TT.2.2.2.1, .int TT.2.2.2.2.1, .int TT.2.2.2.2.2.2.1, .int TT.2.2.2.2.2.2.2.1, .int TT.2.2.2.2.2.2.2.2.1, .int TT.2.2.2.2.2.2.2.2.2.1, .int TT.2.2.2.2.2.2.2.2.2.2.1, .ref q_24_1, .int TT.2.2.2.2.2.2.2.2.2.2.2.1, .ref q_24_2, .int TT.2.2.2.2.2.1])), (q_24_1, .inl (ty 5, 2, .inr (.inr (.inr (.inr (fun _ => none)))))), (q_24_2, .inl (ty 5, 5, .inr (.inr (.inr (.inr (fun _ => none))))))])))) (wq_B D (va_A (wW_k_X10_addDisjunction ty X pn rn tn en rf hn kn on cu pu gw an ch cg fb mh ml ih lb ic nn kp) sz)) (va_A (wW_k_X10_addDisjunction ty X pn rn tn en rf hn kn on cu pu gw an ch cg fb mh ml ih lb ic nn kp) sz)) (vx_X (fun u : String × va_W => (TT.1 = 2 ∧ u = ("java/lang/IllegalArgumentException", (wW_k_X10_addDisjunction ty X pn TT.2.2.2.2.2.2.2.2.2.2.2.2.1 tn en rf hn kn on TT.2.2.2.2.2.2.2.2.2.2.2.2.2.2.2 pu gw an ch cg fb mh ml ih lb TT.2.2.2.2.2.2.2.2.2.2.2.2.2.1 nn TT.2.2.2.2.2.2.2.2.2.2.2.2.2.2.1))) ∨ (TT.1 = 3 ∧ u = ("java/lang/IllegalStateException", (wW_k_X10_addDisjunction ty X pn TT.2.2.2.2.2.2.2.2.2.2.2.2.1 tn en rf hn kn on TT.2.2.2.2.2.2.2.2.2.2.2.2.2.2.2 pu gw an ch cg fb mh ml ih lb TT.2.2.2.2.2.2.2.2.2.2.2.2.2.1 nn TT.2.2.2.2.2.2.2.2.2.2.2.2.2.2.1)))) (wq_BX D (va_A (wW_k_X10_addDisjunction ty X pn rn tn en rf hn kn on cu pu gw an ch cg fb mh ml ih lb ic nn kp) sz)) (va_A (wW_k_X10_addDisjunction ty X pn rn tn en rf hn kn on cu pu gw an ch cg fb mh ml ih lb ic nn kp) sz)) 5 30 (va_A (wW_k_X10_addDisjunction ty X pn rn tn en rf hn kn on cu pu gw an ch cg fb mh ml ih lb ic nn kp) sz) := by
  refine vx_ofW (cc := cX10_addDisjunction) (maxL := 2) (ret := (some .int)) (by decide) rfl ?_
  intro p e s m args below meth c s₁ B hml hEx hv
  obtain ⟨rfl, hsz, hP, hK, hD0, hE⟩ := hv
  have hx := B.exec
  have hb := B.bytes
  have hr := B.returns
  have hts := atoms_spec (ws := vs_k_X10_addDisjunction) B.pre
  have hown : s.vm.findClass RX10 = some m.cls := findClass_of_methodNamed B.named
  have hlocks := B.notSynchronized
  subst hsz
  have hD := hD0.self (sz := s.heap.size)
  generalize hAe : va_A (wW_k_X10_addDisjunction ty X pn rn tn en rf hn kn on cu pu gw an ch cg fb mh ml ih lb ic nn kp) s.heap.size = A at hD hE ⊢
  have hA : ∀ q : Nat, s.heap.size ≤ q → A q := fun q h => by rw [← hAe]; exact Or.inr h
  have hS : va_S A s.heap s.heap [] := va_S.rf
  have hP : va_P D vwCl (wW_k_X10_addDisjunction ty X pn rn tn en rf hn kn on cu pu gw an ch cg fb mh ml ih lb ic nn kp) s.heap := hP
  have hl := lv_entry ([.ref (X 0), .int a1]) (n := 2) (Nat.le_of_ble_eq_true rfl)
  rw [lg_entry_eq]
  generalize (lg_sl ([.ref (X 0), .int a1]) ++ List.replicate (2 - (lg_sl ([.ref (X 0), .int a1])).length) Slot.unset).toArray = ls at hl ⊢
  have hl : lv_has ls 2 [(0, .ref (X 0)), (1, .int a1)] := hl
  have END_0 : ∀ (q_17 : Nat) (q_24_1 : Nat) (q_24_2 : Nat) (r : Int32) (w9_0 : Int32) (w9_1 : Int32) (w9_2 : Int32) (w9_3 : Int32) (w9_4 : Int32) (w9_5 : Int32) (w9_6 : Int32) (w9_7 : Int32) (w9_8 : Int32) (w9_9 : Int32) (w9_10 : Int32) (w9_11 : Int32) (w9_12 : Int32), TT = (0, 0, r, w9_0, w9_1, w9_2, w9_3, w9_4, w9_5, w9_6, w9_7, w9_8, w9_9, w9_10, w9_11, w9_12) → ∀ (H : Heap) (locs : List Loc), va_P D vwCl ((wW_k_X10_addDisjunction ty X pn w9_9 tn en rf hn kn on w9_12 pu gw an ch cg fb mh ml ih lb w9_10 nn w9_11) ++ [(q_17, .inr (10, [.int w9_0, .int w9_1, .int w9_3, .int w9_4, .int w9_5, .int w9_6, .int w9_7, .ref q_24_1, .int w9_8, .ref q_24_2, .int w9_2])), (q_24_1, .inl (ty 5, 2, .inr (.inr (.inr (.inr (fun _ => none)))))), (q_24_2, .inl (ty 5, 5, .inr (.inr (.inr (.inr (fun _ => none))))))]) H → va_D A ((wW_k_X10_addDisjunction ty X pn w9_9 tn en rf hn kn on w9_12 pu gw an ch cg fb mh ml ih lb w9_10 nn w9_11) ++ [(q_17, .inr (10, [.int w9_0, .int w9_1, .int w9_3, .int w9_4, .int w9_5, .int w9_6, .int w9_7, .ref q_24_1, .int w9_8, .ref q_24_2, .int w9_2])), (q_24_1, .inl (ty 5, 2, .inr (.inr (.inr (.inr (fun _ => none)))))), (q_24_2, .inl (ty 5, 5, .inr (.inr (.inr (.inr (fun _ => none))))))]) → va_S A s.heap H locs → ∀ (ls : Array Slot) (pc : Nat), decode cX10_addDisjunction pc = .ok (.ireturn, 1) → W p l e (headSpec vs_k_X10_addDisjunction { frames := 7, cells := 5, slots := 30, locals := 103 }).room s m ([.ref (X 0), .int a1] : List Value).toArray below meth c H locs 5 30 (vx_MQ below (va_Qi (fun (r : Int32) (u : va_W) => (∃ (q_17 : Nat) (q_24_1 : Nat) (q_24_2 : Nat), TT.1 = 0 ∧ TT.2.1 = 0 ∧ r = TT.2.2.1 ∧ (u = ((wW_k_X10_addDisjunction ty X pn TT.2.2.2.2.2.2.2.2.2.2.2.2.1 tn en rf hn kn on TT.2.2.2.2.2.2.2.2.2.2.2.2.2.2.2 pu gw an ch cg fb mh ml ih lb TT.2.2.2.2.2.2.2.2.2.2.2.2.2.1 nn TT.2.2.2.2.2.2.2.2.2.2.2.2.2.2.1) ++ [(q_17, .inr (10, [.int TT.2.2.2.1, .int TT.2.2.2.2.1, .int TT.2.2.2.2.2.2.1, .int TT.2.2.2.2.2.2.2.1, .int TT.2.2.2.2.2.2.2.2.1, .int TT.2.2.2.2.2.2.2.2.2.1, .int TT.2.2.2.2.2.2.2.2.2.2.1, .ref q_24_1, .int TT.2.2.2.2.2.2.2.2.2.2.2.1, .ref q_24_2, .int TT.2.2.2.2.2.1])), (q_24_1, .inl (ty 5, 2, .inr (.inr (.inr (.inr (fun _ => none)))))), (q_24_2, .inl (ty 5, 5, .inr (.inr (.inr (.inr (fun _ => none))))))]))) ∨ (∃ (q_17 : Nat) (q_24_1 : Nat) (q_24_2 : Nat), TT.1 = 0 ∧ TT.2.1 = 1 ∧ r = TT.2.2.1 ∧ (u = ((wW_k_X10_addDisjunction ty X pn TT.2.2.2.2.2.2.2.2.2.2.2.2.1 tn en (va_up rf rn.toNatClampNeg (some q_17)) hn kn on TT.2.2.2.2.2.2.2.2.2.2.2.2.2.2.2 pu gw an ch cg fb mh ml ih lb TT.2.2.2.2.2.2.2.2.2.2.2.2.2.1 nn TT.2.2.2.2.2.2.2.2.2.2.2.2.2.2.1) ++ [(q_17, .inr (10, [.int TT.2.2.2.1, .int TT.2.2.2.2.1, .int TT.2.2.2.2.2.2.1, .int TT.2.2.2.2.2.2.2.1, .int TT.2.2.2.2.2.2.2.2.1, .int TT.2.2.2.2.2.2.2.2.2.1, .int TT.2.2.2.2.2.2.2.2.2.2.1, .ref q_24_1, .int TT.2.2.2.2.2.2.2.2.2.2.2.1, .ref q_24_2, .int TT.2.2.2.2.2.1])), (q_24_1, .inl (ty 5, 2, .inr (.inr (.inr (.inr (fun _ => none)))))), (q_24_2, .inl (ty 5, 5, .inr (.inr (.inr (.inr (fun _ => none))))))])))) (wq_B D A) A) (vx_X (fun u : String × va_W => (TT.1 = 2 ∧ u = ("java/lang/IllegalArgumentException", (wW_k_X10_addDisjunction ty X pn TT.2.2.2.2.2.2.2.2.2.2.2.2.1 tn en rf hn kn on TT.2.2.2.2.2.2.2.2.2.2.2.2.2.2.2 pu gw an ch cg fb mh ml ih lb TT.2.2.2.2.2.2.2.2.2.2.2.2.2.1 nn TT.2.2.2.2.2.2.2.2.2.2.2.2.2.2.1))) ∨ (TT.1 = 3 ∧ u = ("java/lang/IllegalStateException", (wW_k_X10_addDisjunction ty X pn TT.2.2.2.2.2.2.2.2.2.2.2.2.1 tn en rf hn kn on TT.2.2.2.2.2.2.2.2.2.2.2.2.2.2.2 pu gw an ch cg fb mh ml ih lb TT.2.2.2.2.2.2.2.2.2.2.2.2.2.1 nn TT.2.2.2.2.2.2.2.2.2.2.2.2.2.2.1)))) (wq_BX D A) A) ([.ref (X 0), .int a1] : List Value).toArray s 5 30 A) (F0 m pc ls [.int r]) := by
    intro q_17 q_24_1 q_24_2 r w9_0 w9_1 w9_2 w9_3 w9_4 w9_5 w9_6 w9_7 w9_8 w9_9 w9_10 w9_11 w9_12 hT H locs hP hD hS ls pc hd
    have hM : TT = (0, 0, r, w9_0, w9_1, w9_2, w9_3, w9_4, w9_5, w9_6, w9_7, w9_8, w9_9, w9_10, w9_11, w9_12) := hT
    refine vx_ret ?_
    exact W.iret (v := r) hx hb hr (fun t ht hW => ⟨⟨r, ((wW_k_X10_addDisjunction ty X pn w9_9 tn en rf hn kn on w9_12 pu gw an ch cg fb mh ml ih lb w9_10 nn w9_11) ++ [(q_17, .inr (10, [.int w9_0, .int w9_1, .int w9_3, .int w9_4, .int w9_5, .int w9_6, .int w9_7, .ref q_24_1, .int w9_8, .ref q_24_2, .int w9_2])), (q_24_1, .inl (ty 5, 2, .inr (.inr (.inr (.inr (fun _ => none)))))), (q_24_2, .inl (ty 5, 5, .inr (.inr (.inr (.inr (fun _ => none))))))]), rfl, (Or.inl ⟨q_17, q_24_1, q_24_2, (by rw [hM]), (by rw [hM]), (by rw [hM]), (by rw [hM])⟩), wq_B.of ht hP hD⟩, hS.F ht⟩) hS.2.2 hd
  have END_1 : ∀ (q_17 : Nat) (q_24_1 : Nat) (q_24_2 : Nat) (r : Int32) (w9_0 : Int32) (w9_1 : Int32) (w9_2 : Int32) (w9_3 : Int32) (w9_4 : Int32) (w9_5 : Int32) (w9_6 : Int32) (w9_7 : Int32) (w9_8 : Int32) (w9_9 : Int32) (w9_10 : Int32) (w9_11 : Int32) (w9_12 : Int32), TT = (0, 1, r, w9_0, w9_1, w9_2, w9_3, w9_4, w9_5, w9_6, w9_7, w9_8, w9_9, w9_10, w9_11, w9_12) → ∀ (H : Heap) (locs : List Loc), va_P D vwCl ((wW_k_X10_addDisjunction ty X pn w9_9 tn en (va_up rf rn.toNatClampNeg (some q_17)) hn kn on w9_12 pu gw an ch cg fb mh ml ih lb w9_10 nn w9_11) ++ [(q_17, .inr (10, [.int w9_0, .int w9_1, .int w9_3, .int w9_4, .int w9_5, .int w9_6, .int w9_7, .ref q_24_1, .int w9_8, .ref q_24_2, .int w9_2])), (q_24_1, .inl (ty 5, 2, .inr (.inr (.inr (.inr (fun _ => none)))))), (q_24_2, .inl (ty 5, 5, .inr (.inr (.inr (.inr (fun _ => none))))))]) H → va_D A ((wW_k_X10_addDisjunction ty X pn w9_9 tn en (va_up rf rn.toNatClampNeg (some q_17)) hn kn on w9_12 pu gw an ch cg fb mh ml ih lb w9_10 nn w9_11) ++ [(q_17, .inr (10, [.int w9_0, .int w9_1, .int w9_3, .int w9_4, .int w9_5, .int w9_6, .int w9_7, .ref q_24_1, .int w9_8, .ref q_24_2, .int w9_2])), (q_24_1, .inl (ty 5, 2, .inr (.inr (.inr (.inr (fun _ => none)))))), (q_24_2, .inl (ty 5, 5, .inr (.inr (.inr (.inr (fun _ => none))))))]) → va_S A s.heap H locs → ∀ (ls : Array Slot) (pc : Nat), decode cX10_addDisjunction pc = .ok (.ireturn, 1) → W p l e (headSpec vs_k_X10_addDisjunction { frames := 7, cells := 5, slots := 30, locals := 103 }).room s m ([.ref (X 0), .int a1] : List Value).toArray below meth c H locs 5 30 (vx_MQ below (va_Qi (fun (r : Int32) (u : va_W) => (∃ (q_17 : Nat) (q_24_1 : Nat) (q_24_2 : Nat), TT.1 = 0 ∧ TT.2.1 = 0 ∧ r = TT.2.2.1 ∧ (u = ((wW_k_X10_addDisjunction ty X pn TT.2.2.2.2.2.2.2.2.2.2.2.2.1 tn en rf hn kn on TT.2.2.2.2.2.2.2.2.2.2.2.2.2.2.2 pu gw an ch cg fb mh ml ih lb TT.2.2.2.2.2.2.2.2.2.2.2.2.2.1 nn TT.2.2.2.2.2.2.2.2.2.2.2.2.2.2.1) ++ [(q_17, .inr (10, [.int TT.2.2.2.1, .int TT.2.2.2.2.1, .int TT.2.2.2.2.2.2.1, .int TT.2.2.2.2.2.2.2.1, .int TT.2.2.2.2.2.2.2.2.1, .int TT.2.2.2.2.2.2.2.2.2.1, .int TT.2.2.2.2.2.2.2.2.2.2.1, .ref q_24_1, .int TT.2.2.2.2.2.2.2.2.2.2.2.1, .ref q_24_2, .int TT.2.2.2.2.2.1])), (q_24_1, .inl (ty 5, 2, .inr (.inr (.inr (.inr (fun _ => none)))))), (q_24_2, .inl (ty 5, 5, .inr (.inr (.inr (.inr (fun _ => none))))))]))) ∨ (∃ (q_17 : Nat) (q_24_1 : Nat) (q_24_2 : Nat), TT.1 = 0 ∧ TT.2.1 = 1 ∧ r = TT.2.2.1 ∧ (u = ((wW_k_X10_addDisjunction ty X pn TT.2.2.2.2.2.2.2.2.2.2.2.2.1 tn en (va_up rf rn.toNatClampNeg (some q_17)) hn kn on TT.2.2.2.2.2.2.2.2.2.2.2.2.2.2.2 pu gw an ch cg fb mh ml ih lb TT.2.2.2.2.2.2.2.2.2.2.2.2.2.1 nn TT.2.2.2.2.2.2.2.2.2.2.2.2.2.2.1) ++ [(q_17, .inr (10, [.int TT.2.2.2.1, .int TT.2.2.2.2.1, .int TT.2.2.2.2.2.2.1, .int TT.2.2.2.2.2.2.2.1, .int TT.2.2.2.2.2.2.2.2.1, .int TT.2.2.2.2.2.2.2.2.2.1, .int TT.2.2.2.2.2.2.2.2.2.2.1, .ref q_24_1, .int TT.2.2.2.2.2.2.2.2.2.2.2.1, .ref q_24_2, .int TT.2.2.2.2.2.1])), (q_24_1, .inl (ty 5, 2, .inr (.inr (.inr (.inr (fun _ => none)))))), (q_24_2, .inl (ty 5, 5, .inr (.inr (.inr (.inr (fun _ => none))))))])))) (wq_B D A) A) (vx_X (fun u : String × va_W => (TT.1 = 2 ∧ u = ("java/lang/IllegalArgumentException", (wW_k_X10_addDisjunction ty X pn TT.2.2.2.2.2.2.2.2.2.2.2.2.1 tn en rf hn kn on TT.2.2.2.2.2.2.2.2.2.2.2.2.2.2.2 pu gw an ch cg fb mh ml ih lb TT.2.2.2.2.2.2.2.2.2.2.2.2.2.1 nn TT.2.2.2.2.2.2.2.2.2.2.2.2.2.2.1))) ∨ (TT.1 = 3 ∧ u = ("java/lang/IllegalStateException", (wW_k_X10_addDisjunction ty X pn TT.2.2.2.2.2.2.2.2.2.2.2.2.1 tn en rf hn kn on TT.2.2.2.2.2.2.2.2.2.2.2.2.2.2.2 pu gw an ch cg fb mh ml ih lb TT.2.2.2.2.2.2.2.2.2.2.2.2.2.1 nn TT.2.2.2.2.2.2.2.2.2.2.2.2.2.2.1)))) (wq_BX D A) A) ([.ref (X 0), .int a1] : List Value).toArray s 5 30 A) (F0 m pc ls [.int r]) := by
    intro q_17 q_24_1 q_24_2 r w9_0 w9_1 w9_2 w9_3 w9_4 w9_5 w9_6 w9_7 w9_8 w9_9 w9_10 w9_11 w9_12 hT H locs hP hD hS ls pc hd
    have hM : TT = (0, 1, r, w9_0, w9_1, w9_2, w9_3, w9_4, w9_5, w9_6, w9_7, w9_8, w9_9, w9_10, w9_11, w9_12) := hT
    refine vx_ret ?_
    exact W.iret (v := r) hx hb hr (fun t ht hW => ⟨⟨r, ((wW_k_X10_addDisjunction ty X pn w9_9 tn en (va_up rf rn.toNatClampNeg (some q_17)) hn kn on w9_12 pu gw an ch cg fb mh ml ih lb w9_10 nn w9_11) ++ [(q_17, .inr (10, [.int w9_0, .int w9_1, .int w9_3, .int w9_4, .int w9_5, .int w9_6, .int w9_7, .ref q_24_1, .int w9_8, .ref q_24_2, .int w9_2])), (q_24_1, .inl (ty 5, 2, .inr (.inr (.inr (.inr (fun _ => none)))))), (q_24_2, .inl (ty 5, 5, .inr (.inr (.inr (.inr (fun _ => none))))))]), rfl, (Or.inr ⟨q_17, q_24_1, q_24_2, (by rw [hM]), (by rw [hM]), (by rw [hM]), (by rw [hM])⟩), wq_B.of ht hP hD⟩, hS.F ht⟩) hS.2.2 hd
  have hT := hTT
  rw [m_k_X10_addDisjunction] at hT
  refine lv_aload_n hx hb dX10_addDisjunction_0 rfl (lv_at hl 0 rfl) ?_
  refine lv_iload_n hx hb dX10_addDisjunction_1 rfl (lv_at hl 1 rfl) ?_
  obtain ⟨t_2, ht_2⟩ : ∃ t, t = m_k_X10_checkPart a1 := ⟨_, rfl⟩
  rw [lE_eq ht_2] at hT
  refine wq_xvW (wc := []) (vx_runV (As := [.int a1]) (rest := []) ⟨hx, hb, hml, hown, hts⟩ (k_X10_checkPart l hl9 D ty td mi s.heap.size X a1 t_2 ht_2) (cwV 1 hts gv_k_X10_addDisjunction_0 rfl rfl rfl (by decide +kernel) ⟨(Nat.le_of_ble_eq_true rfl), (Nat.le_of_ble_eq_true rfl)⟩) (wm_V (wm_preS hP hD hK hE hS hA [] rfl) (va_recv (q0 := 0) (ci := 12) hK hP rfl rfl)) rfl rfl hl.1 rfl (lv_room (Nat.le_of_ble_eq_true rfl)) dX10_addDisjunction_2 ⟨(Nat.le_of_ble_eq_true rfl), (Nat.le_of_ble_eq_true rfl)⟩) hS hA hP hD [] rfl (fun _ h => by rcases h with ⟨-, rfl⟩; rfl) (fun _ _ h => by rcases h with ⟨-, h⟩ <;> (cases h; rfl)) (fun E9 u H locs q9 ce hw hP hD hS hce hcv hcl => ?_) (fun u H locs hw hP hD hS => ?_)
  · obtain ⟨c_1, hEq⟩ := hw
    cases hEq
    rw [if_neg (show ¬ t_2 = 0 by rw [c_1]; decide)] at hT
    have hP : va_P D vwCl (wW_k_X10_addDisjunction ty X pn rn tn en rf hn kn on cu pu gw an ch cg fb mh ml ih lb ic nn kp) H := hP
    have hD : va_D A (wW_k_X10_addDisjunction ty X pn rn tn en rf hn kn on cu pu gw an ch cg fb mh ml ih lb ic nn kp) := hD
    refine vx_widen (k := 5) (n := 30) (Nat.le_of_ble_eq_true rfl) (Nat.le_of_ble_eq_true rfl) ?_
    exact vx_out (E := "java/lang/IllegalArgumentException") (fun x hx => (hEx x hx).elim) hlocks hce hcv hcl (fun t ht ha => wq_thrW0 (W := (wW_k_X10_addDisjunction ty X pn rn tn en rf hn kn on cu pu gw an ch cg fb mh ml ih lb ic nn kp)) hS hP hD (by exact (Or.inl ⟨(by rw [hT]), (by first | rw [hT] | rfl)⟩)) ht) hS.2.2 (Nat.le_refl _) (Nat.le_refl _)
  · obtain ⟨c_2, rfl⟩ := hw
    rw [if_pos c_2] at hT
    have hP : va_P D vwCl (wW_k_X10_addDisjunction ty X pn rn tn en rf hn kn on cu pu gw an ch cg fb mh ml ih lb ic nn kp) H := hP
    have hD : va_D A (wW_k_X10_addDisjunction ty X pn rn tn en rf hn kn on cu pu gw an ch cg fb mh ml ih lb ic nn kp) := hD
    refine W.widen (k := 1) (n := 6) (Nat.le_of_ble_eq_true rfl) (Nat.le_of_ble_eq_true rfl) ?_
    refine lv_aload_n hx hb dX10_addDisjunction_5 rfl (lv_at hl 0 rfl) ?_
    obtain ⟨t_6, ht_6⟩ : ∃ t, t = m_k_X10_checkRoomForRule rn := ⟨_, rfl⟩
    rw [lE_eq ht_6] at hT
    refine wq_xvW (wc := (wW_k_X10_checkRoomForRule ty X pn rn tn en)) (vx_runV (As := []) (rest := []) ⟨hx, hb, hml, hown, hts⟩ (k_X10_checkRoomForRule l hl9 D ty td mi H.size X pn rn tn en t_6 ht_6) (cwV 0 hts gv_k_X10_addDisjunction_1 rfl rfl rfl (by decide +kernel) ⟨(Nat.le_of_ble_eq_true rfl), (Nat.le_of_ble_eq_true rfl)⟩) (wm_V (wm_preS hP hD hK hE hS hA [true, true] rfl) (va_recv (q0 := 0) (ci := 12) hK hP rfl rfl)) rfl rfl hl.1 rfl (lv_room (Nat.le_of_ble_eq_true rfl)) dX10_addDisjunction_6 ⟨(Nat.le_of_ble_eq_true rfl), (Nat.le_of_ble_eq_true rfl)⟩) hS hA hP hD [true, true] rfl (fun _ h => by rcases h with ⟨-, rfl⟩; rfl) (fun _ _ h => by rcases h with ⟨-, h⟩ <;> (cases h; rfl)) (fun E9 u H locs q9 ce hw hP hD hS hce hcv hcl => ?_) (fun u H locs hw hP hD hS => ?_)
    · obtain ⟨c_4, hEq⟩ := hw
      cases hEq
      rw [if_neg (show ¬ t_6 = 0 by rw [c_4]; decide)] at hT
      have hP : va_P D vwCl (wW_k_X10_addDisjunction ty X pn rn tn en rf hn kn on cu pu gw an ch cg fb mh ml ih lb ic nn kp) H := hP
      have hD : va_D A (wW_k_X10_addDisjunction ty X pn rn tn en rf hn kn on cu pu gw an ch cg fb mh ml ih lb ic nn kp) := hD
      refine vx_widen (k := 5) (n := 30) (Nat.le_of_ble_eq_true rfl) (Nat.le_of_ble_eq_true rfl) ?_
      exact vx_out (E := "java/lang/IllegalStateException") (fun x hx => (hEx x hx).elim) hlocks hce hcv hcl (fun t ht ha => wq_thrW0 (W := (wW_k_X10_addDisjunction ty X pn rn tn en rf hn kn on cu pu gw an ch cg fb mh ml ih lb ic nn kp)) hS hP hD (by exact (Or.inr ⟨(by rw [hT]), (by first | rw [hT] | rfl)⟩)) ht) hS.2.2 (Nat.le_refl _) (Nat.le_refl _)
    · obtain ⟨c_5, rfl⟩ := hw
      rw [if_pos c_5] at hT
      have hP : va_P D vwCl (wW_k_X10_addDisjunction ty X pn rn tn en rf hn kn on cu pu gw an ch cg fb mh ml ih lb ic nn kp) H := hP
      have hD : va_D A (wW_k_X10_addDisjunction ty X pn rn tn en rf hn kn on cu pu gw an ch cg fb mh ml ih lb ic nn kp) := hD
      refine W.widen (k := 2) (n := 12) (Nat.le_of_ble_eq_true rfl) (Nat.le_of_ble_eq_true rfl) ?_
      refine lv_aload_n hx hb dX10_addDisjunction_9 rfl (lv_at hl 0 rfl) ?_
      obtain ⟨t_10, ht_10⟩ : ∃ t, t = m_k_X10_forgetGrounding := ⟨_, rfl⟩
      rw [lE_eq ht_10] at hT
      refine wq_vW (wc := (wW_k_X10_forgetGrounding ty X hn kn on cu pu gw an ch cg fb mh ml ih lb ic nn kp)) (va_runV (As := []) (rest := []) ⟨hx, hb, hml, hown, hts⟩ (k_X10_forgetGrounding l D ty td mi H.size X hn kn on cu pu gw an ch cg fb mh ml ih lb ic nn kp t_10 ht_10) (cwV 0 hts gv_k_X10_addDisjunction_2 rfl rfl rfl (by decide +kernel) ⟨(Nat.le_of_ble_eq_true rfl), (Nat.le_of_ble_eq_true rfl)⟩) (wm_V (wm_preS hP hD hK hE hS hA [true, false, false, true, true, true] rfl) (va_recv (q0 := 0) (ci := 12) hK hP rfl rfl)) rfl rfl hl.1 rfl (lv_room (Nat.le_of_ble_eq_true rfl)) dX10_addDisjunction_10 ⟨(Nat.le_of_ble_eq_true rfl), (Nat.le_of_ble_eq_true rfl)⟩) hS hA hP hD [true, false, false, true, true, true] rfl (fun _ h => by rcases h with rfl; rfl) (fun u H locs hw hP hD hS => ?_)
      obtain rfl := hw
      have hP : va_P D vwCl (wW_k_X10_addDisjunction ty X pn rn tn en rf hn kn on t_10.2.2 pu gw an ch cg fb mh ml ih lb t_10.1 nn t_10.2.1) H := hP
      have hD : va_D A (wW_k_X10_addDisjunction ty X pn rn tn en rf hn kn on t_10.2.2 pu gw an ch cg fb mh ml ih lb t_10.1 nn t_10.2.1) := hD
      refine W.widen (k := 2) (n := 12) (Nat.le_of_ble_eq_true rfl) (Nat.le_of_ble_eq_true rfl) ?_
      refine lv_aload_n hx hb dX10_addDisjunction_13 rfl (lv_at hl 0 rfl) ?_
      refine va_get (D := D) (ci := 12) (v := .ref (X 1)) (C := RX10) (T := TX10) (N := 7) hx hb hts iv_k_X10_addDisjunction_X10 hown hK hP 0 rfl rfl 0 (by decide) (hts (.fieldLink RX10 12 "AnswerFold" "program" "LAnswerFold$Program;") (by decide +kernel)) (fun _ h9 => h9) rfl dX10_addDisjunction_14 ?_
      refine va_new (ci := 10) (fs := [.int 0, .int 0, .int 0, .int 0, .int 0, .int 0, .int 0, .null, .int 0, .null, .int 0]) (C := RX8) (T := TX8) (N := 11) hx hb hts iv_k_X10_addDisjunction_X8 tyX8 tyX8_ok hown (hts (.classLink RX10 90 RX8) (by decide +kernel)) (hts (.instantiable RX8 11) (by decide +kernel)) (hts (.initialized RX8) (by decide +kernel)) hK hP hD hS hA rfl (fun j hj => by rcases (show j = 0 ∨ j = 1 ∨ j = 2 ∨ j = 3 ∨ j = 4 ∨ j = 5 ∨ j = 6 ∨ j = 7 ∨ j = 8 ∨ j = 9 ∨ j = 10 by omega) with rfl | rfl | rfl | rfl | rfl | rfl | rfl | rfl | rfl | rfl | rfl <;> rfl) (Nat.le_of_ble_eq_true rfl) (Nat.le_of_ble_eq_true rfl) dX10_addDisjunction_17 (fun q_17 H hP hD hS => ?_)
      have hP : va_P D vwCl ((wW_k_X10_addDisjunction ty X pn rn tn en rf hn kn on t_10.2.2 pu gw an ch cg fb mh ml ih lb t_10.1 nn t_10.2.1) ++ [(q_17, .inr (10, [.int 0, .int 0, .int 0, .int 0, .int 0, .int 0, .int 0, .null, .int 0, .null, .int 0]))]) H := hP
      have hD : va_D A ((wW_k_X10_addDisjunction ty X pn rn tn en rf hn kn on t_10.2.2 pu gw an ch cg fb mh ml ih lb t_10.1 nn t_10.2.1) ++ [(q_17, .inr (10, [.int 0, .int 0, .int 0, .int 0, .int 0, .int 0, .int 0, .null, .int 0, .null, .int 0]))]) := hD
      refine W.widen (k := 3) (n := 23) (Nat.le_of_ble_eq_true rfl) (Nat.le_of_ble_eq_true rfl) ?_
      refine lv_dup hx hb dX10_addDisjunction_20 rfl ?_
      refine lv_bipush (v := 100) hx hb dX10_addDisjunction_21 (by decide) ?_
      refine lv_iload_n hx hb dX10_addDisjunction_23 rfl (lv_at hl 1 rfl) ?_
      refine wq_vW (wc := [(q_17, .inr (10, [.int 0, .int 0, .int 0, .int 0, .int 0, .int 0, .int 0, .null, .int 0, .null, .int 0]))]) (va_runI (As := [.int 100, .int a1]) (rest := [.ref q_17, .ref (X 1)]) ⟨hx, hb, hml, hown, hts⟩ (k_X8_init_100 l D ty td mi H.size q_17 a1) (cwI 2 hts gv_k_X10_addDisjunction_4 rfl rfl rfl (hts (.initialized RX8) (by decide +kernel)) (hts (.methodLink RX10 92 yX8_init) (by decide +kernel)) (hts (.instanceMethod yX8_init) (by decide +kernel)) rfl (by decide +kernel) ⟨(Nat.le_of_ble_eq_true rfl), (Nat.le_of_ble_eq_true rfl)⟩) (wm_preS hP hD hK hE hS hA [false, false, false, false, false, false, true] rfl) rfl rfl hl.1 rfl (lv_room (Nat.le_of_ble_eq_true rfl)) dX10_addDisjunction_24 ⟨(Nat.le_of_ble_eq_true rfl), (Nat.le_of_ble_eq_true rfl)⟩) hS hA hP hD [false, false, false, false, false, false, true] rfl (fun _ h => by rcases h with ⟨_, _, rfl⟩; rfl) (fun u H locs hw hP hD hS => ?_)
      obtain ⟨q_24_1, q_24_2, rfl⟩ := hw
      have hP : va_P D vwCl ((wW_k_X10_addDisjunction ty X pn rn tn en rf hn kn on t_10.2.2 pu gw an ch cg fb mh ml ih lb t_10.1 nn t_10.2.1) ++ [(q_17, .inr (10, [.int 100, .int a1, .int 0, .int 0, .int (-1), .int 0, .int 0, .ref q_24_1, .int 0, .ref q_24_2, .int 0])), (q_24_1, .inl (ty 5, 2, .inr (.inr (.inr (.inr (fun _ => none)))))), (q_24_2, .inl (ty 5, 5, .inr (.inr (.inr (.inr (fun _ => none))))))]) H := hP
      have hD : va_D A ((wW_k_X10_addDisjunction ty X pn rn tn en rf hn kn on t_10.2.2 pu gw an ch cg fb mh ml ih lb t_10.1 nn t_10.2.1) ++ [(q_17, .inr (10, [.int 100, .int a1, .int 0, .int 0, .int (-1), .int 0, .int 0, .ref q_24_1, .int 0, .ref q_24_2, .int 0])), (q_24_1, .inl (ty 5, 2, .inr (.inr (.inr (.inr (fun _ => none)))))), (q_24_2, .inl (ty 5, 5, .inr (.inr (.inr (.inr (fun _ => none))))))]) := hD
      refine W.widen (k := 5) (n := 30) (Nat.le_of_ble_eq_true rfl) (Nat.le_of_ble_eq_true rfl) ?_
      obtain ⟨t_27, ht_27⟩ : ∃ t, t = m_k_X6_tellRule rn := ⟨_, rfl⟩
      rw [lE_eq ht_27] at hT
      refine wq_iW (wc := (wW_k_X6_tellRule ty X q_17 q_24_1 q_24_2 pn rn tn en rf (100) a1 (0) (0) (-1) (0) (0) (0) (0))) (va_runV (As := [.ref q_17]) (rest := []) ⟨hx, hb, hml, hown, hts⟩ (k_X6_tellRule l D ty td mi H.size X pn rn tn en rf q_17 100 a1 0 0 (-1) 0 0 q_24_1 0 q_24_2 0 t_27 ht_27) (cwV 1 hts gv_k_X10_addDisjunction_5 rfl rfl rfl (by decide +kernel) ⟨(Nat.le_of_ble_eq_true rfl), (Nat.le_of_ble_eq_true rfl)⟩) (wm_V (wm_preS hP hD hK hE hS hA [false, true, true, false, false, false, true] rfl) (va_recv (q0 := 1) (ci := 8) hK hP rfl rfl)) rfl rfl hl.1 rfl (lv_room (Nat.le_of_ble_eq_true rfl)) dX10_addDisjunction_27 ⟨(Nat.le_of_ble_eq_true rfl), (Nat.le_of_ble_eq_true rfl)⟩) hS hA hP hD [false, true, true, false, false, false, true] rfl (fun _ _ h => by rcases h with ⟨-, -, rfl⟩ | ⟨-, -, rfl⟩ <;> rfl) (fun r u H locs hw hP hD hS => ?_)
      rcases hw with ⟨c_10, rfl, rfl⟩ | ⟨c_12, rfl, rfl⟩
      · rw [if_pos c_10] at hT
        have hP : va_P D vwCl ((wW_k_X10_addDisjunction ty X pn t_27.2.2 tn en rf hn kn on t_10.2.2 pu gw an ch cg fb mh ml ih lb t_10.1 nn t_10.2.1) ++ [(q_17, .inr (10, [.int 100, .int a1, .int 0, .int 0, .int (-1), .int 0, .int 0, .ref q_24_1, .int 0, .ref q_24_2, .int 0])), (q_24_1, .inl (ty 5, 2, .inr (.inr (.inr (.inr (fun _ => none)))))), (q_24_2, .inl (ty 5, 5, .inr (.inr (.inr (.inr (fun _ => none))))))]) H := hP
        have hD : va_D A ((wW_k_X10_addDisjunction ty X pn t_27.2.2 tn en rf hn kn on t_10.2.2 pu gw an ch cg fb mh ml ih lb t_10.1 nn t_10.2.1) ++ [(q_17, .inr (10, [.int 100, .int a1, .int 0, .int 0, .int (-1), .int 0, .int 0, .ref q_24_1, .int 0, .ref q_24_2, .int 0])), (q_24_1, .inl (ty 5, 2, .inr (.inr (.inr (.inr (fun _ => none)))))), (q_24_2, .inl (ty 5, 5, .inr (.inr (.inr (.inr (fun _ => none))))))]) := hD
        refine W.widen (k := 5) (n := 30) (Nat.le_of_ble_eq_true rfl) (Nat.le_of_ble_eq_true rfl) ?_
        exact END_0 q_17 q_24_1 q_24_2 t_27.2.1 100 a1 0 0 0 (-1) 0 0 0 t_27.2.2 t_10.1 t_10.2.1 t_10.2.2 hT _ _ hP hD hS _ _ dX10_addDisjunction_30
      · rw [if_neg (show ¬ t_27.1 = 0 by rw [c_12]; decide)] at hT
        have hP : va_P D vwCl ((wW_k_X10_addDisjunction ty X pn t_27.2.2 tn en (va_up rf rn.toNatClampNeg (some q_17)) hn kn on t_10.2.2 pu gw an ch cg fb mh ml ih lb t_10.1 nn t_10.2.1) ++ [(q_17, .inr (10, [.int 100, .int a1, .int 0, .int 0, .int (-1), .int 0, .int 0, .ref q_24_1, .int 0, .ref q_24_2, .int 0])), (q_24_1, .inl (ty 5, 2, .inr (.inr (.inr (.inr (fun _ => none)))))), (q_24_2, .inl (ty 5, 5, .inr (.inr (.inr (.inr (fun _ => none))))))]) H := hP
        have hD : va_D A ((wW_k_X10_addDisjunction ty X pn t_27.2.2 tn en (va_up rf rn.toNatClampNeg (some q_17)) hn kn on t_10.2.2 pu gw an ch cg fb mh ml ih lb t_10.1 nn t_10.2.1) ++ [(q_17, .inr (10, [.int 100, .int a1, .int 0, .int 0, .int (-1), .int 0, .int 0, .ref q_24_1, .int 0, .ref q_24_2, .int 0])), (q_24_1, .inl (ty 5, 2, .inr (.inr (.inr (.inr (fun _ => none)))))), (q_24_2, .inl (ty 5, 5, .inr (.inr (.inr (.inr (fun _ => none))))))]) := hD
        refine W.widen (k := 5) (n := 30) (Nat.le_of_ble_eq_true rfl) (Nat.le_of_ble_eq_true rfl) ?_
        exact END_1 q_17 q_24_1 q_24_2 t_27.2.1 100 a1 0 0 0 (-1) 0 0 0 t_27.2.2 t_10.1 t_10.2.1 t_10.2.2 hT _ _ hP hD hS _ _ dX10_addDisjunction_30
theorem dX10_addChoice_0 : decode cX10_addChoice 0 = .ok (.aload_n 0, 1) := by decide +kernel
theorem dX10_addChoice_1 : decode cX10_addChoice 1 = .ok (.iload_n 1, 1) := by decide +kernel
theorem dX10_addChoice_2 : decode cX10_addChoice 2 = .ok (.invokevirtual 83, 3) := by decide +kernel
theorem dX10_addChoice_5 : decode cX10_addChoice 5 = .ok (.iload_n 2, 1) := by decide +kernel
theorem dX10_addChoice_6 : decode cX10_addChoice 6 = .ok (.ifCond .lt 14, 3) := by decide +kernel
theorem dX10_addChoice_9 : decode cX10_addChoice 9 = .ok (.iload_n 3, 1) := by decide +kernel
theorem dX10_addChoice_10 : decode cX10_addChoice 10 = .ok (.iload_n 2, 1) := by decide +kernel
theorem dX10_addChoice_11 : decode cX10_addChoice 11 = .ok (.if_icmp .lt 9, 3) := by decide +kernel
theorem dX10_addChoice_14 : decode cX10_addChoice 14 = .ok (.iload_n 3, 1) := by decide +kernel
theorem dX10_addChoice_15 : decode cX10_addChoice 15 = .ok (.bipush 9, 2) := by decide +kernel
theorem dX10_addChoice_17 : decode cX10_addChoice 17 = .ok (.if_icmp .le 13, 3) := by decide +kernel
theorem dX10_addChoice_20 : decode cX10_addChoice 20 = .ok (.new 60, 3) := by decide +kernel
theorem dX10_addChoice_23 : decode cX10_addChoice 23 = .ok (.dup, 1) := by decide +kernel
theorem dX10_addChoice_24 : decode cX10_addChoice 24 = .ok (.ldc 99, 2) := by decide +kernel
theorem dX10_addChoice_26 : decode cX10_addChoice 26 = .ok (.invokespecial 64, 3) := by decide +kernel
theorem dX10_addChoice_29 : decode cX10_addChoice 29 = .ok (.athrow, 1) := by decide +kernel
theorem dX10_addChoice_30 : decode cX10_addChoice 30 = .ok (.iload 4, 2) := by decide +kernel
theorem dX10_addChoice_32 : decode cX10_addChoice 32 = .ok (.iconst (-1), 1) := by decide +kernel
theorem dX10_addChoice_33 : decode cX10_addChoice 33 = .ok (.if_icmp .eq 26, 3) := by decide +kernel
theorem dX10_addChoice_36 : decode cX10_addChoice 36 = .ok (.aload_n 0, 1) := by decide +kernel
theorem dX10_addChoice_37 : decode cX10_addChoice 37 = .ok (.getfield 12, 3) := by decide +kernel
theorem dX10_addChoice_40 : decode cX10_addChoice 40 = .ok (.iload 4, 2) := by decide +kernel
theorem dX10_addChoice_42 : decode cX10_addChoice 42 = .ok (.invokevirtual 101, 3) := by decide +kernel
theorem dX10_addChoice_45 : decode cX10_addChoice 45 = .ok (.iconst 1, 1) := by decide +kernel
theorem dX10_addChoice_46 : decode cX10_addChoice 46 = .ok (.if_icmp .eq 13, 3) := by decide +kernel
theorem dX10_addChoice_49 : decode cX10_addChoice 49 = .ok (.new 60, 3) := by decide +kernel
theorem dX10_addChoice_52 : decode cX10_addChoice 52 = .ok (.dup, 1) := by decide +kernel
theorem dX10_addChoice_53 : decode cX10_addChoice 53 = .ok (.ldc 104, 2) := by decide +kernel
theorem dX10_addChoice_55 : decode cX10_addChoice 55 = .ok (.invokespecial 64, 3) := by decide +kernel
theorem dX10_addChoice_58 : decode cX10_addChoice 58 = .ok (.athrow, 1) := by decide +kernel
theorem dX10_addChoice_59 : decode cX10_addChoice 59 = .ok (.aload_n 0, 1) := by decide +kernel
theorem dX10_addChoice_60 : decode cX10_addChoice 60 = .ok (.invokevirtual 87, 3) := by decide +kernel
theorem dX10_addChoice_63 : decode cX10_addChoice 63 = .ok (.aload_n 0, 1) := by decide +kernel
theorem dX10_addChoice_64 : decode cX10_addChoice 64 = .ok (.invokevirtual 76, 3) := by decide +kernel
theorem dX10_addChoice_67 : decode cX10_addChoice 67 = .ok (.new 90, 3) := by decide +kernel
theorem dX10_addChoice_70 : decode cX10_addChoice 70 = .ok (.dup, 1) := by decide +kernel
theorem dX10_addChoice_71 : decode cX10_addChoice 71 = .ok (.bipush 99, 2) := by decide +kernel
theorem dX10_addChoice_73 : decode cX10_addChoice 73 = .ok (.iload_n 1, 1) := by decide +kernel
theorem dX10_addChoice_74 : decode cX10_addChoice 74 = .ok (.invokespecial 92, 3) := by decide +kernel
theorem dX10_addChoice_77 : decode cX10_addChoice 77 = .ok (.astore 5, 2) := by decide +kernel
theorem dX10_addChoice_79 : decode cX10_addChoice 79 = .ok (.aload 5, 2) := by decide +kernel
theorem dX10_addChoice_81 : decode cX10_addChoice 81 = .ok (.iload_n 2, 1) := by decide +kernel
theorem dX10_addChoice_82 : decode cX10_addChoice 82 = .ok (.putfield 106, 3) := by decide +kernel
theorem dX10_addChoice_85 : decode cX10_addChoice 85 = .ok (.aload 5, 2) := by decide +kernel
theorem dX10_addChoice_87 : decode cX10_addChoice 87 = .ok (.iload_n 3, 1) := by decide +kernel
theorem dX10_addChoice_88 : decode cX10_addChoice 88 = .ok (.putfield 109, 3) := by decide +kernel
theorem dX10_addChoice_91 : decode cX10_addChoice 91 = .ok (.aload 5, 2) := by decide +kernel
theorem dX10_addChoice_93 : decode cX10_addChoice 93 = .ok (.iload 4, 2) := by decide +kernel
theorem dX10_addChoice_95 : decode cX10_addChoice 95 = .ok (.putfield 112, 3) := by decide +kernel
theorem dX10_addChoice_98 : decode cX10_addChoice 98 = .ok (.aload_n 0, 1) := by decide +kernel
theorem dX10_addChoice_99 : decode cX10_addChoice 99 = .ok (.getfield 12, 3) := by decide +kernel
theorem dX10_addChoice_102 : decode cX10_addChoice 102 = .ok (.aload 5, 2) := by decide +kernel
theorem dX10_addChoice_104 : decode cX10_addChoice 104 = .ok (.invokevirtual 95, 3) := by decide +kernel
theorem dX10_addChoice_107 : decode cX10_addChoice 107 = .ok (.ireturn, 1) := by decide +kernel
def wW_k_X10_addChoice (ty : Nat → ClassId) (X : Nat → Nat) (z9_0 : Int32) (z9_1 : Int32) (z9_2 : Int32) (z9_3 : Int32) (z9_4 : Nat → Int32) (z9_5 : Nat → Option Nat) (z9_6 : Int32) (z9_7 : Int32) (z9_8 : Int32) (z9_9 : Int32) (z9_10 : Int32) (z9_11 : Int32) (z9_12 : Int32) (z9_13 : Int32) (z9_14 : Int32) (z9_15 : Int32) (z9_16 : Int32) (z9_17 : Int32) (z9_18 : Int32) (z9_19 : Int32) (z9_20 : Int32) (z9_21 : Int32) (z9_22 : Int32) : va_W := [((X 0), .inr (12, [.ref (X 1), .ref (X 8), .ref (X 20), .ref (X 39), .ref (X 41), .ref (X 43), .ref (X 45)])), ((X 1), .inr (8, [.ref (X 2), .int z9_0, .ref (X 3), .int z9_1, .ref (X 4), .ref (X 5), .int z9_2, .ref (X 6), .ref (X 7), .int z9_3])), ((X 2), .inl (ty 0, 6, .inl z9_4)), ((X 3), .inl (ty 4, 20, .inr (.inr (.inr (.inr z9_5))))), ((X 8), .inr (5, [.ref (X 1), .ref (X 9), .ref (X 10), .ref (X 12), .ref (X 14), .int z9_6, .ref (X 15), .ref (X 16), .ref (X 17), .int z9_7, .ref (X 18), .ref (X 19), .int z9_8, .int z9_9, .int z9_10, .int z9_11])), ((X 20), .inr (11, [.ref (X 1), .ref (X 8), .ref (X 21), .ref (X 28), .ref (X 35), .int z9_12, .ref (X 36), .ref (X 37), .ref (X 38), .int z9_13, .int z9_14, .int z9_15, .int z9_16, .int z9_17, .int z9_18, .int z9_19, .int z9_20])), ((X 45), .inr (2, [.ref (X 46), .ref (X 47), .int z9_21, .int z9_22]))]
def vs_k_X10_addChoice : List Cond := .code yX10_addChoice cX10_addChoice 6 (some .int) :: ([.methodLink RX10 83 yX10_checkPart, .instanceMethod yX10_checkPart, .selects RX10 yX10_checkPart yX10_checkPart, .initialized RX10, .classLink RX10 60 "java/lang/IllegalArgumentException", .initialized "java/lang/IllegalArgumentException", .methodLink RX10 87 yX10_checkRoomForRule, .instanceMethod yX10_checkRoomForRule, .selects RX10 yX10_checkRoomForRule yX10_checkRoomForRule, .methodLink RX10 76 yX10_forgetGrounding, .instanceMethod yX10_forgetGrounding, .selects RX10 yX10_forgetGrounding yX10_forgetGrounding, .classLink RX10 90 RX8, .instantiable RX8 11, .initialized RX8, .methodLink RX10 92 yX8_init, .instanceMethod yX8_init, .fieldLink RX10 12 "AnswerFold" "program" "LAnswerFold$Program;", .methodLink RX10 95 yX6_tellRule, .instanceMethod yX6_tellRule, .selects RX6 yX6_tellRule yX6_tellRule, .initialized RX6, .methodLink RX10 101 yX6_placesOf, .instanceMethod yX6_placesOf, .selects RX6 yX6_placesOf yX6_placesOf] ++ (vs_k_X10_checkPart ++ ((vx_atS RX10 64 "java/lang/IllegalArgumentException" ["java/lang/RuntimeException", "java/lang/Exception"]).filter goodWord ++ (vs_k_X10_checkRoomForRule ++ (vs_k_X10_forgetGrounding ++ (u_ws RX8 TX8 11 ++ (vs_k_X8_init_99 ++ (u_ws RX10 TX10 7 ++ (vs_k_X6_tellRule ++ (vs_k_X6_placesOf))))))))))
theorem iv_k_X10_addChoice_X10 : ∀ w ∈ u_ws RX10 TX10 7, w ∈ vs_k_X10_addChoice := (fun _ h => List.mem_cons_of_mem _ (List.mem_append_right _ (List.mem_append_right _ (List.mem_append_right _ (List.mem_append_right _ (List.mem_append_right _ (List.mem_append_right _ (List.mem_append_right _ (List.mem_append_left _ h)))))))))
theorem iv_k_X10_addChoice_X8 : ∀ w ∈ u_ws RX8 TX8 11, w ∈ vs_k_X10_addChoice := (fun _ h => List.mem_cons_of_mem _ (List.mem_append_right _ (List.mem_append_right _ (List.mem_append_right _ (List.mem_append_right _ (List.mem_append_right _ (List.mem_append_left _ h)))))))
set_option maxRecDepth 20000 in
theorem gv_k_X10_addChoice_0 : GoodIn vs_k_X10_addChoice (wsV RX10 83 RX10 yX10_checkPart vs_k_X10_checkPart) := goodIn_app (goodIn_sub (by decide +kernel) (by decide +kernel)) (goodIn_sub (fun _ h => List.mem_cons_of_mem _ (List.mem_append_right _ (List.mem_append_left _ h))) (by decide +kernel))
set_option maxRecDepth 20000 in
theorem gv_k_X10_addChoice_1 : GoodIn vs_k_X10_addChoice (wsV RX10 87 RX10 yX10_checkRoomForRule vs_k_X10_checkRoomForRule) := goodIn_app (goodIn_sub (by decide +kernel) (by decide +kernel)) (goodIn_sub (fun _ h => List.mem_cons_of_mem _ (List.mem_append_right _ (List.mem_append_right _ (List.mem_append_right _ (List.mem_append_left _ h))))) (by decide +kernel))
set_option maxRecDepth 20000 in
theorem gv_k_X10_addChoice_2 : GoodIn vs_k_X10_addChoice (wsV RX10 76 RX10 yX10_forgetGrounding vs_k_X10_forgetGrounding) := goodIn_app (goodIn_sub (by decide +kernel) (by decide +kernel)) (goodIn_sub (fun _ h => List.mem_cons_of_mem _ (List.mem_append_right _ (List.mem_append_right _ (List.mem_append_right _ (List.mem_append_right _ (List.mem_append_left _ h)))))) (by decide +kernel))
set_option maxRecDepth 20000 in
theorem gv_k_X10_addChoice_3 : GoodIn vs_k_X10_addChoice (vs_k_X8_init_99) := (goodIn_sub (fun _ h => List.mem_cons_of_mem _ (List.mem_append_right _ (List.mem_append_right _ (List.mem_append_right _ (List.mem_append_right _ (List.mem_append_right _ (List.mem_append_right _ (List.mem_append_left _ h)))))))) (by decide +kernel))
set_option maxRecDepth 20000 in
theorem gv_k_X10_addChoice_4 : GoodIn vs_k_X10_addChoice (vs_k_X8_init_99) := (goodIn_sub (fun _ h => List.mem_cons_of_mem _ (List.mem_append_right _ (List.mem_append_right _ (List.mem_append_right _ (List.mem_append_right _ (List.mem_append_right _ (List.mem_append_right _ (List.mem_append_left _ h)))))))) (by decide +kernel))
set_option maxRecDepth 20000 in
theorem gv_k_X10_addChoice_5 : GoodIn vs_k_X10_addChoice (wsV RX10 95 RX6 yX6_tellRule vs_k_X6_tellRule) := goodIn_app (goodIn_sub (by decide +kernel) (by decide +kernel)) (goodIn_sub (fun _ h => List.mem_cons_of_mem _ (List.mem_append_right _ (List.mem_append_right _ (List.mem_append_right _ (List.mem_append_right _ (List.mem_append_right _ (List.mem_append_right _ (List.mem_append_right _ (List.mem_append_right _ (List.mem_append_left _ h)))))))))) (by decide +kernel))
set_option maxRecDepth 20000 in
theorem gv_k_X10_addChoice_6 : GoodIn vs_k_X10_addChoice (wsV RX10 101 RX6 yX6_placesOf vs_k_X6_placesOf) := goodIn_app (goodIn_sub (by decide +kernel) (by decide +kernel)) (goodIn_sub (fun _ h => List.mem_cons_of_mem _ (List.mem_append_right _ (List.mem_append_right _ (List.mem_append_right _ (List.mem_append_right _ (List.mem_append_right _ (List.mem_append_right _ (List.mem_append_right _ (List.mem_append_right _ (List.mem_append_right _ (h))))))))))) (by decide +kernel))
theorem ix_k_X10_addChoice_64 : ∀ w ∈ (vx_atS RX10 64 "java/lang/IllegalArgumentException" ["java/lang/RuntimeException", "java/lang/Exception"]).filter goodWord, w ∈ vs_k_X10_addChoice := (fun _ h => List.mem_cons_of_mem _ (List.mem_append_right _ (List.mem_append_right _ (List.mem_append_left _ h))))
set_option maxHeartbeats 4000000 in
set_option maxRecDepth 100000 in
theorem k_X10_addChoice (l : Launch) (hl9 : l.stackTraces = false) (D : va_G) (ty : Nat → ClassId) (td mi sz : Nat) (X : Nat → Nat) (pn : Int32) (rn : Int32) (tn : Int32) (en : Int32) (pl : Nat → Int32) (rf : Nat → Option Nat) (hn : Int32) (kn : Int32) (on : Int32) (cu : Int32) (pu : Int32) (gw : Int32) (an : Int32) (ch : Int32) (cg : Int32) (fb : Int32) (mh : Int32) (ml : Int32) (ih : Int32) (lb : Int32) (ic : Int32) (nn : Int32) (kp : Int32) (a1 : Int32) (a2 : Int32) (a3 : Int32) (a4 : Int32) (TT : r_k_X10_addChoice) (hTT : TT = m_k_X10_addChoice pn rn pl cu ic kp a1 a2 a3 a4) : vx_Met l yX10_addChoice vs_k_X10_addChoice { frames := 7, cells := 5, slots := 30, locals := 103 } (va_Pc [.ref (X 0), .int a1, .int a2, .int a3, .int a4] (wq_P D ty td mi (wW_k_X10_addChoice ty X pn rn tn en pl rf hn kn on cu pu gw an ch cg fb mh ml ih lb ic nn kp) sz)) (va_Qi (fun (r : Int32) (u : va_W) => (∃ (q_67 : Nat) (q_74_1 : Nat) (q_74_2 : Nat), TT.1 = 0 ∧ TT.2.1 = 0 ∧ r = TT.2.2.1 ∧ (u = ((wW_k_X10_addChoice ty X pn TT.2.2.2.2.2.2.2.2.2.2.2.2.1 tn en pl rf hn kn on TT.2.2.2.2.2.2.2.2.2.2.2.2.2.2.2 pu gw an ch cg fb mh ml ih lb TT.2.2.2.2.2.2.2.2.2.2.2.2.2.1 nn TT.2.2.2.2.2.2.2.2.2.2.2.2.2.2.1) ++ [(q_67, .inr (10, [.int TT.2.2.2.1, .int TT.2.2.2.2.1, .int TT.2.2.2.2.2.2.1, .int TT.2.2.2.2.2.2.2.1, .int TT.2.2.2.2.2.2.2.2.1, .int TT.2.2.2.2.2.2.2.2.2.1, .int TT.2.2.2.2.2.2.2.2.2.2.1, .ref q_74_1, .int TT.2.2.2.2.2.2.2.2.2.2.2.1, .ref q_74_2, .int TT.2.2.2.2.2.1])), (q_74_1, .inl (ty 5, 2, .inr (.inr (.inr (.inr (fun _ => none)))))), (q_74_2, .inl (ty 5, 5, .inr (.inr (.inr (.inr (fun _ => none))))))]))) ∨ (∃ (q_67 : Nat) (q_74_1 : Nat) (q_74_2 : Nat), TT.1 = 0 ∧ TT.2.1 = 1 ∧ r = TT.2.2.1 ∧ (u = ((wW_k_X10_addChoice ty X pn TT.2.2.2.2.2.2.2.2.2.2.2.2.1 tn en pl (va_up rf rn.toNatClampNeg (some q_67)) hn kn on TT.2.2.2.2.2.2.2.2.2.2.2.2.2.2.2 pu gw an ch cg fb mh ml ih lb TT.2.2.2.2.2.2.2.2.2.2.2.2.2.1 nn TT.2.2.2.2.2.2.2.2.2.2.2.2.2.2.1) ++ [(q_67, .inr (10, [.int TT.2.2.2.1, .int TT.2.2.2.2.1, .int TT.2.2.2.2.2.2.1, .int TT.2.2.2.2.2.2.2.1, .int TT.2.2.2.2.2.2.2.2.1, .int TT.2.2.2.2.2.2.2.2.2.1, .int TT.2.2.2.2.2.2.2.2.2.2.1, .ref q_74_1, .int TT.2.2.2.2.2.2.2.2.2.2.2.1, .ref q_74_2, .int TT.2.2.2.2.2.1])), (q_74_1, .inl (ty 5, 2, .inr (.inr (.inr (.inr (fun _ => none)))))), (q_74_2, .inl (ty 5, 5, .inr (.inr (.inr (.inr (fun _ => none))))))])))) (wq_B D (va_A (wW_k_X10_addChoice ty X pn rn tn en pl rf hn kn on cu pu gw an ch cg fb mh ml ih lb ic nn kp) sz)) (va_A (wW_k_X10_addChoice ty X pn rn tn en pl rf hn kn on cu pu gw an ch cg fb mh ml ih lb ic nn kp) sz)) (vx_X (fun u : String × va_W => (TT.1 = 2 ∧ u = ("java/lang/IllegalArgumentException", (wW_k_X10_addChoice ty X pn TT.2.2.2.2.2.2.2.2.2.2.2.2.1 tn en pl rf hn kn on TT.2.2.2.2.2.2.2.2.2.2.2.2.2.2.2 pu gw an ch cg fb mh ml ih lb TT.2.2.2.2.2.2.2.2.2.2.2.2.2.1 nn TT.2.2.2.2.2.2.2.2.2.2.2.2.2.2.1))) ∨ (TT.1 = 3 ∧ u = ("java/lang/IllegalStateException", (wW_k_X10_addChoice ty X pn TT.2.2.2.2.2.2.2.2.2.2.2.2.1 tn en pl rf hn kn on TT.2.2.2.2.2.2.2.2.2.2.2.2.2.2.2 pu gw an ch cg fb mh ml ih lb TT.2.2.2.2.2.2.2.2.2.2.2.2.2.1 nn TT.2.2.2.2.2.2.2.2.2.2.2.2.2.2.1)))) (wq_BX D (va_A (wW_k_X10_addChoice ty X pn rn tn en pl rf hn kn on cu pu gw an ch cg fb mh ml ih lb ic nn kp) sz)) (va_A (wW_k_X10_addChoice ty X pn rn tn en pl rf hn kn on cu pu gw an ch cg fb mh ml ih lb ic nn kp) sz)) 5 30 (va_A (wW_k_X10_addChoice ty X pn rn tn en pl rf hn kn on cu pu gw an ch cg fb mh ml ih lb ic nn kp) sz) := by
  refine vx_ofW (cc := cX10_addChoice) (maxL := 6) (ret := (some .int)) (by decide) rfl ?_
  intro p e s m args below meth c s₁ B hml hEx hv
  obtain ⟨rfl, hsz, hP, hK, hD0, hE⟩ := hv
  have hx := B.exec
  have hb := B.bytes
  have hr := B.returns
  have hts := atoms_spec (ws := vs_k_X10_addChoice) B.pre
  have hown : s.vm.findClass RX10 = some m.cls := findClass_of_methodNamed B.named
  have hlocks := B.notSynchronized
  subst hsz
  have hD := hD0.self (sz := s.heap.size)
  generalize hAe : va_A (wW_k_X10_addChoice ty X pn rn tn en pl rf hn kn on cu pu gw an ch cg fb mh ml ih lb ic nn kp) s.heap.size = A at hD hE ⊢
  have hA : ∀ q : Nat, s.heap.size ≤ q → A q := fun q h => by rw [← hAe]; exact Or.inr h
  have hS : va_S A s.heap s.heap [] := va_S.rf
  have hP : va_P D vwCl (wW_k_X10_addChoice ty X pn rn tn en pl rf hn kn on cu pu gw an ch cg fb mh ml ih lb ic nn kp) s.heap := hP
  have hl := lv_entry ([.ref (X 0), .int a1, .int a2, .int a3, .int a4]) (n := 6) (Nat.le_of_ble_eq_true rfl)
  rw [lg_entry_eq]
  generalize (lg_sl ([.ref (X 0), .int a1, .int a2, .int a3, .int a4]) ++ List.replicate (6 - (lg_sl ([.ref (X 0), .int a1, .int a2, .int a3, .int a4])).length) Slot.unset).toArray = ls at hl ⊢
  have hl : lv_has ls 6 [(0, .ref (X 0)), (1, .int a1), (2, .int a2), (3, .int a3), (4, .int a4)] := hl
  have END_0 : ∀ (q_67 : Nat) (q_74_1 : Nat) (q_74_2 : Nat) (r : Int32) (w9_0 : Int32) (w9_1 : Int32) (w9_2 : Int32) (w9_3 : Int32) (w9_4 : Int32) (w9_5 : Int32) (w9_6 : Int32) (w9_7 : Int32) (w9_8 : Int32) (w9_9 : Int32) (w9_10 : Int32) (w9_11 : Int32) (w9_12 : Int32), TT = (0, 0, r, w9_0, w9_1, w9_2, w9_3, w9_4, w9_5, w9_6, w9_7, w9_8, w9_9, w9_10, w9_11, w9_12) → ∀ (H : Heap) (locs : List Loc), va_P D vwCl ((wW_k_X10_addChoice ty X pn w9_9 tn en pl rf hn kn on w9_12 pu gw an ch cg fb mh ml ih lb w9_10 nn w9_11) ++ [(q_67, .inr (10, [.int w9_0, .int w9_1, .int w9_3, .int w9_4, .int w9_5, .int w9_6, .int w9_7, .ref q_74_1, .int w9_8, .ref q_74_2, .int w9_2])), (q_74_1, .inl (ty 5, 2, .inr (.inr (.inr (.inr (fun _ => none)))))), (q_74_2, .inl (ty 5, 5, .inr (.inr (.inr (.inr (fun _ => none))))))]) H → va_D A ((wW_k_X10_addChoice ty X pn w9_9 tn en pl rf hn kn on w9_12 pu gw an ch cg fb mh ml ih lb w9_10 nn w9_11) ++ [(q_67, .inr (10, [.int w9_0, .int w9_1, .int w9_3, .int w9_4, .int w9_5, .int w9_6, .int w9_7, .ref q_74_1, .int w9_8, .ref q_74_2, .int w9_2])), (q_74_1, .inl (ty 5, 2, .inr (.inr (.inr (.inr (fun _ => none)))))), (q_74_2, .inl (ty 5, 5, .inr (.inr (.inr (.inr (fun _ => none))))))]) → va_S A s.heap H locs → ∀ (ls : Array Slot) (pc : Nat), decode cX10_addChoice pc = .ok (.ireturn, 1) → W p l e (headSpec vs_k_X10_addChoice { frames := 7, cells := 5, slots := 30, locals := 103 }).room s m ([.ref (X 0), .int a1, .int a2, .int a3, .int a4] : List Value).toArray below meth c H locs 5 30 (vx_MQ below (va_Qi (fun (r : Int32) (u : va_W) => (∃ (q_67 : Nat) (q_74_1 : Nat) (q_74_2 : Nat), TT.1 = 0 ∧ TT.2.1 = 0 ∧ r = TT.2.2.1 ∧ (u = ((wW_k_X10_addChoice ty X pn TT.2.2.2.2.2.2.2.2.2.2.2.2.1 tn en pl rf hn kn on TT.2.2.2.2.2.2.2.2.2.2.2.2.2.2.2 pu gw an ch cg fb mh ml ih lb TT.2.2.2.2.2.2.2.2.2.2.2.2.2.1 nn TT.2.2.2.2.2.2.2.2.2.2.2.2.2.2.1) ++ [(q_67, .inr (10, [.int TT.2.2.2.1, .int TT.2.2.2.2.1, .int TT.2.2.2.2.2.2.1, .int TT.2.2.2.2.2.2.2.1, .int TT.2.2.2.2.2.2.2.2.1, .int TT.2.2.2.2.2.2.2.2.2.1, .int TT.2.2.2.2.2.2.2.2.2.2.1, .ref q_74_1, .int TT.2.2.2.2.2.2.2.2.2.2.2.1, .ref q_74_2, .int TT.2.2.2.2.2.1])), (q_74_1, .inl (ty 5, 2, .inr (.inr (.inr (.inr (fun _ => none)))))), (q_74_2, .inl (ty 5, 5, .inr (.inr (.inr (.inr (fun _ => none))))))]))) ∨ (∃ (q_67 : Nat) (q_74_1 : Nat) (q_74_2 : Nat), TT.1 = 0 ∧ TT.2.1 = 1 ∧ r = TT.2.2.1 ∧ (u = ((wW_k_X10_addChoice ty X pn TT.2.2.2.2.2.2.2.2.2.2.2.2.1 tn en pl (va_up rf rn.toNatClampNeg (some q_67)) hn kn on TT.2.2.2.2.2.2.2.2.2.2.2.2.2.2.2 pu gw an ch cg fb mh ml ih lb TT.2.2.2.2.2.2.2.2.2.2.2.2.2.1 nn TT.2.2.2.2.2.2.2.2.2.2.2.2.2.2.1) ++ [(q_67, .inr (10, [.int TT.2.2.2.1, .int TT.2.2.2.2.1, .int TT.2.2.2.2.2.2.1, .int TT.2.2.2.2.2.2.2.1, .int TT.2.2.2.2.2.2.2.2.1, .int TT.2.2.2.2.2.2.2.2.2.1, .int TT.2.2.2.2.2.2.2.2.2.2.1, .ref q_74_1, .int TT.2.2.2.2.2.2.2.2.2.2.2.1, .ref q_74_2, .int TT.2.2.2.2.2.1])), (q_74_1, .inl (ty 5, 2, .inr (.inr (.inr (.inr (fun _ => none)))))), (q_74_2, .inl (ty 5, 5, .inr (.inr (.inr (.inr (fun _ => none))))))])))) (wq_B D A) A) (vx_X (fun u : String × va_W => (TT.1 = 2 ∧ u = ("java/lang/IllegalArgumentException", (wW_k_X10_addChoice ty X pn TT.2.2.2.2.2.2.2.2.2.2.2.2.1 tn en pl rf hn kn on TT.2.2.2.2.2.2.2.2.2.2.2.2.2.2.2 pu gw an ch cg fb mh ml ih lb TT.2.2.2.2.2.2.2.2.2.2.2.2.2.1 nn TT.2.2.2.2.2.2.2.2.2.2.2.2.2.2.1))) ∨ (TT.1 = 3 ∧ u = ("java/lang/IllegalStateException", (wW_k_X10_addChoice ty X pn TT.2.2.2.2.2.2.2.2.2.2.2.2.1 tn en pl rf hn kn on TT.2.2.2.2.2.2.2.2.2.2.2.2.2.2.2 pu gw an ch cg fb mh ml ih lb TT.2.2.2.2.2.2.2.2.2.2.2.2.2.1 nn TT.2.2.2.2.2.2.2.2.2.2.2.2.2.2.1)))) (wq_BX D A) A) ([.ref (X 0), .int a1, .int a2, .int a3, .int a4] : List Value).toArray s 5 30 A) (F0 m pc ls [.int r]) := by
    intro q_67 q_74_1 q_74_2 r w9_0 w9_1 w9_2 w9_3 w9_4 w9_5 w9_6 w9_7 w9_8 w9_9 w9_10 w9_11 w9_12 hT H locs hP hD hS ls pc hd
    have hM : TT = (0, 0, r, w9_0, w9_1, w9_2, w9_3, w9_4, w9_5, w9_6, w9_7, w9_8, w9_9, w9_10, w9_11, w9_12) := hT
    refine vx_ret ?_
    exact W.iret (v := r) hx hb hr (fun t ht hW => ⟨⟨r, ((wW_k_X10_addChoice ty X pn w9_9 tn en pl rf hn kn on w9_12 pu gw an ch cg fb mh ml ih lb w9_10 nn w9_11) ++ [(q_67, .inr (10, [.int w9_0, .int w9_1, .int w9_3, .int w9_4, .int w9_5, .int w9_6, .int w9_7, .ref q_74_1, .int w9_8, .ref q_74_2, .int w9_2])), (q_74_1, .inl (ty 5, 2, .inr (.inr (.inr (.inr (fun _ => none)))))), (q_74_2, .inl (ty 5, 5, .inr (.inr (.inr (.inr (fun _ => none))))))]), rfl, (Or.inl ⟨q_67, q_74_1, q_74_2, (by rw [hM]), (by rw [hM]), (by rw [hM]), (by rw [hM])⟩), wq_B.of ht hP hD⟩, hS.F ht⟩) hS.2.2 hd
  have END_1 : ∀ (q_67 : Nat) (q_74_1 : Nat) (q_74_2 : Nat) (r : Int32) (w9_0 : Int32) (w9_1 : Int32) (w9_2 : Int32) (w9_3 : Int32) (w9_4 : Int32) (w9_5 : Int32) (w9_6 : Int32) (w9_7 : Int32) (w9_8 : Int32) (w9_9 : Int32) (w9_10 : Int32) (w9_11 : Int32) (w9_12 : Int32), TT = (0, 1, r, w9_0, w9_1, w9_2, w9_3, w9_4, w9_5, w9_6, w9_7, w9_8, w9_9, w9_10, w9_11, w9_12) → ∀ (H : Heap) (locs : List Loc), va_P D vwCl ((wW_k_X10_addChoice ty X pn w9_9 tn en pl (va_up rf rn.toNatClampNeg (some q_67)) hn kn on w9_12 pu gw an ch cg fb mh ml ih lb w9_10 nn w9_11) ++ [(q_67, .inr (10, [.int w9_0, .int w9_1, .int w9_3, .int w9_4, .int w9_5, .int w9_6, .int w9_7, .ref q_74_1, .int w9_8, .ref q_74_2, .int w9_2])), (q_74_1, .inl (ty 5, 2, .inr (.inr (.inr (.inr (fun _ => none)))))), (q_74_2, .inl (ty 5, 5, .inr (.inr (.inr (.inr (fun _ => none))))))]) H → va_D A ((wW_k_X10_addChoice ty X pn w9_9 tn en pl (va_up rf rn.toNatClampNeg (some q_67)) hn kn on w9_12 pu gw an ch cg fb mh ml ih lb w9_10 nn w9_11) ++ [(q_67, .inr (10, [.int w9_0, .int w9_1, .int w9_3, .int w9_4, .int w9_5, .int w9_6, .int w9_7, .ref q_74_1, .int w9_8, .ref q_74_2, .int w9_2])), (q_74_1, .inl (ty 5, 2, .inr (.inr (.inr (.inr (fun _ => none)))))), (q_74_2, .inl (ty 5, 5, .inr (.inr (.inr (.inr (fun _ => none))))))]) → va_S A s.heap H locs → ∀ (ls : Array Slot) (pc : Nat), decode cX10_addChoice pc = .ok (.ireturn, 1) → W p l e (headSpec vs_k_X10_addChoice { frames := 7, cells := 5, slots := 30, locals := 103 }).room s m ([.ref (X 0), .int a1, .int a2, .int a3, .int a4] : List Value).toArray below meth c H locs 5 30 (vx_MQ below (va_Qi (fun (r : Int32) (u : va_W) => (∃ (q_67 : Nat) (q_74_1 : Nat) (q_74_2 : Nat), TT.1 = 0 ∧ TT.2.1 = 0 ∧ r = TT.2.2.1 ∧ (u = ((wW_k_X10_addChoice ty X pn TT.2.2.2.2.2.2.2.2.2.2.2.2.1 tn en pl rf hn kn on TT.2.2.2.2.2.2.2.2.2.2.2.2.2.2.2 pu gw an ch cg fb mh ml ih lb TT.2.2.2.2.2.2.2.2.2.2.2.2.2.1 nn TT.2.2.2.2.2.2.2.2.2.2.2.2.2.2.1) ++ [(q_67, .inr (10, [.int TT.2.2.2.1, .int TT.2.2.2.2.1, .int TT.2.2.2.2.2.2.1, .int TT.2.2.2.2.2.2.2.1, .int TT.2.2.2.2.2.2.2.2.1, .int TT.2.2.2.2.2.2.2.2.2.1, .int TT.2.2.2.2.2.2.2.2.2.2.1, .ref q_74_1, .int TT.2.2.2.2.2.2.2.2.2.2.2.1, .ref q_74_2, .int TT.2.2.2.2.2.1])), (q_74_1, .inl (ty 5, 2, .inr (.inr (.inr (.inr (fun _ => none)))))), (q_74_2, .inl (ty 5, 5, .inr (.inr (.inr (.inr (fun _ => none))))))]))) ∨ (∃ (q_67 : Nat) (q_74_1 : Nat) (q_74_2 : Nat), TT.1 = 0 ∧ TT.2.1 = 1 ∧ r = TT.2.2.1 ∧ (u = ((wW_k_X10_addChoice ty X pn TT.2.2.2.2.2.2.2.2.2.2.2.2.1 tn en pl (va_up rf rn.toNatClampNeg (some q_67)) hn kn on TT.2.2.2.2.2.2.2.2.2.2.2.2.2.2.2 pu gw an ch cg fb mh ml ih lb TT.2.2.2.2.2.2.2.2.2.2.2.2.2.1 nn TT.2.2.2.2.2.2.2.2.2.2.2.2.2.2.1) ++ [(q_67, .inr (10, [.int TT.2.2.2.1, .int TT.2.2.2.2.1, .int TT.2.2.2.2.2.2.1, .int TT.2.2.2.2.2.2.2.1, .int TT.2.2.2.2.2.2.2.2.1, .int TT.2.2.2.2.2.2.2.2.2.1, .int TT.2.2.2.2.2.2.2.2.2.2.1, .ref q_74_1, .int TT.2.2.2.2.2.2.2.2.2.2.2.1, .ref q_74_2, .int TT.2.2.2.2.2.1])), (q_74_1, .inl (ty 5, 2, .inr (.inr (.inr (.inr (fun _ => none)))))), (q_74_2, .inl (ty 5, 5, .inr (.inr (.inr (.inr (fun _ => none))))))])))) (wq_B D A) A) (vx_X (fun u : String × va_W => (TT.1 = 2 ∧ u = ("java/lang/IllegalArgumentException", (wW_k_X10_addChoice ty X pn TT.2.2.2.2.2.2.2.2.2.2.2.2.1 tn en pl rf hn kn on TT.2.2.2.2.2.2.2.2.2.2.2.2.2.2.2 pu gw an ch cg fb mh ml ih lb TT.2.2.2.2.2.2.2.2.2.2.2.2.2.1 nn TT.2.2.2.2.2.2.2.2.2.2.2.2.2.2.1))) ∨ (TT.1 = 3 ∧ u = ("java/lang/IllegalStateException", (wW_k_X10_addChoice ty X pn TT.2.2.2.2.2.2.2.2.2.2.2.2.1 tn en pl rf hn kn on TT.2.2.2.2.2.2.2.2.2.2.2.2.2.2.2 pu gw an ch cg fb mh ml ih lb TT.2.2.2.2.2.2.2.2.2.2.2.2.2.1 nn TT.2.2.2.2.2.2.2.2.2.2.2.2.2.2.1)))) (wq_BX D A) A) ([.ref (X 0), .int a1, .int a2, .int a3, .int a4] : List Value).toArray s 5 30 A) (F0 m pc ls [.int r]) := by
    intro q_67 q_74_1 q_74_2 r w9_0 w9_1 w9_2 w9_3 w9_4 w9_5 w9_6 w9_7 w9_8 w9_9 w9_10 w9_11 w9_12 hT H locs hP hD hS ls pc hd
    have hM : TT = (0, 1, r, w9_0, w9_1, w9_2, w9_3, w9_4, w9_5, w9_6, w9_7, w9_8, w9_9, w9_10, w9_11, w9_12) := hT
    refine vx_ret ?_
    exact W.iret (v := r) hx hb hr (fun t ht hW => ⟨⟨r, ((wW_k_X10_addChoice ty X pn w9_9 tn en pl (va_up rf rn.toNatClampNeg (some q_67)) hn kn on w9_12 pu gw an ch cg fb mh ml ih lb w9_10 nn w9_11) ++ [(q_67, .inr (10, [.int w9_0, .int w9_1, .int w9_3, .int w9_4, .int w9_5, .int w9_6, .int w9_7, .ref q_74_1, .int w9_8, .ref q_74_2, .int w9_2])), (q_74_1, .inl (ty 5, 2, .inr (.inr (.inr (.inr (fun _ => none)))))), (q_74_2, .inl (ty 5, 5, .inr (.inr (.inr (.inr (fun _ => none))))))]), rfl, (Or.inr ⟨q_67, q_74_1, q_74_2, (by rw [hM]), (by rw [hM]), (by rw [hM]), (by rw [hM])⟩), wq_B.of ht hP hD⟩, hS.F ht⟩) hS.2.2 hd
  have hT := hTT
  rw [m_k_X10_addChoice] at hT
  refine lv_aload_n hx hb dX10_addChoice_0 rfl (lv_at hl 0 rfl) ?_
  refine lv_iload_n hx hb dX10_addChoice_1 rfl (lv_at hl 1 rfl) ?_
  obtain ⟨t_2, ht_2⟩ : ∃ t, t = m_k_X10_checkPart a1 := ⟨_, rfl⟩
  rw [lE_eq ht_2] at hT
  refine wq_xvW (wc := []) (vx_runV (As := [.int a1]) (rest := []) ⟨hx, hb, hml, hown, hts⟩ (k_X10_checkPart l hl9 D ty td mi s.heap.size X a1 t_2 ht_2) (cwV 1 hts gv_k_X10_addChoice_0 rfl rfl rfl (by decide +kernel) ⟨(Nat.le_of_ble_eq_true rfl), (Nat.le_of_ble_eq_true rfl)⟩) (wm_V (wm_preS hP hD hK hE hS hA [] rfl) (va_recv (q0 := 0) (ci := 12) hK hP rfl rfl)) rfl rfl hl.1 rfl (lv_room (Nat.le_of_ble_eq_true rfl)) dX10_addChoice_2 ⟨(Nat.le_of_ble_eq_true rfl), (Nat.le_of_ble_eq_true rfl)⟩) hS hA hP hD [] rfl (fun _ h => by rcases h with ⟨-, rfl⟩; rfl) (fun _ _ h => by rcases h with ⟨-, h⟩ <;> (cases h; rfl)) (fun E9 u H locs q9 ce hw hP hD hS hce hcv hcl => ?_) (fun u H locs hw hP hD hS => ?_)
  · obtain ⟨c_1, hEq⟩ := hw
    cases hEq
    rw [if_neg (show ¬ t_2 = 0 by rw [c_1]; decide)] at hT
    have hP : va_P D vwCl (wW_k_X10_addChoice ty X pn rn tn en pl rf hn kn on cu pu gw an ch cg fb mh ml ih lb ic nn kp) H := hP
    have hD : va_D A (wW_k_X10_addChoice ty X pn rn tn en pl rf hn kn on cu pu gw an ch cg fb mh ml ih lb ic nn kp) := hD
    refine vx_widen (k := 5) (n := 30) (Nat.le_of_ble_eq_true rfl) (Nat.le_of_ble_eq_true rfl) ?_
    exact vx_out (E := "java/lang/IllegalArgumentException") (fun x hx => (hEx x hx).elim) hlocks hce hcv hcl (fun t ht ha => wq_thrW0 (W := (wW_k_X10_addChoice ty X pn rn tn en pl rf hn kn on cu pu gw an ch cg fb mh ml ih lb ic nn kp)) hS hP hD (by exact (Or.inl ⟨(by rw [hT]), (by first | rw [hT] | rfl)⟩)) ht) hS.2.2 (Nat.le_refl _) (Nat.le_refl _)
  · obtain ⟨c_2, rfl⟩ := hw
    rw [if_pos c_2] at hT
    have hP : va_P D vwCl (wW_k_X10_addChoice ty X pn rn tn en pl rf hn kn on cu pu gw an ch cg fb mh ml ih lb ic nn kp) H := hP
    have hD : va_D A (wW_k_X10_addChoice ty X pn rn tn en pl rf hn kn on cu pu gw an ch cg fb mh ml ih lb ic nn kp) := hD
    refine W.widen (k := 1) (n := 6) (Nat.le_of_ble_eq_true rfl) (Nat.le_of_ble_eq_true rfl) ?_
    refine lv_iload_n hx hb dX10_addChoice_5 rfl (lv_at hl 2 rfl) ?_
    have J_20 : ∀ (_ : Unit), TT = m_k_X10_addChoice_20 rn cu ic kp → ∀ (H : Heap) (locs : List Loc), va_P D vwCl (wW_k_X10_addChoice ty X pn rn tn en pl rf hn kn on cu pu gw an ch cg fb mh ml ih lb ic nn kp) H → va_D A (wW_k_X10_addChoice ty X pn rn tn en pl rf hn kn on cu pu gw an ch cg fb mh ml ih lb ic nn kp) → va_S A s.heap H locs → ∀ ls : Array Slot, lv_has ls 6 [] → W p l e (headSpec vs_k_X10_addChoice { frames := 7, cells := 5, slots := 30, locals := 103 }).room s m ([.ref (X 0), .int a1, .int a2, .int a3, .int a4] : List Value).toArray below meth c H locs 1 6 (vx_MQ below (va_Qi (fun (r : Int32) (u : va_W) => (∃ (q_67 : Nat) (q_74_1 : Nat) (q_74_2 : Nat), TT.1 = 0 ∧ TT.2.1 = 0 ∧ r = TT.2.2.1 ∧ (u = ((wW_k_X10_addChoice ty X pn TT.2.2.2.2.2.2.2.2.2.2.2.2.1 tn en pl rf hn kn on TT.2.2.2.2.2.2.2.2.2.2.2.2.2.2.2 pu gw an ch cg fb mh ml ih lb TT.2.2.2.2.2.2.2.2.2.2.2.2.2.1 nn TT.2.2.2.2.2.2.2.2.2.2.2.2.2.2.1) ++ [(q_67, .inr (10, [.int TT.2.2.2.1, .int TT.2.2.2.2.1, .int TT.2.2.2.2.2.2.1, .int TT.2.2.2.2.2.2.2.1, .int TT.2.2.2.2.2.2.2.2.1, .int TT.2.2.2.2.2.2.2.2.2.1, .int TT.2.2.2.2.2.2.2.2.2.2.1, .ref q_74_1, .int TT.2.2.2.2.2.2.2.2.2.2.2.1, .ref q_74_2, .int TT.2.2.2.2.2.1])), (q_74_1, .inl (ty 5, 2, .inr (.inr (.inr (.inr (fun _ => none)))))), (q_74_2, .inl (ty 5, 5, .inr (.inr (.inr (.inr (fun _ => none))))))]))) ∨ (∃ (q_67 : Nat) (q_74_1 : Nat) (q_74_2 : Nat), TT.1 = 0 ∧ TT.2.1 = 1 ∧ r = TT.2.2.1 ∧ (u = ((wW_k_X10_addChoice ty X pn TT.2.2.2.2.2.2.2.2.2.2.2.2.1 tn en pl (va_up rf rn.toNatClampNeg (some q_67)) hn kn on TT.2.2.2.2.2.2.2.2.2.2.2.2.2.2.2 pu gw an ch cg fb mh ml ih lb TT.2.2.2.2.2.2.2.2.2.2.2.2.2.1 nn TT.2.2.2.2.2.2.2.2.2.2.2.2.2.2.1) ++ [(q_67, .inr (10, [.int TT.2.2.2.1, .int TT.2.2.2.2.1, .int TT.2.2.2.2.2.2.1, .int TT.2.2.2.2.2.2.2.1, .int TT.2.2.2.2.2.2.2.2.1, .int TT.2.2.2.2.2.2.2.2.2.1, .int TT.2.2.2.2.2.2.2.2.2.2.1, .ref q_74_1, .int TT.2.2.2.2.2.2.2.2.2.2.2.1, .ref q_74_2, .int TT.2.2.2.2.2.1])), (q_74_1, .inl (ty 5, 2, .inr (.inr (.inr (.inr (fun _ => none)))))), (q_74_2, .inl (ty 5, 5, .inr (.inr (.inr (.inr (fun _ => none))))))])))) (wq_B D A) A) (vx_X (fun u : String × va_W => (TT.1 = 2 ∧ u = ("java/lang/IllegalArgumentException", (wW_k_X10_addChoice ty X pn TT.2.2.2.2.2.2.2.2.2.2.2.2.1 tn en pl rf hn kn on TT.2.2.2.2.2.2.2.2.2.2.2.2.2.2.2 pu gw an ch cg fb mh ml ih lb TT.2.2.2.2.2.2.2.2.2.2.2.2.2.1 nn TT.2.2.2.2.2.2.2.2.2.2.2.2.2.2.1))) ∨ (TT.1 = 3 ∧ u = ("java/lang/IllegalStateException", (wW_k_X10_addChoice ty X pn TT.2.2.2.2.2.2.2.2.2.2.2.2.1 tn en pl rf hn kn on TT.2.2.2.2.2.2.2.2.2.2.2.2.2.2.2 pu gw an ch cg fb mh ml ih lb TT.2.2.2.2.2.2.2.2.2.2.2.2.2.1 nn TT.2.2.2.2.2.2.2.2.2.2.2.2.2.2.1)))) (wq_BX D A) A) ([.ref (X 0), .int a1, .int a2, .int a3, .int a4] : List Value).toArray s 5 30 A) (F0 m 20 ls []) := by
      intro _ hT  H locs hP hD hS ls hl
      rw [m_k_X10_addChoice_20] at hT
      obtain ⟨sa, hsa⟩ := hE.st 99 "bounds are 0 to 9, the upper one not less than the lower one" (by decide +kernel)
      exact vx_throwS (own := RX10) (cls := "java/lang/IllegalArgumentException") (text := "bounds are 0 to 9, the upper one not less than the lower one") (names := ["java/lang/RuntimeException", "java/lang/Exception"]) (ik := 60) (is := 99) (ic := 64) (sa := sa) (A := A) hx hb hl9 hown (by decide +kernel) (by decide +kernel) (hts (.classLink RX10 60 "java/lang/IllegalArgumentException") (by decide +kernel)) (hts (.initialized "java/lang/IllegalArgumentException") (by decide +kernel)) hsa (wq_hat hE hts ix_k_X10_addChoice_64 (by decide +kernel) (by decide +kernel)) (by decide +kernel) hE.zu hE.zs hS (hl.1.trans hml.symm) dX10_addChoice_20 dX10_addChoice_23 dX10_addChoice_24 dX10_addChoice_26 dX10_addChoice_29 (fun x hx => (hEx x hx).elim) (Nat.le_of_ble_eq_true rfl) (Nat.le_of_ble_eq_true rfl) (Nat.le_of_ble_eq_true rfl) (Nat.le_of_ble_eq_true rfl) hlocks (fun t ha hz hk => wq_thrW (W := (wW_k_X10_addChoice ty X pn rn tn en pl rf hn kn on cu pu gw an ch cg fb mh ml ih lb ic nn kp)) hS hP hD (by exact (Or.inl ⟨(by rw [hT]), (by first | rw [hT] | rfl)⟩)) hz hk) hS.2.2 (Nat.le_of_ble_eq_true rfl) (Nat.le_of_ble_eq_true rfl)
    refine lv_if_lt (tgt := 20) hx hb dX10_addChoice_6 (by decide) (fun c_4 => ?_) (fun c_4 => ?_)
    · rw [if_pos c_4] at hT
      exact J_20 () hT _ _ hP hD hS _ (lv_sub hl [] rfl)
    · rw [if_neg c_4] at hT
      refine lv_iload_n hx hb dX10_addChoice_9 rfl (lv_at hl 3 rfl) ?_
      refine lv_iload_n hx hb dX10_addChoice_10 rfl (lv_at hl 2 rfl) ?_
      refine lv_icmp_lt (tgt := 20) hx hb dX10_addChoice_11 (by decide) (fun c_5 => ?_) (fun c_5 => ?_)
      · rw [if_pos c_5] at hT
        exact J_20 () hT _ _ hP hD hS _ (lv_sub hl [] rfl)
      · rw [if_neg c_5] at hT
        refine lv_iload_n hx hb dX10_addChoice_14 rfl (lv_at hl 3 rfl) ?_
        refine lv_bipush (v := 9) hx hb dX10_addChoice_15 (by decide) ?_
        refine lv_icmp_le (tgt := 30) hx hb dX10_addChoice_17 (by decide) (fun c_6 => ?_) (fun c_6 => ?_)
        · rw [if_pos c_6] at hT
          refine lv_iload hx hb dX10_addChoice_30 (lv_at hl 4 rfl) ?_
          refine lv_iconst (v := (-1)) hx hb dX10_addChoice_32 (by decide) ?_
          have J_59 : ∀ (_ : Unit), TT = m_k_X10_addChoice_59 rn cu ic kp a1 a2 a3 a4 → ∀ (H : Heap) (locs : List Loc), va_P D vwCl (wW_k_X10_addChoice ty X pn rn tn en pl rf hn kn on cu pu gw an ch cg fb mh ml ih lb ic nn kp) H → va_D A (wW_k_X10_addChoice ty X pn rn tn en pl rf hn kn on cu pu gw an ch cg fb mh ml ih lb ic nn kp) → va_S A s.heap H locs → ∀ ls : Array Slot, lv_has ls 6 [(0, .ref (X 0)), (1, .int a1), (2, .int a2), (3, .int a3), (4, .int a4)] → W p l e (headSpec vs_k_X10_addChoice { frames := 7, cells := 5, slots := 30, locals := 103 }).room s m ([.ref (X 0), .int a1, .int a2, .int a3, .int a4] : List Value).toArray below meth c H locs 1 6 (vx_MQ below (va_Qi (fun (r : Int32) (u : va_W) => (∃ (q_67 : Nat) (q_74_1 : Nat) (q_74_2 : Nat), TT.1 = 0 ∧ TT.2.1 = 0 ∧ r = TT.2.2.1 ∧ (u = ((wW_k_X10_addChoice ty X pn TT.2.2.2.2.2.2.2.2.2.2.2.2.1 tn en pl rf hn kn on TT.2.2.2.2.2.2.2.2.2.2.2.2.2.2.2 pu gw an ch cg fb mh ml ih lb TT.2.2.2.2.2.2.2.2.2.2.2.2.2.1 nn TT.2.2.2.2.2.2.2.2.2.2.2.2.2.2.1) ++ [(q_67, .inr (10, [.int TT.2.2.2.1, .int TT.2.2.2.2.1, .int TT.2.2.2.2.2.2.1, .int TT.2.2.2.2.2.2.2.1, .int TT.2.2.2.2.2.2.2.2.1, .int TT.2.2.2.2.2.2.2.2.2.1, .int TT.2.2.2.2.2.2.2.2.2.2.1, .ref q_74_1, .int TT.2.2.2.2.2.2.2.2.2.2.2.1, .ref q_74_2, .int TT.2.2.2.2.2.1])), (q_74_1, .inl (ty 5, 2, .inr (.inr (.inr (.inr (fun _ => none)))))), (q_74_2, .inl (ty 5, 5, .inr (.inr (.inr (.inr (fun _ => none))))))]))) ∨ (∃ (q_67 : Nat) (q_74_1 : Nat) (q_74_2 : Nat), TT.1 = 0 ∧ TT.2.1 = 1 ∧ r = TT.2.2.1 ∧ (u = ((wW_k_X10_addChoice ty X pn TT.2.2.2.2.2.2.2.2.2.2.2.2.1 tn en pl (va_up rf rn.toNatClampNeg (some q_67)) hn kn on TT.2.2.2.2.2.2.2.2.2.2.2.2.2.2.2 pu gw an ch cg fb mh ml ih lb TT.2.2.2.2.2.2.2.2.2.2.2.2.2.1 nn TT.2.2.2.2.2.2.2.2.2.2.2.2.2.2.1) ++ [(q_67, .inr (10, [.int TT.2.2.2.1, .int TT.2.2.2.2.1, .int TT.2.2.2.2.2.2.1, .int TT.2.2.2.2.2.2.2.1, .int TT.2.2.2.2.2.2.2.2.1, .int TT.2.2.2.2.2.2.2.2.2.1, .int TT.2.2.2.2.2.2.2.2.2.2.1, .ref q_74_1, .int TT.2.2.2.2.2.2.2.2.2.2.2.1, .ref q_74_2, .int TT.2.2.2.2.2.1])), (q_74_1, .inl (ty 5, 2, .inr (.inr (.inr (.inr (fun _ => none)))))), (q_74_2, .inl (ty 5, 5, .inr (.inr (.inr (.inr (fun _ => none))))))])))) (wq_B D A) A) (vx_X (fun u : String × va_W => (TT.1 = 2 ∧ u = ("java/lang/IllegalArgumentException", (wW_k_X10_addChoice ty X pn TT.2.2.2.2.2.2.2.2.2.2.2.2.1 tn en pl rf hn kn on TT.2.2.2.2.2.2.2.2.2.2.2.2.2.2.2 pu gw an ch cg fb mh ml ih lb TT.2.2.2.2.2.2.2.2.2.2.2.2.2.1 nn TT.2.2.2.2.2.2.2.2.2.2.2.2.2.2.1))) ∨ (TT.1 = 3 ∧ u = ("java/lang/IllegalStateException", (wW_k_X10_addChoice ty X pn TT.2.2.2.2.2.2.2.2.2.2.2.2.1 tn en pl rf hn kn on TT.2.2.2.2.2.2.2.2.2.2.2.2.2.2.2 pu gw an ch cg fb mh ml ih lb TT.2.2.2.2.2.2.2.2.2.2.2.2.2.1 nn TT.2.2.2.2.2.2.2.2.2.2.2.2.2.2.1)))) (wq_BX D A) A) ([.ref (X 0), .int a1, .int a2, .int a3, .int a4] : List Value).toArray s 5 30 A) (F0 m 59 ls []) := by
            intro _ hT  H locs hP hD hS ls hl
            rw [m_k_X10_addChoice_59] at hT
            refine lv_aload_n hx hb dX10_addChoice_59 rfl (lv_at hl 0 rfl) ?_
            obtain ⟨t_60, ht_60⟩ : ∃ t, t = m_k_X10_checkRoomForRule rn := ⟨_, rfl⟩
            rw [lE_eq ht_60] at hT
            refine wq_xvW (wc := (wW_k_X10_checkRoomForRule ty X pn rn tn en)) (vx_runV (As := []) (rest := []) ⟨hx, hb, hml, hown, hts⟩ (k_X10_checkRoomForRule l hl9 D ty td mi H.size X pn rn tn en t_60 ht_60) (cwV 0 hts gv_k_X10_addChoice_1 rfl rfl rfl (by decide +kernel) ⟨(Nat.le_of_ble_eq_true rfl), (Nat.le_of_ble_eq_true rfl)⟩) (wm_V (wm_preS hP hD hK hE hS hA [true, true] rfl) (va_recv (q0 := 0) (ci := 12) hK hP rfl rfl)) rfl rfl hl.1 rfl (lv_room (Nat.le_of_ble_eq_true rfl)) dX10_addChoice_60 ⟨(Nat.le_of_ble_eq_true rfl), (Nat.le_of_ble_eq_true rfl)⟩) hS hA hP hD [true, true] rfl (fun _ h => by rcases h with ⟨-, rfl⟩; rfl) (fun _ _ h => by rcases h with ⟨-, h⟩ <;> (cases h; rfl)) (fun E9 u H locs q9 ce hw hP hD hS hce hcv hcl => ?_) (fun u H locs hw hP hD hS => ?_)
            · obtain ⟨c_7, hEq⟩ := hw
              cases hEq
              rw [if_neg (show ¬ t_60 = 0 by rw [c_7]; decide)] at hT
              have hP : va_P D vwCl (wW_k_X10_addChoice ty X pn rn tn en pl rf hn kn on cu pu gw an ch cg fb mh ml ih lb ic nn kp) H := hP
              have hD : va_D A (wW_k_X10_addChoice ty X pn rn tn en pl rf hn kn on cu pu gw an ch cg fb mh ml ih lb ic nn kp) := hD
              refine vx_widen (k := 5) (n := 30) (Nat.le_of_ble_eq_true rfl) (Nat.le_of_ble_eq_true rfl) ?_
              exact vx_out (E := "java/lang/IllegalStateException") (fun x hx => (hEx x hx).elim) hlocks hce hcv hcl (fun t ht ha => wq_thrW0 (W := (wW_k_X10_addChoice ty X pn rn tn en pl rf hn kn on cu pu gw an ch cg fb mh ml ih lb ic nn kp)) hS hP hD (by exact (Or.inr ⟨(by rw [hT]), (by first | rw [hT] | rfl)⟩)) ht) hS.2.2 (Nat.le_refl _) (Nat.le_refl _)
            · obtain ⟨c_8, rfl⟩ := hw
              rw [if_pos c_8] at hT
              have hP : va_P D vwCl (wW_k_X10_addChoice ty X pn rn tn en pl rf hn kn on cu pu gw an ch cg fb mh ml ih lb ic nn kp) H := hP
              have hD : va_D A (wW_k_X10_addChoice ty X pn rn tn en pl rf hn kn on cu pu gw an ch cg fb mh ml ih lb ic nn kp) := hD
              refine W.widen (k := 2) (n := 12) (Nat.le_of_ble_eq_true rfl) (Nat.le_of_ble_eq_true rfl) ?_
              refine lv_aload_n hx hb dX10_addChoice_63 rfl (lv_at hl 0 rfl) ?_
              obtain ⟨t_64, ht_64⟩ : ∃ t, t = m_k_X10_forgetGrounding := ⟨_, rfl⟩
              rw [lE_eq ht_64] at hT
              refine wq_vW (wc := (wW_k_X10_forgetGrounding ty X hn kn on cu pu gw an ch cg fb mh ml ih lb ic nn kp)) (va_runV (As := []) (rest := []) ⟨hx, hb, hml, hown, hts⟩ (k_X10_forgetGrounding l D ty td mi H.size X hn kn on cu pu gw an ch cg fb mh ml ih lb ic nn kp t_64 ht_64) (cwV 0 hts gv_k_X10_addChoice_2 rfl rfl rfl (by decide +kernel) ⟨(Nat.le_of_ble_eq_true rfl), (Nat.le_of_ble_eq_true rfl)⟩) (wm_V (wm_preS hP hD hK hE hS hA [true, false, false, false, true, true, true] rfl) (va_recv (q0 := 0) (ci := 12) hK hP rfl rfl)) rfl rfl hl.1 rfl (lv_room (Nat.le_of_ble_eq_true rfl)) dX10_addChoice_64 ⟨(Nat.le_of_ble_eq_true rfl), (Nat.le_of_ble_eq_true rfl)⟩) hS hA hP hD [true, false, false, false, true, true, true] rfl (fun _ h => by rcases h with rfl; rfl) (fun u H locs hw hP hD hS => ?_)
              obtain rfl := hw
              have hP : va_P D vwCl (wW_k_X10_addChoice ty X pn rn tn en pl rf hn kn on t_64.2.2 pu gw an ch cg fb mh ml ih lb t_64.1 nn t_64.2.1) H := hP
              have hD : va_D A (wW_k_X10_addChoice ty X pn rn tn en pl rf hn kn on t_64.2.2 pu gw an ch cg fb mh ml ih lb t_64.1 nn t_64.2.1) := hD
              refine W.widen (k := 2) (n := 12) (Nat.le_of_ble_eq_true rfl) (Nat.le_of_ble_eq_true rfl) ?_
              refine va_new (ci := 10) (fs := [.int 0, .int 0, .int 0, .int 0, .int 0, .int 0, .int 0, .null, .int 0, .null, .int 0]) (C := RX8) (T := TX8) (N := 11) hx hb hts iv_k_X10_addChoice_X8 tyX8 tyX8_ok hown (hts (.classLink RX10 90 RX8) (by decide +kernel)) (hts (.instantiable RX8 11) (by decide +kernel)) (hts (.initialized RX8) (by decide +kernel)) hK hP hD hS hA rfl (fun j hj => by rcases (show j = 0 ∨ j = 1 ∨ j = 2 ∨ j = 3 ∨ j = 4 ∨ j = 5 ∨ j = 6 ∨ j = 7 ∨ j = 8 ∨ j = 9 ∨ j = 10 by omega) with rfl | rfl | rfl | rfl | rfl | rfl | rfl | rfl | rfl | rfl | rfl <;> rfl) (Nat.le_of_ble_eq_true rfl) (Nat.le_of_ble_eq_true rfl) dX10_addChoice_67 (fun q_67 H hP hD hS => ?_)
              have hP : va_P D vwCl ((wW_k_X10_addChoice ty X pn rn tn en pl rf hn kn on t_64.2.2 pu gw an ch cg fb mh ml ih lb t_64.1 nn t_64.2.1) ++ [(q_67, .inr (10, [.int 0, .int 0, .int 0, .int 0, .int 0, .int 0, .int 0, .null, .int 0, .null, .int 0]))]) H := hP
              have hD : va_D A ((wW_k_X10_addChoice ty X pn rn tn en pl rf hn kn on t_64.2.2 pu gw an ch cg fb mh ml ih lb t_64.1 nn t_64.2.1) ++ [(q_67, .inr (10, [.int 0, .int 0, .int 0, .int 0, .int 0, .int 0, .int 0, .null, .int 0, .null, .int 0]))]) := hD
              refine W.widen (k := 3) (n := 23) (Nat.le_of_ble_eq_true rfl) (Nat.le_of_ble_eq_true rfl) ?_
              refine lv_dup hx hb dX10_addChoice_70 rfl ?_
              refine lv_bipush (v := 99) hx hb dX10_addChoice_71 (by decide) ?_
              refine lv_iload_n hx hb dX10_addChoice_73 rfl (lv_at hl 1 rfl) ?_
              refine wq_vW (wc := [(q_67, .inr (10, [.int 0, .int 0, .int 0, .int 0, .int 0, .int 0, .int 0, .null, .int 0, .null, .int 0]))]) (va_runI (As := [.int 99, .int a1]) (rest := [.ref q_67]) ⟨hx, hb, hml, hown, hts⟩ (k_X8_init_99 l D ty td mi H.size q_67 a1) (cwI 2 hts gv_k_X10_addChoice_4 rfl rfl rfl (hts (.initialized RX8) (by decide +kernel)) (hts (.methodLink RX10 92 yX8_init) (by decide +kernel)) (hts (.instanceMethod yX8_init) (by decide +kernel)) rfl (by decide +kernel) ⟨(Nat.le_of_ble_eq_true rfl), (Nat.le_of_ble_eq_true rfl)⟩) (wm_preS hP hD hK hE hS hA [false, false, false, false, false, false, false, true] rfl) rfl rfl hl.1 rfl (lv_room (Nat.le_of_ble_eq_true rfl)) dX10_addChoice_74 ⟨(Nat.le_of_ble_eq_true rfl), (Nat.le_of_ble_eq_true rfl)⟩) hS hA hP hD [false, false, false, false, false, false, false, true] rfl (fun _ h => by rcases h with ⟨_, _, rfl⟩; rfl) (fun u H locs hw hP hD hS => ?_)
              obtain ⟨q_74_1, q_74_2, rfl⟩ := hw
              have hP : va_P D vwCl ((wW_k_X10_addChoice ty X pn rn tn en pl rf hn kn on t_64.2.2 pu gw an ch cg fb mh ml ih lb t_64.1 nn t_64.2.1) ++ [(q_67, .inr (10, [.int 99, .int a1, .int 0, .int 0, .int (-1), .int 0, .int 0, .ref q_74_1, .int 0, .ref q_74_2, .int 0])), (q_74_1, .inl (ty 5, 2, .inr (.inr (.inr (.inr (fun _ => none)))))), (q_74_2, .inl (ty 5, 5, .inr (.inr (.inr (.inr (fun _ => none))))))]) H := hP
              have hD : va_D A ((wW_k_X10_addChoice ty X pn rn tn en pl rf hn kn on t_64.2.2 pu gw an ch cg fb mh ml ih lb t_64.1 nn t_64.2.1) ++ [(q_67, .inr (10, [.int 99, .int a1, .int 0, .int 0, .int (-1), .int 0, .int 0, .ref q_74_1, .int 0, .ref q_74_2, .int 0])), (q_74_1, .inl (ty 5, 2, .inr (.inr (.inr (.inr (fun _ => none)))))), (q_74_2, .inl (ty 5, 5, .inr (.inr (.inr (.inr (fun _ => none))))))]) := hD
              refine W.widen (k := 5) (n := 30) (Nat.le_of_ble_eq_true rfl) (Nat.le_of_ble_eq_true rfl) ?_
              refine lv_astore (lv' := [(5, .ref q_67), (0, .ref (X 0)), (1, .int a1), (2, .int a2), (3, .int a3), (4, .int a4)]) hx hb dX10_addChoice_77 hl (by decide) rfl (fun ls hl => ?_)
              refine lv_aload hx hb dX10_addChoice_79 (lv_at hl 0 rfl) ?_
              refine lv_iload_n hx hb dX10_addChoice_81 rfl (lv_at hl 3 rfl) ?_
              refine va_putN (D := D) (ci := 10) (v := .int a2) (ty := tyX8 2) (C := RX8) (T := TX8) (N := 11) hx hb hts iv_k_X10_addChoice_X8 tyX8 tyX8_ok nmX8 hown hK hP hD hS 7 rfl rfl 2 (by decide) (hE.at (.fieldLinkNest "AnswerFold" 106 "AnswerFold$Rule" "lower" "I" "AnswerFold") (by decide +kernel)) (fun _ h9 => h9) rfl (by decide +kernel) rfl rfl (Nat.le_of_ble_eq_true rfl) dX10_addChoice_82 (fun H locs hP hD hS => ?_)
              have hP : va_P D vwCl ((wW_k_X10_addChoice ty X pn rn tn en pl rf hn kn on t_64.2.2 pu gw an ch cg fb mh ml ih lb t_64.1 nn t_64.2.1) ++ [(q_67, .inr (10, [.int 99, .int a1, .int a2, .int 0, .int (-1), .int 0, .int 0, .ref q_74_1, .int 0, .ref q_74_2, .int 0])), (q_74_1, .inl (ty 5, 2, .inr (.inr (.inr (.inr (fun _ => none)))))), (q_74_2, .inl (ty 5, 5, .inr (.inr (.inr (.inr (fun _ => none))))))]) H := hP
              have hD : va_D A ((wW_k_X10_addChoice ty X pn rn tn en pl rf hn kn on t_64.2.2 pu gw an ch cg fb mh ml ih lb t_64.1 nn t_64.2.1) ++ [(q_67, .inr (10, [.int 99, .int a1, .int a2, .int 0, .int (-1), .int 0, .int 0, .ref q_74_1, .int 0, .ref q_74_2, .int 0])), (q_74_1, .inl (ty 5, 2, .inr (.inr (.inr (.inr (fun _ => none)))))), (q_74_2, .inl (ty 5, 5, .inr (.inr (.inr (.inr (fun _ => none))))))]) := hD
              refine lv_aload hx hb dX10_addChoice_85 (lv_at hl 0 rfl) ?_
              refine lv_iload_n hx hb dX10_addChoice_87 rfl (lv_at hl 4 rfl) ?_
              refine va_putN (D := D) (ci := 10) (v := .int a3) (ty := tyX8 3) (C := RX8) (T := TX8) (N := 11) hx hb hts iv_k_X10_addChoice_X8 tyX8 tyX8_ok nmX8 hown hK hP hD hS 7 rfl rfl 3 (by decide) (hE.at (.fieldLinkNest "AnswerFold" 109 "AnswerFold$Rule" "upper" "I" "AnswerFold") (by decide +kernel)) (fun _ h9 => h9) rfl (by decide +kernel) rfl rfl (Nat.le_of_ble_eq_true rfl) dX10_addChoice_88 (fun H locs hP hD hS => ?_)
              have hP : va_P D vwCl ((wW_k_X10_addChoice ty X pn rn tn en pl rf hn kn on t_64.2.2 pu gw an ch cg fb mh ml ih lb t_64.1 nn t_64.2.1) ++ [(q_67, .inr (10, [.int 99, .int a1, .int a2, .int a3, .int (-1), .int 0, .int 0, .ref q_74_1, .int 0, .ref q_74_2, .int 0])), (q_74_1, .inl (ty 5, 2, .inr (.inr (.inr (.inr (fun _ => none)))))), (q_74_2, .inl (ty 5, 5, .inr (.inr (.inr (.inr (fun _ => none))))))]) H := hP
              have hD : va_D A ((wW_k_X10_addChoice ty X pn rn tn en pl rf hn kn on t_64.2.2 pu gw an ch cg fb mh ml ih lb t_64.1 nn t_64.2.1) ++ [(q_67, .inr (10, [.int 99, .int a1, .int a2, .int a3, .int (-1), .int 0, .int 0, .ref q_74_1, .int 0, .ref q_74_2, .int 0])), (q_74_1, .inl (ty 5, 2, .inr (.inr (.inr (.inr (fun _ => none)))))), (q_74_2, .inl (ty 5, 5, .inr (.inr (.inr (.inr (fun _ => none))))))]) := hD
              refine lv_aload hx hb dX10_addChoice_91 (lv_at hl 0 rfl) ?_
              refine lv_iload hx hb dX10_addChoice_93 (lv_at hl 5 rfl) ?_
              refine va_putN (D := D) (ci := 10) (v := .int a4) (ty := tyX8 4) (C := RX8) (T := TX8) (N := 11) hx hb hts iv_k_X10_addChoice_X8 tyX8 tyX8_ok nmX8 hown hK hP hD hS 7 rfl rfl 4 (by decide) (hE.at (.fieldLinkNest "AnswerFold" 112 "AnswerFold$Rule" "span" "I" "AnswerFold") (by decide +kernel)) (fun _ h9 => h9) rfl (by decide +kernel) rfl rfl (Nat.le_of_ble_eq_true rfl) dX10_addChoice_95 (fun H locs hP hD hS => ?_)
              have hP : va_P D vwCl ((wW_k_X10_addChoice ty X pn rn tn en pl rf hn kn on t_64.2.2 pu gw an ch cg fb mh ml ih lb t_64.1 nn t_64.2.1) ++ [(q_67, .inr (10, [.int 99, .int a1, .int a2, .int a3, .int a4, .int 0, .int 0, .ref q_74_1, .int 0, .ref q_74_2, .int 0])), (q_74_1, .inl (ty 5, 2, .inr (.inr (.inr (.inr (fun _ => none)))))), (q_74_2, .inl (ty 5, 5, .inr (.inr (.inr (.inr (fun _ => none))))))]) H := hP
              have hD : va_D A ((wW_k_X10_addChoice ty X pn rn tn en pl rf hn kn on t_64.2.2 pu gw an ch cg fb mh ml ih lb t_64.1 nn t_64.2.1) ++ [(q_67, .inr (10, [.int 99, .int a1, .int a2, .int a3, .int a4, .int 0, .int 0, .ref q_74_1, .int 0, .ref q_74_2, .int 0])), (q_74_1, .inl (ty 5, 2, .inr (.inr (.inr (.inr (fun _ => none)))))), (q_74_2, .inl (ty 5, 5, .inr (.inr (.inr (.inr (fun _ => none))))))]) := hD
              refine lv_aload_n hx hb dX10_addChoice_98 rfl (lv_at hl 1 rfl) ?_
              refine va_get (D := D) (ci := 12) (v := .ref (X 1)) (C := RX10) (T := TX10) (N := 7) hx hb hts iv_k_X10_addChoice_X10 hown hK hP 0 rfl rfl 0 (by decide) (hts (.fieldLink RX10 12 "AnswerFold" "program" "LAnswerFold$Program;") (by decide +kernel)) (fun _ h9 => h9) rfl dX10_addChoice_99 ?_
              refine lv_aload hx hb dX10_addChoice_102 (lv_at hl 0 rfl) ?_
              obtain ⟨t_104, ht_104⟩ : ∃ t, t = m_k_X6_tellRule rn := ⟨_, rfl⟩
              rw [lE_eq ht_104] at hT
              refine wq_iW (wc := (wW_k_X6_tellRule ty X q_67 q_74_1 q_74_2 pn rn tn en rf (99) a1 a2 a3 a4 (0) (0) (0) (0))) (va_runV (As := [.ref q_67]) (rest := []) ⟨hx, hb, hml, hown, hts⟩ (k_X6_tellRule l D ty td mi H.size X pn rn tn en rf q_67 99 a1 a2 a3 a4 0 0 q_74_1 0 q_74_2 0 t_104 ht_104) (cwV 1 hts gv_k_X10_addChoice_5 rfl rfl rfl (by decide +kernel) ⟨(Nat.le_of_ble_eq_true rfl), (Nat.le_of_ble_eq_true rfl)⟩) (wm_V (wm_preS hP hD hK hE hS hA [false, true, false, true, false, false, false, true] rfl) (va_recv (q0 := 1) (ci := 8) hK hP rfl rfl)) rfl rfl hl.1 rfl (lv_room (Nat.le_of_ble_eq_true rfl)) dX10_addChoice_104 ⟨(Nat.le_of_ble_eq_true rfl), (Nat.le_of_ble_eq_true rfl)⟩) hS hA hP hD [false, true, false, true, false, false, false, true] rfl (fun _ _ h => by rcases h with ⟨-, -, rfl⟩ | ⟨-, -, rfl⟩ <;> rfl) (fun r u H locs hw hP hD hS => ?_)
              rcases hw with ⟨c_13, rfl, rfl⟩ | ⟨c_15, rfl, rfl⟩
              · rw [if_pos c_13] at hT
                have hP : va_P D vwCl ((wW_k_X10_addChoice ty X pn t_104.2.2 tn en pl rf hn kn on t_64.2.2 pu gw an ch cg fb mh ml ih lb t_64.1 nn t_64.2.1) ++ [(q_67, .inr (10, [.int 99, .int a1, .int a2, .int a3, .int a4, .int 0, .int 0, .ref q_74_1, .int 0, .ref q_74_2, .int 0])), (q_74_1, .inl (ty 5, 2, .inr (.inr (.inr (.inr (fun _ => none)))))), (q_74_2, .inl (ty 5, 5, .inr (.inr (.inr (.inr (fun _ => none))))))]) H := hP
                have hD : va_D A ((wW_k_X10_addChoice ty X pn t_104.2.2 tn en pl rf hn kn on t_64.2.2 pu gw an ch cg fb mh ml ih lb t_64.1 nn t_64.2.1) ++ [(q_67, .inr (10, [.int 99, .int a1, .int a2, .int a3, .int a4, .int 0, .int 0, .ref q_74_1, .int 0, .ref q_74_2, .int 0])), (q_74_1, .inl (ty 5, 2, .inr (.inr (.inr (.inr (fun _ => none)))))), (q_74_2, .inl (ty 5, 5, .inr (.inr (.inr (.inr (fun _ => none))))))]) := hD
                refine W.widen (k := 5) (n := 30) (Nat.le_of_ble_eq_true rfl) (Nat.le_of_ble_eq_true rfl) ?_
                exact END_0 q_67 q_74_1 q_74_2 t_104.2.1 99 a1 0 a2 a3 a4 0 0 0 t_104.2.2 t_64.1 t_64.2.1 t_64.2.2 hT _ _ hP hD hS _ _ dX10_addChoice_107
              · rw [if_neg (show ¬ t_104.1 = 0 by rw [c_15]; decide)] at hT
                have hP : va_P D vwCl ((wW_k_X10_addChoice ty X pn t_104.2.2 tn en pl (va_up rf rn.toNatClampNeg (some q_67)) hn kn on t_64.2.2 pu gw an ch cg fb mh ml ih lb t_64.1 nn t_64.2.1) ++ [(q_67, .inr (10, [.int 99, .int a1, .int a2, .int a3, .int a4, .int 0, .int 0, .ref q_74_1, .int 0, .ref q_74_2, .int 0])), (q_74_1, .inl (ty 5, 2, .inr (.inr (.inr (.inr (fun _ => none)))))), (q_74_2, .inl (ty 5, 5, .inr (.inr (.inr (.inr (fun _ => none))))))]) H := hP
                have hD : va_D A ((wW_k_X10_addChoice ty X pn t_104.2.2 tn en pl (va_up rf rn.toNatClampNeg (some q_67)) hn kn on t_64.2.2 pu gw an ch cg fb mh ml ih lb t_64.1 nn t_64.2.1) ++ [(q_67, .inr (10, [.int 99, .int a1, .int a2, .int a3, .int a4, .int 0, .int 0, .ref q_74_1, .int 0, .ref q_74_2, .int 0])), (q_74_1, .inl (ty 5, 2, .inr (.inr (.inr (.inr (fun _ => none)))))), (q_74_2, .inl (ty 5, 5, .inr (.inr (.inr (.inr (fun _ => none))))))]) := hD
                refine W.widen (k := 5) (n := 30) (Nat.le_of_ble_eq_true rfl) (Nat.le_of_ble_eq_true rfl) ?_
                exact END_1 q_67 q_74_1 q_74_2 t_104.2.1 99 a1 0 a2 a3 a4 0 0 0 t_104.2.2 t_64.1 t_64.2.1 t_64.2.2 hT _ _ hP hD hS _ _ dX10_addChoice_107
          refine lv_icmp_eq (tgt := 59) hx hb dX10_addChoice_33 (by decide) (fun c_16 => ?_) (fun c_16 => ?_)
          · rw [if_pos c_16] at hT
            exact J_59 () hT _ _ hP hD hS _ (lv_sub hl [0, 1, 2, 3, 4] rfl)
          · rw [if_neg c_16] at hT
            refine lv_aload_n hx hb dX10_addChoice_36 rfl (lv_at hl 0 rfl) ?_
            refine va_get (D := D) (ci := 12) (v := .ref (X 1)) (C := RX10) (T := TX10) (N := 7) hx hb hts iv_k_X10_addChoice_X10 hown hK hP 0 rfl rfl 0 (by decide) (hts (.fieldLink RX10 12 "AnswerFold" "program" "LAnswerFold$Program;") (by decide +kernel)) (fun _ h9 => h9) rfl dX10_addChoice_37 ?_
            refine lv_iload hx hb dX10_addChoice_40 (lv_at hl 4 rfl) ?_
            obtain ⟨t_42, ht_42⟩ : ∃ t, t = m_k_X6_placesOf pn pl a4 := ⟨_, rfl⟩
            rw [lE_eq ht_42] at hT
            refine wq_iW (wc := (wW_k_X6_placesOf ty X pn rn tn en pl)) (va_runV (As := [.int a4]) (rest := []) ⟨hx, hb, hml, hown, hts⟩ (k_X6_placesOf l D ty td mi H.size X pn rn tn en pl a4 t_42 ht_42) (cwV 1 hts gv_k_X10_addChoice_6 rfl rfl rfl (by decide +kernel) ⟨(Nat.le_of_ble_eq_true rfl), (Nat.le_of_ble_eq_true rfl)⟩) (wm_V (wm_preS hP hD hK hE hS hA [false, true, true] rfl) (va_recv (q0 := 1) (ci := 8) hK hP rfl rfl)) rfl rfl hl.1 rfl (lv_room (Nat.le_of_ble_eq_true rfl)) dX10_addChoice_42 ⟨(Nat.le_of_ble_eq_true rfl), (Nat.le_of_ble_eq_true rfl)⟩) hS hA hP hD [false, true, true] rfl (fun _ _ h => by rcases h with ⟨-, rfl⟩; rfl) (fun r u H locs hw hP hD hS => ?_)
            obtain ⟨hr0, rfl⟩ := hw
            subst r
            have hP : va_P D vwCl (wW_k_X10_addChoice ty X pn rn tn en pl rf hn kn on cu pu gw an ch cg fb mh ml ih lb ic nn kp) H := hP
            have hD : va_D A (wW_k_X10_addChoice ty X pn rn tn en pl rf hn kn on cu pu gw an ch cg fb mh ml ih lb ic nn kp) := hD
            refine W.widen (k := 1) (n := 6) (Nat.le_of_ble_eq_true rfl) (Nat.le_of_ble_eq_true rfl) ?_
            refine lv_iconst (v := 1) hx hb dX10_addChoice_45 (by decide) ?_
            refine lv_icmp_eq (tgt := 59) hx hb dX10_addChoice_46 (by decide) (fun c_19 => ?_) (fun c_19 => ?_)
            · rw [if_pos c_19] at hT
              exact J_59 () hT _ _ hP hD hS _ (lv_sub hl [0, 1, 2, 3, 4] rfl)
            · rw [if_neg c_19] at hT
              obtain ⟨sa, hsa⟩ := hE.st 104 "a span is a predicate with one place, or -1" (by decide +kernel)
              exact vx_throwS (own := RX10) (cls := "java/lang/IllegalArgumentException") (text := "a span is a predicate with one place, or -1") (names := ["java/lang/RuntimeException", "java/lang/Exception"]) (ik := 60) (is := 104) (ic := 64) (sa := sa) (A := A) hx hb hl9 hown (by decide +kernel) (by decide +kernel) (hts (.classLink RX10 60 "java/lang/IllegalArgumentException") (by decide +kernel)) (hts (.initialized "java/lang/IllegalArgumentException") (by decide +kernel)) hsa (wq_hat hE hts ix_k_X10_addChoice_64 (by decide +kernel) (by decide +kernel)) (by decide +kernel) hE.zu hE.zs hS (hl.1.trans hml.symm) dX10_addChoice_49 dX10_addChoice_52 dX10_addChoice_53 dX10_addChoice_55 dX10_addChoice_58 (fun x hx => (hEx x hx).elim) (Nat.le_of_ble_eq_true rfl) (Nat.le_of_ble_eq_true rfl) (Nat.le_of_ble_eq_true rfl) (Nat.le_of_ble_eq_true rfl) hlocks (fun t ha hz hk => wq_thrW (W := (wW_k_X10_addChoice ty X pn rn tn en pl rf hn kn on cu pu gw an ch cg fb mh ml ih lb ic nn kp)) hS hP hD (by exact (Or.inl ⟨(by rw [hT]), (by first | rw [hT] | rfl)⟩)) hz hk) hS.2.2 (Nat.le_of_ble_eq_true rfl) (Nat.le_of_ble_eq_true rfl)
        · rw [if_neg c_6] at hT
          exact J_20 () hT _ _ hP hD hS _ (lv_sub hl [] rfl)
theorem dX10_addWeak_0 : decode cX10_addWeak 0 = .ok (.aload_n 0, 1) := by decide +kernel
theorem dX10_addWeak_1 : decode cX10_addWeak 1 = .ok (.iload_n 1, 1) := by decide +kernel
theorem dX10_addWeak_2 : decode cX10_addWeak 2 = .ok (.invokevirtual 83, 3) := by decide +kernel
theorem dX10_addWeak_5 : decode cX10_addWeak 5 = .ok (.iload_n 2, 1) := by decide +kernel
theorem dX10_addWeak_6 : decode cX10_addWeak 6 = .ok (.bipush (-99), 2) := by decide +kernel
theorem dX10_addWeak_8 : decode cX10_addWeak 8 = .ok (.if_icmp .lt 9, 3) := by decide +kernel
theorem dX10_addWeak_11 : decode cX10_addWeak 11 = .ok (.iload_n 2, 1) := by decide +kernel
theorem dX10_addWeak_12 : decode cX10_addWeak 12 = .ok (.bipush 99, 2) := by decide +kernel
theorem dX10_addWeak_14 : decode cX10_addWeak 14 = .ok (.if_icmp .le 13, 3) := by decide +kernel
theorem dX10_addWeak_17 : decode cX10_addWeak 17 = .ok (.new 60, 3) := by decide +kernel
theorem dX10_addWeak_20 : decode cX10_addWeak 20 = .ok (.dup, 1) := by decide +kernel
theorem dX10_addWeak_21 : decode cX10_addWeak 21 = .ok (.ldc 115, 2) := by decide +kernel
theorem dX10_addWeak_23 : decode cX10_addWeak 23 = .ok (.invokespecial 64, 3) := by decide +kernel
theorem dX10_addWeak_26 : decode cX10_addWeak 26 = .ok (.athrow, 1) := by decide +kernel
theorem dX10_addWeak_27 : decode cX10_addWeak 27 = .ok (.aload_n 0, 1) := by decide +kernel
theorem dX10_addWeak_28 : decode cX10_addWeak 28 = .ok (.iload_n 3, 1) := by decide +kernel
theorem dX10_addWeak_29 : decode cX10_addWeak 29 = .ok (.invokevirtual 117, 3) := by decide +kernel
theorem dX10_addWeak_32 : decode cX10_addWeak 32 = .ok (.aload_n 0, 1) := by decide +kernel
theorem dX10_addWeak_33 : decode cX10_addWeak 33 = .ok (.invokevirtual 87, 3) := by decide +kernel
theorem dX10_addWeak_36 : decode cX10_addWeak 36 = .ok (.aload_n 0, 1) := by decide +kernel
theorem dX10_addWeak_37 : decode cX10_addWeak 37 = .ok (.invokevirtual 76, 3) := by decide +kernel
theorem dX10_addWeak_40 : decode cX10_addWeak 40 = .ok (.new 90, 3) := by decide +kernel
theorem dX10_addWeak_43 : decode cX10_addWeak 43 = .ok (.dup, 1) := by decide +kernel
theorem dX10_addWeak_44 : decode cX10_addWeak 44 = .ok (.bipush 119, 2) := by decide +kernel
theorem dX10_addWeak_46 : decode cX10_addWeak 46 = .ok (.iload_n 1, 1) := by decide +kernel
theorem dX10_addWeak_47 : decode cX10_addWeak 47 = .ok (.invokespecial 92, 3) := by decide +kernel
theorem dX10_addWeak_50 : decode cX10_addWeak 50 = .ok (.astore 4, 2) := by decide +kernel
theorem dX10_addWeak_52 : decode cX10_addWeak 52 = .ok (.aload 4, 2) := by decide +kernel
theorem dX10_addWeak_54 : decode cX10_addWeak 54 = .ok (.iload_n 2, 1) := by decide +kernel
theorem dX10_addWeak_55 : decode cX10_addWeak 55 = .ok (.putfield 120, 3) := by decide +kernel
theorem dX10_addWeak_58 : decode cX10_addWeak 58 = .ok (.aload 4, 2) := by decide +kernel
theorem dX10_addWeak_60 : decode cX10_addWeak 60 = .ok (.iload_n 3, 1) := by decide +kernel
theorem dX10_addWeak_61 : decode cX10_addWeak 61 = .ok (.putfield 123, 3) := by decide +kernel
theorem dX10_addWeak_64 : decode cX10_addWeak 64 = .ok (.aload_n 0, 1) := by decide +kernel
theorem dX10_addWeak_65 : decode cX10_addWeak 65 = .ok (.getfield 12, 3) := by decide +kernel
theorem dX10_addWeak_68 : decode cX10_addWeak 68 = .ok (.aload 4, 2) := by decide +kernel
theorem dX10_addWeak_70 : decode cX10_addWeak 70 = .ok (.invokevirtual 95, 3) := by decide +kernel
theorem dX10_addWeak_73 : decode cX10_addWeak 73 = .ok (.ireturn, 1) := by decide +kernel
def wW_k_X10_addWeak (ty : Nat → ClassId) (X : Nat → Nat) (z9_0 : Int32) (z9_1 : Int32) (z9_2 : Int32) (z9_3 : Int32) (z9_4 : Nat → Option Nat) (z9_5 : Int32) (z9_6 : Int32) (z9_7 : Int32) (z9_8 : Int32) (z9_9 : Int32) (z9_10 : Int32) (z9_11 : Int32) (z9_12 : Int32) (z9_13 : Int32) (z9_14 : Int32) (z9_15 : Int32) (z9_16 : Int32) (z9_17 : Int32) (z9_18 : Int32) (z9_19 : Int32) (z9_20 : Int32) (z9_21 : Int32) : va_W := [((X 0), .inr (12, [.ref (X 1), .ref (X 8), .ref (X 20), .ref (X 39), .ref (X 41), .ref (X 43), .ref (X 45)])), ((X 1), .inr (8, [.ref (X 2), .int z9_0, .ref (X 3), .int z9_1, .ref (X 4), .ref (X 5), .int z9_2, .ref (X 6), .ref (X 7), .int z9_3])), ((X 3), .inl (ty 4, 20, .inr (.inr (.inr (.inr z9_4))))), ((X 8), .inr (5, [.ref (X 1), .ref (X 9), .ref (X 10), .ref (X 12), .ref (X 14), .int z9_5, .ref (X 15), .ref (X 16), .ref (X 17), .int z9_6, .ref (X 18), .ref (X 19), .int z9_7, .int z9_8, .int z9_9, .int z9_10])), ((X 20), .inr (11, [.ref (X 1), .ref (X 8), .ref (X 21), .ref (X 28), .ref (X 35), .int z9_11, .ref (X 36), .ref (X 37), .ref (X 38), .int z9_12, .int z9_13, .int z9_14, .int z9_15, .int z9_16, .int z9_17, .int z9_18, .int z9_19])), ((X 45), .inr (2, [.ref (X 46), .ref (X 47), .int z9_20, .int z9_21]))]
def vs_k_X10_addWeak : List Cond := .code yX10_addWeak cX10_addWeak 5 (some .int) :: ([.methodLink RX10 83 yX10_checkPart, .instanceMethod yX10_checkPart, .selects RX10 yX10_checkPart yX10_checkPart, .initialized RX10, .classLink RX10 60 "java/lang/IllegalArgumentException", .initialized "java/lang/IllegalArgumentException", .methodLink RX10 117 yX10_checkLevel, .instanceMethod yX10_checkLevel, .selects RX10 yX10_checkLevel yX10_checkLevel, .methodLink RX10 87 yX10_checkRoomForRule, .instanceMethod yX10_checkRoomForRule, .selects RX10 yX10_checkRoomForRule yX10_checkRoomForRule, .methodLink RX10 76 yX10_forgetGrounding, .instanceMethod yX10_forgetGrounding, .selects RX10 yX10_forgetGrounding yX10_forgetGrounding, .classLink RX10 90 RX8, .instantiable RX8 11, .initialized RX8, .methodLink RX10 92 yX8_init, .instanceMethod yX8_init, .fieldLink RX10 12 "AnswerFold" "program" "LAnswerFold$Program;", .methodLink RX10 95 yX6_tellRule, .instanceMethod yX6_tellRule, .selects RX6 yX6_tellRule yX6_tellRule, .initialized RX6] ++ (vs_k_X10_checkPart ++ ((vx_atS RX10 64 "java/lang/IllegalArgumentException" ["java/lang/RuntimeException", "java/lang/Exception"]).filter goodWord ++ (vs_k_X10_checkLevel ++ (vs_k_X10_checkRoomForRule ++ (vs_k_X10_forgetGrounding ++ (u_ws RX8 TX8 11 ++ (vs_k_X8_init_119 ++ (u_ws RX10 TX10 7 ++ (vs_k_X6_tellRule))))))))))
theorem iv_k_X10_addWeak_X10 : ∀ w ∈ u_ws RX10 TX10 7, w ∈ vs_k_X10_addWeak := (fun _ h => List.mem_cons_of_mem _ (List.mem_append_right _ (List.mem_append_right _ (List.mem_append_right _ (List.mem_append_right _ (List.mem_append_right _ (List.mem_append_right _ (List.mem_append_right _ (List.mem_append_right _ (List.mem_append_left _ h))))))))))
theorem iv_k_X10_addWeak_X8 : ∀ w ∈ u_ws RX8 TX8 11, w ∈ vs_k_X10_addWeak := (fun _ h => List.mem_cons_of_mem _ (List.mem_append_right _ (List.mem_append_right _ (List.mem_append_right _ (List.mem_append_right _ (List.mem_append_right _ (List.mem_append_right _ (List.mem_append_left _ h))))))))
set_option maxRecDepth 20000 in
theorem gv_k_X10_addWeak_0 : GoodIn vs_k_X10_addWeak (wsV RX10 83 RX10 yX10_checkPart vs_k_X10_checkPart) := goodIn_app (goodIn_sub (by decide +kernel) (by decide +kernel)) (goodIn_sub (fun _ h => List.mem_cons_of_mem _ (List.mem_append_right _ (List.mem_append_left _ h))) (by decide +kernel))
set_option maxRecDepth 20000 in
theorem gv_k_X10_addWeak_1 : GoodIn vs_k_X10_addWeak (wsV RX10 117 RX10 yX10_checkLevel vs_k_X10_checkLevel) := goodIn_app (goodIn_sub (by decide +kernel) (by decide +kernel)) (goodIn_sub (fun _ h => List.mem_cons_of_mem _ (List.mem_append_right _ (List.mem_append_right _ (List.mem_append_right _ (List.mem_append_left _ h))))) (by decide +kernel))
set_option maxRecDepth 20000 in
theorem gv_k_X10_addWeak_2 : GoodIn vs_k_X10_addWeak (wsV RX10 87 RX10 yX10_checkRoomForRule vs_k_X10_checkRoomForRule) := goodIn_app (goodIn_sub (by decide +kernel) (by decide +kernel)) (goodIn_sub (fun _ h => List.mem_cons_of_mem _ (List.mem_append_right _ (List.mem_append_right _ (List.mem_append_right _ (List.mem_append_right _ (List.mem_append_left _ h)))))) (by decide +kernel))
set_option maxRecDepth 20000 in
theorem gv_k_X10_addWeak_3 : GoodIn vs_k_X10_addWeak (wsV RX10 76 RX10 yX10_forgetGrounding vs_k_X10_forgetGrounding) := goodIn_app (goodIn_sub (by decide +kernel) (by decide +kernel)) (goodIn_sub (fun _ h => List.mem_cons_of_mem _ (List.mem_append_right _ (List.mem_append_right _ (List.mem_append_right _ (List.mem_append_right _ (List.mem_append_right _ (List.mem_append_left _ h))))))) (by decide +kernel))
set_option maxRecDepth 20000 in
theorem gv_k_X10_addWeak_4 : GoodIn vs_k_X10_addWeak (vs_k_X8_init_119) := (goodIn_sub (fun _ h => List.mem_cons_of_mem _ (List.mem_append_right _ (List.mem_append_right _ (List.mem_append_right _ (List.mem_append_right _ (List.mem_append_right _ (List.mem_append_right _ (List.mem_append_right _ (List.mem_append_left _ h))))))))) (by decide +kernel))
set_option maxRecDepth 20000 in
theorem gv_k_X10_addWeak_5 : GoodIn vs_k_X10_addWeak (vs_k_X8_init_119) := (goodIn_sub (fun _ h => List.mem_cons_of_mem _ (List.mem_append_right _ (List.mem_append_right _ (List.mem_append_right _ (List.mem_append_right _ (List.mem_append_right _ (List.mem_append_right _ (List.mem_append_right _ (List.mem_append_left _ h))))))))) (by decide +kernel))
set_option maxRecDepth 20000 in
theorem gv_k_X10_addWeak_6 : GoodIn vs_k_X10_addWeak (wsV RX10 95 RX6 yX6_tellRule vs_k_X6_tellRule) := goodIn_app (goodIn_sub (by decide +kernel) (by decide +kernel)) (goodIn_sub (fun _ h => List.mem_cons_of_mem _ (List.mem_append_right _ (List.mem_append_right _ (List.mem_append_right _ (List.mem_append_right _ (List.mem_append_right _ (List.mem_append_right _ (List.mem_append_right _ (List.mem_append_right _ (List.mem_append_right _ (h))))))))))) (by decide +kernel))
theorem ix_k_X10_addWeak_64 : ∀ w ∈ (vx_atS RX10 64 "java/lang/IllegalArgumentException" ["java/lang/RuntimeException", "java/lang/Exception"]).filter goodWord, w ∈ vs_k_X10_addWeak := (fun _ h => List.mem_cons_of_mem _ (List.mem_append_right _ (List.mem_append_right _ (List.mem_append_left _ h))))
set_option maxHeartbeats 4000000 in
set_option maxRecDepth 100000 in
theorem k_X10_addWeak (l : Launch) (hl9 : l.stackTraces = false) (D : va_G) (ty : Nat → ClassId) (td mi sz : Nat) (X : Nat → Nat) (pn : Int32) (rn : Int32) (tn : Int32) (en : Int32) (rf : Nat → Option Nat) (hn : Int32) (kn : Int32) (on : Int32) (cu : Int32) (pu : Int32) (gw : Int32) (an : Int32) (ch : Int32) (cg : Int32) (fb : Int32) (mh : Int32) (ml : Int32) (ih : Int32) (lb : Int32) (ic : Int32) (nn : Int32) (kp : Int32) (a1 : Int32) (a2 : Int32) (a3 : Int32) (TT : r_k_X10_addWeak) (hTT : TT = m_k_X10_addWeak rn cu ic kp a1 a2 a3) : vx_Met l yX10_addWeak vs_k_X10_addWeak { frames := 7, cells := 6, slots := 36, locals := 103 } (va_Pc [.ref (X 0), .int a1, .int a2, .int a3] (wq_P D ty td mi (wW_k_X10_addWeak ty X pn rn tn en rf hn kn on cu pu gw an ch cg fb mh ml ih lb ic nn kp) sz)) (va_Qi (fun (r : Int32) (u : va_W) => (∃ (q_40 : Nat) (q_47_1 : Nat) (q_47_2 : Nat), TT.1 = 0 ∧ TT.2.1 = 0 ∧ r = TT.2.2.1 ∧ (u = ((wW_k_X10_addWeak ty X pn TT.2.2.2.2.2.2.2.2.2.2.2.2.1 tn en rf hn kn on TT.2.2.2.2.2.2.2.2.2.2.2.2.2.2.2 pu gw an ch cg fb mh ml ih lb TT.2.2.2.2.2.2.2.2.2.2.2.2.2.1 nn TT.2.2.2.2.2.2.2.2.2.2.2.2.2.2.1) ++ [(q_40, .inr (10, [.int TT.2.2.2.1, .int TT.2.2.2.2.1, .int TT.2.2.2.2.2.2.1, .int TT.2.2.2.2.2.2.2.1, .int TT.2.2.2.2.2.2.2.2.1, .int TT.2.2.2.2.2.2.2.2.2.1, .int TT.2.2.2.2.2.2.2.2.2.2.1, .ref q_47_1, .int TT.2.2.2.2.2.2.2.2.2.2.2.1, .ref q_47_2, .int TT.2.2.2.2.2.1])), (q_47_1, .inl (ty 5, 2, .inr (.inr (.inr (.inr (fun _ => none)))))), (q_47_2, .inl (ty 5, 5, .inr (.inr (.inr (.inr (fun _ => none))))))]))) ∨ (∃ (q_40 : Nat) (q_47_1 : Nat) (q_47_2 : Nat), TT.1 = 0 ∧ TT.2.1 = 1 ∧ r = TT.2.2.1 ∧ (u = ((wW_k_X10_addWeak ty X pn TT.2.2.2.2.2.2.2.2.2.2.2.2.1 tn en (va_up rf rn.toNatClampNeg (some q_40)) hn kn on TT.2.2.2.2.2.2.2.2.2.2.2.2.2.2.2 pu gw an ch cg fb mh ml ih lb TT.2.2.2.2.2.2.2.2.2.2.2.2.2.1 nn TT.2.2.2.2.2.2.2.2.2.2.2.2.2.2.1) ++ [(q_40, .inr (10, [.int TT.2.2.2.1, .int TT.2.2.2.2.1, .int TT.2.2.2.2.2.2.1, .int TT.2.2.2.2.2.2.2.1, .int TT.2.2.2.2.2.2.2.2.1, .int TT.2.2.2.2.2.2.2.2.2.1, .int TT.2.2.2.2.2.2.2.2.2.2.1, .ref q_47_1, .int TT.2.2.2.2.2.2.2.2.2.2.2.1, .ref q_47_2, .int TT.2.2.2.2.2.1])), (q_47_1, .inl (ty 5, 2, .inr (.inr (.inr (.inr (fun _ => none)))))), (q_47_2, .inl (ty 5, 5, .inr (.inr (.inr (.inr (fun _ => none))))))])))) (wq_B D (va_A (wW_k_X10_addWeak ty X pn rn tn en rf hn kn on cu pu gw an ch cg fb mh ml ih lb ic nn kp) sz)) (va_A (wW_k_X10_addWeak ty X pn rn tn en rf hn kn on cu pu gw an ch cg fb mh ml ih lb ic nn kp) sz)) (vx_X (fun u : String × va_W => (TT.1 = 2 ∧ u = ("java/lang/IllegalArgumentException", (wW_k_X10_addWeak ty X pn TT.2.2.2.2.2.2.2.2.2.2.2.2.1 tn en rf hn kn on TT.2.2.2.2.2.2.2.2.2.2.2.2.2.2.2 pu gw an ch cg fb mh ml ih lb TT.2.2.2.2.2.2.2.2.2.2.2.2.2.1 nn TT.2.2.2.2.2.2.2.2.2.2.2.2.2.2.1))) ∨ (TT.1 = 3 ∧ u = ("java/lang/IllegalStateException", (wW_k_X10_addWeak ty X pn TT.2.2.2.2.2.2.2.2.2.2.2.2.1 tn en rf hn kn on TT.2.2.2.2.2.2.2.2.2.2.2.2.2.2.2 pu gw an ch cg fb mh ml ih lb TT.2.2.2.2.2.2.2.2.2.2.2.2.2.1 nn TT.2.2.2.2.2.2.2.2.2.2.2.2.2.2.1)))) (wq_BX D (va_A (wW_k_X10_addWeak ty X pn rn tn en rf hn kn on cu pu gw an ch cg fb mh ml ih lb ic nn kp) sz)) (va_A (wW_k_X10_addWeak ty X pn rn tn en rf hn kn on cu pu gw an ch cg fb mh ml ih lb ic nn kp) sz)) 6 36 (va_A (wW_k_X10_addWeak ty X pn rn tn en rf hn kn on cu pu gw an ch cg fb mh ml ih lb ic nn kp) sz) := by
  refine vx_ofW (cc := cX10_addWeak) (maxL := 5) (ret := (some .int)) (by decide) rfl ?_
  intro p e s m args below meth c s₁ B hml hEx hv
  obtain ⟨rfl, hsz, hP, hK, hD0, hE⟩ := hv
  have hx := B.exec
  have hb := B.bytes
  have hr := B.returns
  have hts := atoms_spec (ws := vs_k_X10_addWeak) B.pre
  have hown : s.vm.findClass RX10 = some m.cls := findClass_of_methodNamed B.named
  have hlocks := B.notSynchronized
  subst hsz
  have hD := hD0.self (sz := s.heap.size)
  generalize hAe : va_A (wW_k_X10_addWeak ty X pn rn tn en rf hn kn on cu pu gw an ch cg fb mh ml ih lb ic nn kp) s.heap.size = A at hD hE ⊢
  have hA : ∀ q : Nat, s.heap.size ≤ q → A q := fun q h => by rw [← hAe]; exact Or.inr h
  have hS : va_S A s.heap s.heap [] := va_S.rf
  have hP : va_P D vwCl (wW_k_X10_addWeak ty X pn rn tn en rf hn kn on cu pu gw an ch cg fb mh ml ih lb ic nn kp) s.heap := hP
  have hl := lv_entry ([.ref (X 0), .int a1, .int a2, .int a3]) (n := 5) (Nat.le_of_ble_eq_true rfl)
  rw [lg_entry_eq]
  generalize (lg_sl ([.ref (X 0), .int a1, .int a2, .int a3]) ++ List.replicate (5 - (lg_sl ([.ref (X 0), .int a1, .int a2, .int a3])).length) Slot.unset).toArray = ls at hl ⊢
  have hl : lv_has ls 5 [(0, .ref (X 0)), (1, .int a1), (2, .int a2), (3, .int a3)] := hl
  have END_0 : ∀ (q_40 : Nat) (q_47_1 : Nat) (q_47_2 : Nat) (r : Int32) (w9_0 : Int32) (w9_1 : Int32) (w9_2 : Int32) (w9_3 : Int32) (w9_4 : Int32) (w9_5 : Int32) (w9_6 : Int32) (w9_7 : Int32) (w9_8 : Int32) (w9_9 : Int32) (w9_10 : Int32) (w9_11 : Int32) (w9_12 : Int32), TT = (0, 0, r, w9_0, w9_1, w9_2, w9_3, w9_4, w9_5, w9_6, w9_7, w9_8, w9_9, w9_10, w9_11, w9_12) → ∀ (H : Heap) (locs : List Loc), va_P D vwCl ((wW_k_X10_addWeak ty X pn w9_9 tn en rf hn kn on w9_12 pu gw an ch cg fb mh ml ih lb w9_10 nn w9_11) ++ [(q_40, .inr (10, [.int w9_0, .int w9_1, .int w9_3, .int w9_4, .int w9_5, .int w9_6, .int w9_7, .ref q_47_1, .int w9_8, .ref q_47_2, .int w9_2])), (q_47_1, .inl (ty 5, 2, .inr (.inr (.inr (.inr (fun _ => none)))))), (q_47_2, .inl (ty 5, 5, .inr (.inr (.inr (.inr (fun _ => none))))))]) H → va_D A ((wW_k_X10_addWeak ty X pn w9_9 tn en rf hn kn on w9_12 pu gw an ch cg fb mh ml ih lb w9_10 nn w9_11) ++ [(q_40, .inr (10, [.int w9_0, .int w9_1, .int w9_3, .int w9_4, .int w9_5, .int w9_6, .int w9_7, .ref q_47_1, .int w9_8, .ref q_47_2, .int w9_2])), (q_47_1, .inl (ty 5, 2, .inr (.inr (.inr (.inr (fun _ => none)))))), (q_47_2, .inl (ty 5, 5, .inr (.inr (.inr (.inr (fun _ => none))))))]) → va_S A s.heap H locs → ∀ (ls : Array Slot) (pc : Nat), decode cX10_addWeak pc = .ok (.ireturn, 1) → W p l e (headSpec vs_k_X10_addWeak { frames := 7, cells := 6, slots := 36, locals := 103 }).room s m ([.ref (X 0), .int a1, .int a2, .int a3] : List Value).toArray below meth c H locs 6 36 (vx_MQ below (va_Qi (fun (r : Int32) (u : va_W) => (∃ (q_40 : Nat) (q_47_1 : Nat) (q_47_2 : Nat), TT.1 = 0 ∧ TT.2.1 = 0 ∧ r = TT.2.2.1 ∧ (u = ((wW_k_X10_addWeak ty X pn TT.2.2.2.2.2.2.2.2.2.2.2.2.1 tn en rf hn kn on TT.2.2.2.2.2.2.2.2.2.2.2.2.2.2.2 pu gw an ch cg fb mh ml ih lb TT.2.2.2.2.2.2.2.2.2.2.2.2.2.1 nn TT.2.2.2.2.2.2.2.2.2.2.2.2.2.2.1) ++ [(q_40, .inr (10, [.int TT.2.2.2.1, .int TT.2.2.2.2.1, .int TT.2.2.2.2.2.2.1, .int TT.2.2.2.2.2.2.2.1, .int TT.2.2.2.2.2.2.2.2.1, .int TT.2.2.2.2.2.2.2.2.2.1, .int TT.2.2.2.2.2.2.2.2.2.2.1, .ref q_47_1, .int TT.2.2.2.2.2.2.2.2.2.2.2.1, .ref q_47_2, .int TT.2.2.2.2.2.1])), (q_47_1, .inl (ty 5, 2, .inr (.inr (.inr (.inr (fun _ => none)))))), (q_47_2, .inl (ty 5, 5, .inr (.inr (.inr (.inr (fun _ => none))))))]))) ∨ (∃ (q_40 : Nat) (q_47_1 : Nat) (q_47_2 : Nat), TT.1 = 0 ∧ TT.2.1 = 1 ∧ r = TT.2.2.1 ∧ (u = ((wW_k_X10_addWeak ty X pn TT.2.2.2.2.2.2.2.2.2.2.2.2.1 tn en (va_up rf rn.toNatClampNeg (some q_40)) hn kn on TT.2.2.2.2.2.2.2.2.2.2.2.2.2.2.2 pu gw an ch cg fb mh ml ih lb TT.2.2.2.2.2.2.2.2.2.2.2.2.2.1 nn TT.2.2.2.2.2.2.2.2.2.2.2.2.2.2.1) ++ [(q_40, .inr (10, [.int TT.2.2.2.1, .int TT.2.2.2.2.1, .int TT.2.2.2.2.2.2.1, .int TT.2.2.2.2.2.2.2.1, .int TT.2.2.2.2.2.2.2.2.1, .int TT.2.2.2.2.2.2.2.2.2.1, .int TT.2.2.2.2.2.2.2.2.2.2.1, .ref q_47_1, .int TT.2.2.2.2.2.2.2.2.2.2.2.1, .ref q_47_2, .int TT.2.2.2.2.2.1])), (q_47_1, .inl (ty 5, 2, .inr (.inr (.inr (.inr (fun _ => none)))))), (q_47_2, .inl (ty 5, 5, .inr (.inr (.inr (.inr (fun _ => none))))))])))) (wq_B D A) A) (vx_X (fun u : String × va_W => (TT.1 = 2 ∧ u = ("java/lang/IllegalArgumentException", (wW_k_X10_addWeak ty X pn TT.2.2.2.2.2.2.2.2.2.2.2.2.1 tn en rf hn kn on TT.2.2.2.2.2.2.2.2.2.2.2.2.2.2.2 pu gw an ch cg fb mh ml ih lb TT.2.2.2.2.2.2.2.2.2.2.2.2.2.1 nn TT.2.2.2.2.2.2.2.2.2.2.2.2.2.2.1))) ∨ (TT.1 = 3 ∧ u = ("java/lang/IllegalStateException", (wW_k_X10_addWeak ty X pn TT.2.2.2.2.2.2.2.2.2.2.2.2.1 tn en rf hn kn on TT.2.2.2.2.2.2.2.2.2.2.2.2.2.2.2 pu gw an ch cg fb mh ml ih lb TT.2.2.2.2.2.2.2.2.2.2.2.2.2.1 nn TT.2.2.2.2.2.2.2.2.2.2.2.2.2.2.1)))) (wq_BX D A) A) ([.ref (X 0), .int a1, .int a2, .int a3] : List Value).toArray s 6 36 A) (F0 m pc ls [.int r]) := by
    intro q_40 q_47_1 q_47_2 r w9_0 w9_1 w9_2 w9_3 w9_4 w9_5 w9_6 w9_7 w9_8 w9_9 w9_10 w9_11 w9_12 hT H locs hP hD hS ls pc hd
    have hM : TT = (0, 0, r, w9_0, w9_1, w9_2, w9_3, w9_4, w9_5, w9_6, w9_7, w9_8, w9_9, w9_10, w9_11, w9_12) := hT
    refine vx_ret ?_
    exact W.iret (v := r) hx hb hr (fun t ht hW => ⟨⟨r, ((wW_k_X10_addWeak ty X pn w9_9 tn en rf hn kn on w9_12 pu gw an ch cg fb mh ml ih lb w9_10 nn w9_11) ++ [(q_40, .inr (10, [.int w9_0, .int w9_1, .int w9_3, .int w9_4, .int w9_5, .int w9_6, .int w9_7, .ref q_47_1, .int w9_8, .ref q_47_2, .int w9_2])), (q_47_1, .inl (ty 5, 2, .inr (.inr (.inr (.inr (fun _ => none)))))), (q_47_2, .inl (ty 5, 5, .inr (.inr (.inr (.inr (fun _ => none))))))]), rfl, (Or.inl ⟨q_40, q_47_1, q_47_2, (by rw [hM]), (by rw [hM]), (by rw [hM]), (by rw [hM])⟩), wq_B.of ht hP hD⟩, hS.F ht⟩) hS.2.2 hd
  have END_1 : ∀ (q_40 : Nat) (q_47_1 : Nat) (q_47_2 : Nat) (r : Int32) (w9_0 : Int32) (w9_1 : Int32) (w9_2 : Int32) (w9_3 : Int32) (w9_4 : Int32) (w9_5 : Int32) (w9_6 : Int32) (w9_7 : Int32) (w9_8 : Int32) (w9_9 : Int32) (w9_10 : Int32) (w9_11 : Int32) (w9_12 : Int32), TT = (0, 1, r, w9_0, w9_1, w9_2, w9_3, w9_4, w9_5, w9_6, w9_7, w9_8, w9_9, w9_10, w9_11, w9_12) → ∀ (H : Heap) (locs : List Loc), va_P D vwCl ((wW_k_X10_addWeak ty X pn w9_9 tn en (va_up rf rn.toNatClampNeg (some q_40)) hn kn on w9_12 pu gw an ch cg fb mh ml ih lb w9_10 nn w9_11) ++ [(q_40, .inr (10, [.int w9_0, .int w9_1, .int w9_3, .int w9_4, .int w9_5, .int w9_6, .int w9_7, .ref q_47_1, .int w9_8, .ref q_47_2, .int w9_2])), (q_47_1, .inl (ty 5, 2, .inr (.inr (.inr (.inr (fun _ => none)))))), (q_47_2, .inl (ty 5, 5, .inr (.inr (.inr (.inr (fun _ => none))))))]) H → va_D A ((wW_k_X10_addWeak ty X pn w9_9 tn en (va_up rf rn.toNatClampNeg (some q_40)) hn kn on w9_12 pu gw an ch cg fb mh ml ih lb w9_10 nn w9_11) ++ [(q_40, .inr (10, [.int w9_0, .int w9_1, .int w9_3, .int w9_4, .int w9_5, .int w9_6, .int w9_7, .ref q_47_1, .int w9_8, .ref q_47_2, .int w9_2])), (q_47_1, .inl (ty 5, 2, .inr (.inr (.inr (.inr (fun _ => none)))))), (q_47_2, .inl (ty 5, 5, .inr (.inr (.inr (.inr (fun _ => none))))))]) → va_S A s.heap H locs → ∀ (ls : Array Slot) (pc : Nat), decode cX10_addWeak pc = .ok (.ireturn, 1) → W p l e (headSpec vs_k_X10_addWeak { frames := 7, cells := 6, slots := 36, locals := 103 }).room s m ([.ref (X 0), .int a1, .int a2, .int a3] : List Value).toArray below meth c H locs 6 36 (vx_MQ below (va_Qi (fun (r : Int32) (u : va_W) => (∃ (q_40 : Nat) (q_47_1 : Nat) (q_47_2 : Nat), TT.1 = 0 ∧ TT.2.1 = 0 ∧ r = TT.2.2.1 ∧ (u = ((wW_k_X10_addWeak ty X pn TT.2.2.2.2.2.2.2.2.2.2.2.2.1 tn en rf hn kn on TT.2.2.2.2.2.2.2.2.2.2.2.2.2.2.2 pu gw an ch cg fb mh ml ih lb TT.2.2.2.2.2.2.2.2.2.2.2.2.2.1 nn TT.2.2.2.2.2.2.2.2.2.2.2.2.2.2.1) ++ [(q_40, .inr (10, [.int TT.2.2.2.1, .int TT.2.2.2.2.1, .int TT.2.2.2.2.2.2.1, .int TT.2.2.2.2.2.2.2.1, .int TT.2.2.2.2.2.2.2.2.1, .int TT.2.2.2.2.2.2.2.2.2.1, .int TT.2.2.2.2.2.2.2.2.2.2.1, .ref q_47_1, .int TT.2.2.2.2.2.2.2.2.2.2.2.1, .ref q_47_2, .int TT.2.2.2.2.2.1])), (q_47_1, .inl (ty 5, 2, .inr (.inr (.inr (.inr (fun _ => none)))))), (q_47_2, .inl (ty 5, 5, .inr (.inr (.inr (.inr (fun _ => none))))))]))) ∨ (∃ (q_40 : Nat) (q_47_1 : Nat) (q_47_2 : Nat), TT.1 = 0 ∧ TT.2.1 = 1 ∧ r = TT.2.2.1 ∧ (u = ((wW_k_X10_addWeak ty X pn TT.2.2.2.2.2.2.2.2.2.2.2.2.1 tn en (va_up rf rn.toNatClampNeg (some q_40)) hn kn on TT.2.2.2.2.2.2.2.2.2.2.2.2.2.2.2 pu gw an ch cg fb mh ml ih lb TT.2.2.2.2.2.2.2.2.2.2.2.2.2.1 nn TT.2.2.2.2.2.2.2.2.2.2.2.2.2.2.1) ++ [(q_40, .inr (10, [.int TT.2.2.2.1, .int TT.2.2.2.2.1, .int TT.2.2.2.2.2.2.1, .int TT.2.2.2.2.2.2.2.1, .int TT.2.2.2.2.2.2.2.2.1, .int TT.2.2.2.2.2.2.2.2.2.1, .int TT.2.2.2.2.2.2.2.2.2.2.1, .ref q_47_1, .int TT.2.2.2.2.2.2.2.2.2.2.2.1, .ref q_47_2, .int TT.2.2.2.2.2.1])), (q_47_1, .inl (ty 5, 2, .inr (.inr (.inr (.inr (fun _ => none)))))), (q_47_2, .inl (ty 5, 5, .inr (.inr (.inr (.inr (fun _ => none))))))])))) (wq_B D A) A) (vx_X (fun u : String × va_W => (TT.1 = 2 ∧ u = ("java/lang/IllegalArgumentException", (wW_k_X10_addWeak ty X pn TT.2.2.2.2.2.2.2.2.2.2.2.2.1 tn en rf hn kn on TT.2.2.2.2.2.2.2.2.2.2.2.2.2.2.2 pu gw an ch cg fb mh ml ih lb TT.2.2.2.2.2.2.2.2.2.2.2.2.2.1 nn TT.2.2.2.2.2.2.2.2.2.2.2.2.2.2.1))) ∨ (TT.1 = 3 ∧ u = ("java/lang/IllegalStateException", (wW_k_X10_addWeak ty X pn TT.2.2.2.2.2.2.2.2.2.2.2.2.1 tn en rf hn kn on TT.2.2.2.2.2.2.2.2.2.2.2.2.2.2.2 pu gw an ch cg fb mh ml ih lb TT.2.2.2.2.2.2.2.2.2.2.2.2.2.1 nn TT.2.2.2.2.2.2.2.2.2.2.2.2.2.2.1)))) (wq_BX D A) A) ([.ref (X 0), .int a1, .int a2, .int a3] : List Value).toArray s 6 36 A) (F0 m pc ls [.int r]) := by
    intro q_40 q_47_1 q_47_2 r w9_0 w9_1 w9_2 w9_3 w9_4 w9_5 w9_6 w9_7 w9_8 w9_9 w9_10 w9_11 w9_12 hT H locs hP hD hS ls pc hd
    have hM : TT = (0, 1, r, w9_0, w9_1, w9_2, w9_3, w9_4, w9_5, w9_6, w9_7, w9_8, w9_9, w9_10, w9_11, w9_12) := hT
    refine vx_ret ?_
    exact W.iret (v := r) hx hb hr (fun t ht hW => ⟨⟨r, ((wW_k_X10_addWeak ty X pn w9_9 tn en (va_up rf rn.toNatClampNeg (some q_40)) hn kn on w9_12 pu gw an ch cg fb mh ml ih lb w9_10 nn w9_11) ++ [(q_40, .inr (10, [.int w9_0, .int w9_1, .int w9_3, .int w9_4, .int w9_5, .int w9_6, .int w9_7, .ref q_47_1, .int w9_8, .ref q_47_2, .int w9_2])), (q_47_1, .inl (ty 5, 2, .inr (.inr (.inr (.inr (fun _ => none)))))), (q_47_2, .inl (ty 5, 5, .inr (.inr (.inr (.inr (fun _ => none))))))]), rfl, (Or.inr ⟨q_40, q_47_1, q_47_2, (by rw [hM]), (by rw [hM]), (by rw [hM]), (by rw [hM])⟩), wq_B.of ht hP hD⟩, hS.F ht⟩) hS.2.2 hd
  have hT := hTT
  rw [m_k_X10_addWeak] at hT
  refine lv_aload_n hx hb dX10_addWeak_0 rfl (lv_at hl 0 rfl) ?_
  refine lv_iload_n hx hb dX10_addWeak_1 rfl (lv_at hl 1 rfl) ?_
  obtain ⟨t_2, ht_2⟩ : ∃ t, t = m_k_X10_checkPart a1 := ⟨_, rfl⟩
  rw [lE_eq ht_2] at hT
  refine wq_xvW (wc := []) (vx_runV (As := [.int a1]) (rest := []) ⟨hx, hb, hml, hown, hts⟩ (k_X10_checkPart l hl9 D ty td mi s.heap.size X a1 t_2 ht_2) (cwV 1 hts gv_k_X10_addWeak_0 rfl rfl rfl (by decide +kernel) ⟨(Nat.le_of_ble_eq_true rfl), (Nat.le_of_ble_eq_true rfl)⟩) (wm_V (wm_preS hP hD hK hE hS hA [] rfl) (va_recv (q0 := 0) (ci := 12) hK hP rfl rfl)) rfl rfl hl.1 rfl (lv_room (Nat.le_of_ble_eq_true rfl)) dX10_addWeak_2 ⟨(Nat.le_of_ble_eq_true rfl), (Nat.le_of_ble_eq_true rfl)⟩) hS hA hP hD [] rfl (fun _ h => by rcases h with ⟨-, rfl⟩; rfl) (fun _ _ h => by rcases h with ⟨-, h⟩ <;> (cases h; rfl)) (fun E9 u H locs q9 ce hw hP hD hS hce hcv hcl => ?_) (fun u H locs hw hP hD hS => ?_)
  · obtain ⟨c_1, hEq⟩ := hw
    cases hEq
    rw [if_neg (show ¬ t_2 = 0 by rw [c_1]; decide)] at hT
    have hP : va_P D vwCl (wW_k_X10_addWeak ty X pn rn tn en rf hn kn on cu pu gw an ch cg fb mh ml ih lb ic nn kp) H := hP
    have hD : va_D A (wW_k_X10_addWeak ty X pn rn tn en rf hn kn on cu pu gw an ch cg fb mh ml ih lb ic nn kp) := hD
    refine vx_widen (k := 6) (n := 36) (Nat.le_of_ble_eq_true rfl) (Nat.le_of_ble_eq_true rfl) ?_
    exact vx_out (E := "java/lang/IllegalArgumentException") (fun x hx => (hEx x hx).elim) hlocks hce hcv hcl (fun t ht ha => wq_thrW0 (W := (wW_k_X10_addWeak ty X pn rn tn en rf hn kn on cu pu gw an ch cg fb mh ml ih lb ic nn kp)) hS hP hD (by exact (Or.inl ⟨(by rw [hT]), (by first | rw [hT] | rfl)⟩)) ht) hS.2.2 (Nat.le_refl _) (Nat.le_refl _)
  · obtain ⟨c_2, rfl⟩ := hw
    rw [if_pos c_2] at hT
    have hP : va_P D vwCl (wW_k_X10_addWeak ty X pn rn tn en rf hn kn on cu pu gw an ch cg fb mh ml ih lb ic nn kp) H := hP
    have hD : va_D A (wW_k_X10_addWeak ty X pn rn tn en rf hn kn on cu pu gw an ch cg fb mh ml ih lb ic nn kp) := hD
    refine W.widen (k := 1) (n := 6) (Nat.le_of_ble_eq_true rfl) (Nat.le_of_ble_eq_true rfl) ?_
    refine lv_iload_n hx hb dX10_addWeak_5 rfl (lv_at hl 2 rfl) ?_
    refine lv_bipush (v := (-99)) hx hb dX10_addWeak_6 (by decide) ?_
    have J_17 : ∀ (_ : Unit), TT = m_k_X10_addWeak_17 rn cu ic kp → ∀ (H : Heap) (locs : List Loc), va_P D vwCl (wW_k_X10_addWeak ty X pn rn tn en rf hn kn on cu pu gw an ch cg fb mh ml ih lb ic nn kp) H → va_D A (wW_k_X10_addWeak ty X pn rn tn en rf hn kn on cu pu gw an ch cg fb mh ml ih lb ic nn kp) → va_S A s.heap H locs → ∀ ls : Array Slot, lv_has ls 5 [] → W p l e (headSpec vs_k_X10_addWeak { frames := 7, cells := 6, slots := 36, locals := 103 }).room s m ([.ref (X 0), .int a1, .int a2, .int a3] : List Value).toArray below meth c H locs 1 6 (vx_MQ below (va_Qi (fun (r : Int32) (u : va_W) => (∃ (q_40 : Nat) (q_47_1 : Nat) (q_47_2 : Nat), TT.1 = 0 ∧ TT.2.1 = 0 ∧ r = TT.2.2.1 ∧ (u = ((wW_k_X10_addWeak ty X pn TT.2.2.2.2.2.2.2.2.2.2.2.2.1 tn en rf hn kn on TT.2.2.2.2.2.2.2.2.2.2.2.2.2.2.2 pu gw an ch cg fb mh ml ih lb TT.2.2.2.2.2.2.2.2.2.2.2.2.2.1 nn TT.2.2.2.2.2.2.2.2.2.2.2.2.2.2.1) ++ [(q_40, .inr (10, [.int TT.2.2.2.1, .int TT.2.2.2.2.1, .int TT.2.2.2.2.2.2.1, .int TT.2.2.2.2.2.2.2.1, .int TT.2.2.2.2.2.2.2.2.1, .int TT.2.2.2.2.2.2.2.2.2.1, .int TT.2.2.2.2.2.2.2.2.2.2.1, .ref q_47_1, .int TT.2.2.2.2.2.2.2.2.2.2.2.1, .ref q_47_2, .int TT.2.2.2.2.2.1])), (q_47_1, .inl (ty 5, 2, .inr (.inr (.inr (.inr (fun _ => none)))))), (q_47_2, .inl (ty 5, 5, .inr (.inr (.inr (.inr (fun _ => none))))))]))) ∨ (∃ (q_40 : Nat) (q_47_1 : Nat) (q_47_2 : Nat), TT.1 = 0 ∧ TT.2.1 = 1 ∧ r = TT.2.2.1 ∧ (u = ((wW_k_X10_addWeak ty X pn TT.2.2.2.2.2.2.2.2.2.2.2.2.1 tn en (va_up rf rn.toNatClampNeg (some q_40)) hn kn on TT.2.2.2.2.2.2.2.2.2.2.2.2.2.2.2 pu gw an ch cg fb mh ml ih lb TT.2.2.2.2.2.2.2.2.2.2.2.2.2.1 nn TT.2.2.2.2.2.2.2.2.2.2.2.2.2.2.1) ++ [(q_40, .inr (10, [.int TT.2.2.2.1, .int TT.2.2.2.2.1, .int TT.2.2.2.2.2.2.1, .int TT.2.2.2.2.2.2.2.1, .int TT.2.2.2.2.2.2.2.2.1, .int TT.2.2.2.2.2.2.2.2.2.1, .int TT.2.2.2.2.2.2.2.2.2.2.1, .ref q_47_1, .int TT.2.2.2.2.2.2.2.2.2.2.2.1, .ref q_47_2, .int TT.2.2.2.2.2.1])), (q_47_1, .inl (ty 5, 2, .inr (.inr (.inr (.inr (fun _ => none)))))), (q_47_2, .inl (ty 5, 5, .inr (.inr (.inr (.inr (fun _ => none))))))])))) (wq_B D A) A) (vx_X (fun u : String × va_W => (TT.1 = 2 ∧ u = ("java/lang/IllegalArgumentException", (wW_k_X10_addWeak ty X pn TT.2.2.2.2.2.2.2.2.2.2.2.2.1 tn en rf hn kn on TT.2.2.2.2.2.2.2.2.2.2.2.2.2.2.2 pu gw an ch cg fb mh ml ih lb TT.2.2.2.2.2.2.2.2.2.2.2.2.2.1 nn TT.2.2.2.2.2.2.2.2.2.2.2.2.2.2.1))) ∨ (TT.1 = 3 ∧ u = ("java/lang/IllegalStateException", (wW_k_X10_addWeak ty X pn TT.2.2.2.2.2.2.2.2.2.2.2.2.1 tn en rf hn kn on TT.2.2.2.2.2.2.2.2.2.2.2.2.2.2.2 pu gw an ch cg fb mh ml ih lb TT.2.2.2.2.2.2.2.2.2.2.2.2.2.1 nn TT.2.2.2.2.2.2.2.2.2.2.2.2.2.2.1)))) (wq_BX D A) A) ([.ref (X 0), .int a1, .int a2, .int a3] : List Value).toArray s 6 36 A) (F0 m 17 ls []) := by
      intro _ hT  H locs hP hD hS ls hl
      rw [m_k_X10_addWeak_17] at hT
      obtain ⟨sa, hsa⟩ := hE.st 115 "weights are -99 to 99" (by decide +kernel)
      exact vx_throwS (own := RX10) (cls := "java/lang/IllegalArgumentException") (text := "weights are -99 to 99") (names := ["java/lang/RuntimeException", "java/lang/Exception"]) (ik := 60) (is := 115) (ic := 64) (sa := sa) (A := A) hx hb hl9 hown (by decide +kernel) (by decide +kernel) (hts (.classLink RX10 60 "java/lang/IllegalArgumentException") (by decide +kernel)) (hts (.initialized "java/lang/IllegalArgumentException") (by decide +kernel)) hsa (wq_hat hE hts ix_k_X10_addWeak_64 (by decide +kernel) (by decide +kernel)) (by decide +kernel) hE.zu hE.zs hS (hl.1.trans hml.symm) dX10_addWeak_17 dX10_addWeak_20 dX10_addWeak_21 dX10_addWeak_23 dX10_addWeak_26 (fun x hx => (hEx x hx).elim) (Nat.le_of_ble_eq_true rfl) (Nat.le_of_ble_eq_true rfl) (Nat.le_of_ble_eq_true rfl) (Nat.le_of_ble_eq_true rfl) hlocks (fun t ha hz hk => wq_thrW (W := (wW_k_X10_addWeak ty X pn rn tn en rf hn kn on cu pu gw an ch cg fb mh ml ih lb ic nn kp)) hS hP hD (by exact (Or.inl ⟨(by rw [hT]), (by first | rw [hT] | rfl)⟩)) hz hk) hS.2.2 (Nat.le_of_ble_eq_true rfl) (Nat.le_of_ble_eq_true rfl)
    refine lv_icmp_lt (tgt := 17) hx hb dX10_addWeak_8 (by decide) (fun c_4 => ?_) (fun c_4 => ?_)
    · rw [if_pos c_4] at hT
      exact J_17 () hT _ _ hP hD hS _ (lv_sub hl [] rfl)
    · rw [if_neg c_4] at hT
      refine lv_iload_n hx hb dX10_addWeak_11 rfl (lv_at hl 2 rfl) ?_
      refine lv_bipush (v := 99) hx hb dX10_addWeak_12 (by decide) ?_
      refine lv_icmp_le (tgt := 27) hx hb dX10_addWeak_14 (by decide) (fun c_5 => ?_) (fun c_5 => ?_)
      · rw [if_pos c_5] at hT
        refine lv_aload_n hx hb dX10_addWeak_27 rfl (lv_at hl 0 rfl) ?_
        refine lv_iload_n hx hb dX10_addWeak_28 rfl (lv_at hl 3 rfl) ?_
        obtain ⟨t_29, ht_29⟩ : ∃ t, t = m_k_X10_checkLevel a3 := ⟨_, rfl⟩
        rw [lE_eq ht_29] at hT
        refine wq_xvW (wc := []) (vx_runV (As := [.int a3]) (rest := []) ⟨hx, hb, hml, hown, hts⟩ (k_X10_checkLevel l hl9 D ty td mi H.size X a3 t_29 ht_29) (cwV 1 hts gv_k_X10_addWeak_1 rfl rfl rfl (by decide +kernel) ⟨(Nat.le_of_ble_eq_true rfl), (Nat.le_of_ble_eq_true rfl)⟩) (wm_V (wm_preS hP hD hK hE hS hA [] rfl) (va_recv (q0 := 0) (ci := 12) hK hP rfl rfl)) rfl rfl hl.1 rfl (lv_room (Nat.le_of_ble_eq_true rfl)) dX10_addWeak_29 ⟨(Nat.le_of_ble_eq_true rfl), (Nat.le_of_ble_eq_true rfl)⟩) hS hA hP hD [] rfl (fun _ h => by rcases h with ⟨-, rfl⟩; rfl) (fun _ _ h => by rcases h with ⟨-, h⟩ <;> (cases h; rfl)) (fun E9 u H locs q9 ce hw hP hD hS hce hcv hcl => ?_) (fun u H locs hw hP hD hS => ?_)
        · obtain ⟨c_6, hEq⟩ := hw
          cases hEq
          rw [if_neg (show ¬ t_29 = 0 by rw [c_6]; decide)] at hT
          have hP : va_P D vwCl (wW_k_X10_addWeak ty X pn rn tn en rf hn kn on cu pu gw an ch cg fb mh ml ih lb ic nn kp) H := hP
          have hD : va_D A (wW_k_X10_addWeak ty X pn rn tn en rf hn kn on cu pu gw an ch cg fb mh ml ih lb ic nn kp) := hD
          refine vx_widen (k := 6) (n := 36) (Nat.le_of_ble_eq_true rfl) (Nat.le_of_ble_eq_true rfl) ?_
          exact vx_out (E := "java/lang/IllegalArgumentException") (fun x hx => (hEx x hx).elim) hlocks hce hcv hcl (fun t ht ha => wq_thrW0 (W := (wW_k_X10_addWeak ty X pn rn tn en rf hn kn on cu pu gw an ch cg fb mh ml ih lb ic nn kp)) hS hP hD (by exact (Or.inl ⟨(by rw [hT]), (by first | rw [hT] | rfl)⟩)) ht) hS.2.2 (Nat.le_refl _) (Nat.le_refl _)
        · obtain ⟨c_7, rfl⟩ := hw
          rw [if_pos c_7] at hT
          have hP : va_P D vwCl (wW_k_X10_addWeak ty X pn rn tn en rf hn kn on cu pu gw an ch cg fb mh ml ih lb ic nn kp) H := hP
          have hD : va_D A (wW_k_X10_addWeak ty X pn rn tn en rf hn kn on cu pu gw an ch cg fb mh ml ih lb ic nn kp) := hD
          refine W.widen (k := 2) (n := 12) (Nat.le_of_ble_eq_true rfl) (Nat.le_of_ble_eq_true rfl) ?_
          refine lv_aload_n hx hb dX10_addWeak_32 rfl (lv_at hl 0 rfl) ?_
          obtain ⟨t_33, ht_33⟩ : ∃ t, t = m_k_X10_checkRoomForRule rn := ⟨_, rfl⟩
          rw [lE_eq ht_33] at hT
          refine wq_xvW (wc := (wW_k_X10_checkRoomForRule ty X pn rn tn en)) (vx_runV (As := []) (rest := []) ⟨hx, hb, hml, hown, hts⟩ (k_X10_checkRoomForRule l hl9 D ty td mi H.size X pn rn tn en t_33 ht_33) (cwV 0 hts gv_k_X10_addWeak_2 rfl rfl rfl (by decide +kernel) ⟨(Nat.le_of_ble_eq_true rfl), (Nat.le_of_ble_eq_true rfl)⟩) (wm_V (wm_preS hP hD hK hE hS hA [true, true] rfl) (va_recv (q0 := 0) (ci := 12) hK hP rfl rfl)) rfl rfl hl.1 rfl (lv_room (Nat.le_of_ble_eq_true rfl)) dX10_addWeak_33 ⟨(Nat.le_of_ble_eq_true rfl), (Nat.le_of_ble_eq_true rfl)⟩) hS hA hP hD [true, true] rfl (fun _ h => by rcases h with ⟨-, rfl⟩; rfl) (fun _ _ h => by rcases h with ⟨-, h⟩ <;> (cases h; rfl)) (fun E9 u H locs q9 ce hw hP hD hS hce hcv hcl => ?_) (fun u H locs hw hP hD hS => ?_)
          · obtain ⟨c_9, hEq⟩ := hw
            cases hEq
            rw [if_neg (show ¬ t_33 = 0 by rw [c_9]; decide)] at hT
            have hP : va_P D vwCl (wW_k_X10_addWeak ty X pn rn tn en rf hn kn on cu pu gw an ch cg fb mh ml ih lb ic nn kp) H := hP
            have hD : va_D A (wW_k_X10_addWeak ty X pn rn tn en rf hn kn on cu pu gw an ch cg fb mh ml ih lb ic nn kp) := hD
            refine vx_widen (k := 6) (n := 36) (Nat.le_of_ble_eq_true rfl) (Nat.le_of_ble_eq_true rfl) ?_
            exact vx_out (E := "java/lang/IllegalStateException") (fun x hx => (hEx x hx).elim) hlocks hce hcv hcl (fun t ht ha => wq_thrW0 (W := (wW_k_X10_addWeak ty X pn rn tn en rf hn kn on cu pu gw an ch cg fb mh ml ih lb ic nn kp)) hS hP hD (by exact (Or.inr ⟨(by rw [hT]), (by first | rw [hT] | rfl)⟩)) ht) hS.2.2 (Nat.le_refl _) (Nat.le_refl _)
          · obtain ⟨c_10, rfl⟩ := hw
            rw [if_pos c_10] at hT
            have hP : va_P D vwCl (wW_k_X10_addWeak ty X pn rn tn en rf hn kn on cu pu gw an ch cg fb mh ml ih lb ic nn kp) H := hP
            have hD : va_D A (wW_k_X10_addWeak ty X pn rn tn en rf hn kn on cu pu gw an ch cg fb mh ml ih lb ic nn kp) := hD
            refine W.widen (k := 3) (n := 18) (Nat.le_of_ble_eq_true rfl) (Nat.le_of_ble_eq_true rfl) ?_
            refine lv_aload_n hx hb dX10_addWeak_36 rfl (lv_at hl 0 rfl) ?_
            obtain ⟨t_37, ht_37⟩ : ∃ t, t = m_k_X10_forgetGrounding := ⟨_, rfl⟩
            rw [lE_eq ht_37] at hT
            refine wq_vW (wc := (wW_k_X10_forgetGrounding ty X hn kn on cu pu gw an ch cg fb mh ml ih lb ic nn kp)) (va_runV (As := []) (rest := []) ⟨hx, hb, hml, hown, hts⟩ (k_X10_forgetGrounding l D ty td mi H.size X hn kn on cu pu gw an ch cg fb mh ml ih lb ic nn kp t_37 ht_37) (cwV 0 hts gv_k_X10_addWeak_3 rfl rfl rfl (by decide +kernel) ⟨(Nat.le_of_ble_eq_true rfl), (Nat.le_of_ble_eq_true rfl)⟩) (wm_V (wm_preS hP hD hK hE hS hA [true, false, false, true, true, true] rfl) (va_recv (q0 := 0) (ci := 12) hK hP rfl rfl)) rfl rfl hl.1 rfl (lv_room (Nat.le_of_ble_eq_true rfl)) dX10_addWeak_37 ⟨(Nat.le_of_ble_eq_true rfl), (Nat.le_of_ble_eq_true rfl)⟩) hS hA hP hD [true, false, false, true, true, true] rfl (fun _ h => by rcases h with rfl; rfl) (fun u H locs hw hP hD hS => ?_)
            obtain rfl := hw
            have hP : va_P D vwCl (wW_k_X10_addWeak ty X pn rn tn en rf hn kn on t_37.2.2 pu gw an ch cg fb mh ml ih lb t_37.1 nn t_37.2.1) H := hP
            have hD : va_D A (wW_k_X10_addWeak ty X pn rn tn en rf hn kn on t_37.2.2 pu gw an ch cg fb mh ml ih lb t_37.1 nn t_37.2.1) := hD
            refine W.widen (k := 3) (n := 18) (Nat.le_of_ble_eq_true rfl) (Nat.le_of_ble_eq_true rfl) ?_
            refine va_new (ci := 10) (fs := [.int 0, .int 0, .int 0, .int 0, .int 0, .int 0, .int 0, .null, .int 0, .null, .int 0]) (C := RX8) (T := TX8) (N := 11) hx hb hts iv_k_X10_addWeak_X8 tyX8 tyX8_ok hown (hts (.classLink RX10 90 RX8) (by decide +kernel)) (hts (.instantiable RX8 11) (by decide +kernel)) (hts (.initialized RX8) (by decide +kernel)) hK hP hD hS hA rfl (fun j hj => by rcases (show j = 0 ∨ j = 1 ∨ j = 2 ∨ j = 3 ∨ j = 4 ∨ j = 5 ∨ j = 6 ∨ j = 7 ∨ j = 8 ∨ j = 9 ∨ j = 10 by omega) with rfl | rfl | rfl | rfl | rfl | rfl | rfl | rfl | rfl | rfl | rfl <;> rfl) (Nat.le_of_ble_eq_true rfl) (Nat.le_of_ble_eq_true rfl) dX10_addWeak_40 (fun q_40 H hP hD hS => ?_)
            have hP : va_P D vwCl ((wW_k_X10_addWeak ty X pn rn tn en rf hn kn on t_37.2.2 pu gw an ch cg fb mh ml ih lb t_37.1 nn t_37.2.1) ++ [(q_40, .inr (10, [.int 0, .int 0, .int 0, .int 0, .int 0, .int 0, .int 0, .null, .int 0, .null, .int 0]))]) H := hP
            have hD : va_D A ((wW_k_X10_addWeak ty X pn rn tn en rf hn kn on t_37.2.2 pu gw an ch cg fb mh ml ih lb t_37.1 nn t_37.2.1) ++ [(q_40, .inr (10, [.int 0, .int 0, .int 0, .int 0, .int 0, .int 0, .int 0, .null, .int 0, .null, .int 0]))]) := hD
            refine W.widen (k := 4) (n := 29) (Nat.le_of_ble_eq_true rfl) (Nat.le_of_ble_eq_true rfl) ?_
            refine lv_dup hx hb dX10_addWeak_43 rfl ?_
            refine lv_bipush (v := 119) hx hb dX10_addWeak_44 (by decide) ?_
            refine lv_iload_n hx hb dX10_addWeak_46 rfl (lv_at hl 1 rfl) ?_
            refine wq_vW (wc := [(q_40, .inr (10, [.int 0, .int 0, .int 0, .int 0, .int 0, .int 0, .int 0, .null, .int 0, .null, .int 0]))]) (va_runI (As := [.int 119, .int a1]) (rest := [.ref q_40]) ⟨hx, hb, hml, hown, hts⟩ (k_X8_init_119 l D ty td mi H.size q_40 a1) (cwI 2 hts gv_k_X10_addWeak_5 rfl rfl rfl (hts (.initialized RX8) (by decide +kernel)) (hts (.methodLink RX10 92 yX8_init) (by decide +kernel)) (hts (.instanceMethod yX8_init) (by decide +kernel)) rfl (by decide +kernel) ⟨(Nat.le_of_ble_eq_true rfl), (Nat.le_of_ble_eq_true rfl)⟩) (wm_preS hP hD hK hE hS hA [false, false, false, false, false, false, true] rfl) rfl rfl hl.1 rfl (lv_room (Nat.le_of_ble_eq_true rfl)) dX10_addWeak_47 ⟨(Nat.le_of_ble_eq_true rfl), (Nat.le_of_ble_eq_true rfl)⟩) hS hA hP hD [false, false, false, false, false, false, true] rfl (fun _ h => by rcases h with ⟨_, _, rfl⟩; rfl) (fun u H locs hw hP hD hS => ?_)
            obtain ⟨q_47_1, q_47_2, rfl⟩ := hw
            have hP : va_P D vwCl ((wW_k_X10_addWeak ty X pn rn tn en rf hn kn on t_37.2.2 pu gw an ch cg fb mh ml ih lb t_37.1 nn t_37.2.1) ++ [(q_40, .inr (10, [.int 119, .int a1, .int 0, .int 0, .int (-1), .int 0, .int 0, .ref q_47_1, .int 0, .ref q_47_2, .int 0])), (q_47_1, .inl (ty 5, 2, .inr (.inr (.inr (.inr (fun _ => none)))))), (q_47_2, .inl (ty 5, 5, .inr (.inr (.inr (.inr (fun _ => none))))))]) H := hP
            have hD : va_D A ((wW_k_X10_addWeak ty X pn rn tn en rf hn kn on t_37.2.2 pu gw an ch cg fb mh ml ih lb t_37.1 nn t_37.2.1) ++ [(q_40, .inr (10, [.int 119, .int a1, .int 0, .int 0, .int (-1), .int 0, .int 0, .ref q_47_1, .int 0, .ref q_47_2, .int 0])), (q_47_1, .inl (ty 5, 2, .inr (.inr (.inr (.inr (fun _ => none)))))), (q_47_2, .inl (ty 5, 5, .inr (.inr (.inr (.inr (fun _ => none))))))]) := hD
            refine W.widen (k := 6) (n := 36) (Nat.le_of_ble_eq_true rfl) (Nat.le_of_ble_eq_true rfl) ?_
            refine lv_astore (lv' := [(4, .ref q_40), (0, .ref (X 0)), (1, .int a1), (2, .int a2), (3, .int a3)]) hx hb dX10_addWeak_50 hl (by decide) rfl (fun ls hl => ?_)
            refine lv_aload hx hb dX10_addWeak_52 (lv_at hl 0 rfl) ?_
            refine lv_iload_n hx hb dX10_addWeak_54 rfl (lv_at hl 3 rfl) ?_
            refine va_putN (D := D) (ci := 10) (v := .int a2) (ty := tyX8 5) (C := RX8) (T := TX8) (N := 11) hx hb hts iv_k_X10_addWeak_X8 tyX8 tyX8_ok nmX8 hown hK hP hD hS 6 rfl rfl 5 (by decide) (hE.at (.fieldLinkNest "AnswerFold" 120 "AnswerFold$Rule" "weight" "I" "AnswerFold") (by decide +kernel)) (fun _ h9 => h9) rfl (by decide +kernel) rfl rfl (Nat.le_of_ble_eq_true rfl) dX10_addWeak_55 (fun H locs hP hD hS => ?_)
            have hP : va_P D vwCl ((wW_k_X10_addWeak ty X pn rn tn en rf hn kn on t_37.2.2 pu gw an ch cg fb mh ml ih lb t_37.1 nn t_37.2.1) ++ [(q_40, .inr (10, [.int 119, .int a1, .int 0, .int 0, .int (-1), .int a2, .int 0, .ref q_47_1, .int 0, .ref q_47_2, .int 0])), (q_47_1, .inl (ty 5, 2, .inr (.inr (.inr (.inr (fun _ => none)))))), (q_47_2, .inl (ty 5, 5, .inr (.inr (.inr (.inr (fun _ => none))))))]) H := hP
            have hD : va_D A ((wW_k_X10_addWeak ty X pn rn tn en rf hn kn on t_37.2.2 pu gw an ch cg fb mh ml ih lb t_37.1 nn t_37.2.1) ++ [(q_40, .inr (10, [.int 119, .int a1, .int 0, .int 0, .int (-1), .int a2, .int 0, .ref q_47_1, .int 0, .ref q_47_2, .int 0])), (q_47_1, .inl (ty 5, 2, .inr (.inr (.inr (.inr (fun _ => none)))))), (q_47_2, .inl (ty 5, 5, .inr (.inr (.inr (.inr (fun _ => none))))))]) := hD
            refine lv_aload hx hb dX10_addWeak_58 (lv_at hl 0 rfl) ?_
            refine lv_iload_n hx hb dX10_addWeak_60 rfl (lv_at hl 4 rfl) ?_
            refine va_putN (D := D) (ci := 10) (v := .int a3) (ty := tyX8 6) (C := RX8) (T := TX8) (N := 11) hx hb hts iv_k_X10_addWeak_X8 tyX8 tyX8_ok nmX8 hown hK hP hD hS 6 rfl rfl 6 (by decide) (hE.at (.fieldLinkNest "AnswerFold" 123 "AnswerFold$Rule" "level" "I" "AnswerFold") (by decide +kernel)) (fun _ h9 => h9) rfl (by decide +kernel) rfl rfl (Nat.le_of_ble_eq_true rfl) dX10_addWeak_61 (fun H locs hP hD hS => ?_)
            have hP : va_P D vwCl ((wW_k_X10_addWeak ty X pn rn tn en rf hn kn on t_37.2.2 pu gw an ch cg fb mh ml ih lb t_37.1 nn t_37.2.1) ++ [(q_40, .inr (10, [.int 119, .int a1, .int 0, .int 0, .int (-1), .int a2, .int a3, .ref q_47_1, .int 0, .ref q_47_2, .int 0])), (q_47_1, .inl (ty 5, 2, .inr (.inr (.inr (.inr (fun _ => none)))))), (q_47_2, .inl (ty 5, 5, .inr (.inr (.inr (.inr (fun _ => none))))))]) H := hP
            have hD : va_D A ((wW_k_X10_addWeak ty X pn rn tn en rf hn kn on t_37.2.2 pu gw an ch cg fb mh ml ih lb t_37.1 nn t_37.2.1) ++ [(q_40, .inr (10, [.int 119, .int a1, .int 0, .int 0, .int (-1), .int a2, .int a3, .ref q_47_1, .int 0, .ref q_47_2, .int 0])), (q_47_1, .inl (ty 5, 2, .inr (.inr (.inr (.inr (fun _ => none)))))), (q_47_2, .inl (ty 5, 5, .inr (.inr (.inr (.inr (fun _ => none))))))]) := hD
            refine lv_aload_n hx hb dX10_addWeak_64 rfl (lv_at hl 1 rfl) ?_
            refine va_get (D := D) (ci := 12) (v := .ref (X 1)) (C := RX10) (T := TX10) (N := 7) hx hb hts iv_k_X10_addWeak_X10 hown hK hP 0 rfl rfl 0 (by decide) (hts (.fieldLink RX10 12 "AnswerFold" "program" "LAnswerFold$Program;") (by decide +kernel)) (fun _ h9 => h9) rfl dX10_addWeak_65 ?_
            refine lv_aload hx hb dX10_addWeak_68 (lv_at hl 0 rfl) ?_
            obtain ⟨t_70, ht_70⟩ : ∃ t, t = m_k_X6_tellRule rn := ⟨_, rfl⟩
            rw [lE_eq ht_70] at hT
            refine wq_iW (wc := (wW_k_X6_tellRule ty X q_40 q_47_1 q_47_2 pn rn tn en rf (119) a1 (0) (0) (-1) a2 a3 (0) (0))) (va_runV (As := [.ref q_40]) (rest := []) ⟨hx, hb, hml, hown, hts⟩ (k_X6_tellRule l D ty td mi H.size X pn rn tn en rf q_40 119 a1 0 0 (-1) a2 a3 q_47_1 0 q_47_2 0 t_70 ht_70) (cwV 1 hts gv_k_X10_addWeak_6 rfl rfl rfl (by decide +kernel) ⟨(Nat.le_of_ble_eq_true rfl), (Nat.le_of_ble_eq_true rfl)⟩) (wm_V (wm_preS hP hD hK hE hS hA [false, true, true, false, false, false, true] rfl) (va_recv (q0 := 1) (ci := 8) hK hP rfl rfl)) rfl rfl hl.1 rfl (lv_room (Nat.le_of_ble_eq_true rfl)) dX10_addWeak_70 ⟨(Nat.le_of_ble_eq_true rfl), (Nat.le_of_ble_eq_true rfl)⟩) hS hA hP hD [false, true, true, false, false, false, true] rfl (fun _ _ h => by rcases h with ⟨-, -, rfl⟩ | ⟨-, -, rfl⟩ <;> rfl) (fun r u H locs hw hP hD hS => ?_)
            rcases hw with ⟨c_15, rfl, rfl⟩ | ⟨c_17, rfl, rfl⟩
            · rw [if_pos c_15] at hT
              have hP : va_P D vwCl ((wW_k_X10_addWeak ty X pn t_70.2.2 tn en rf hn kn on t_37.2.2 pu gw an ch cg fb mh ml ih lb t_37.1 nn t_37.2.1) ++ [(q_40, .inr (10, [.int 119, .int a1, .int 0, .int 0, .int (-1), .int a2, .int a3, .ref q_47_1, .int 0, .ref q_47_2, .int 0])), (q_47_1, .inl (ty 5, 2, .inr (.inr (.inr (.inr (fun _ => none)))))), (q_47_2, .inl (ty 5, 5, .inr (.inr (.inr (.inr (fun _ => none))))))]) H := hP
              have hD : va_D A ((wW_k_X10_addWeak ty X pn t_70.2.2 tn en rf hn kn on t_37.2.2 pu gw an ch cg fb mh ml ih lb t_37.1 nn t_37.2.1) ++ [(q_40, .inr (10, [.int 119, .int a1, .int 0, .int 0, .int (-1), .int a2, .int a3, .ref q_47_1, .int 0, .ref q_47_2, .int 0])), (q_47_1, .inl (ty 5, 2, .inr (.inr (.inr (.inr (fun _ => none)))))), (q_47_2, .inl (ty 5, 5, .inr (.inr (.inr (.inr (fun _ => none))))))]) := hD
              refine W.widen (k := 6) (n := 36) (Nat.le_of_ble_eq_true rfl) (Nat.le_of_ble_eq_true rfl) ?_
              exact END_0 q_40 q_47_1 q_47_2 t_70.2.1 119 a1 0 0 0 (-1) a2 a3 0 t_70.2.2 t_37.1 t_37.2.1 t_37.2.2 hT _ _ hP hD hS _ _ dX10_addWeak_73
            · rw [if_neg (show ¬ t_70.1 = 0 by rw [c_17]; decide)] at hT
              have hP : va_P D vwCl ((wW_k_X10_addWeak ty X pn t_70.2.2 tn en (va_up rf rn.toNatClampNeg (some q_40)) hn kn on t_37.2.2 pu gw an ch cg fb mh ml ih lb t_37.1 nn t_37.2.1) ++ [(q_40, .inr (10, [.int 119, .int a1, .int 0, .int 0, .int (-1), .int a2, .int a3, .ref q_47_1, .int 0, .ref q_47_2, .int 0])), (q_47_1, .inl (ty 5, 2, .inr (.inr (.inr (.inr (fun _ => none)))))), (q_47_2, .inl (ty 5, 5, .inr (.inr (.inr (.inr (fun _ => none))))))]) H := hP
              have hD : va_D A ((wW_k_X10_addWeak ty X pn t_70.2.2 tn en (va_up rf rn.toNatClampNeg (some q_40)) hn kn on t_37.2.2 pu gw an ch cg fb mh ml ih lb t_37.1 nn t_37.2.1) ++ [(q_40, .inr (10, [.int 119, .int a1, .int 0, .int 0, .int (-1), .int a2, .int a3, .ref q_47_1, .int 0, .ref q_47_2, .int 0])), (q_47_1, .inl (ty 5, 2, .inr (.inr (.inr (.inr (fun _ => none)))))), (q_47_2, .inl (ty 5, 5, .inr (.inr (.inr (.inr (fun _ => none))))))]) := hD
              refine W.widen (k := 6) (n := 36) (Nat.le_of_ble_eq_true rfl) (Nat.le_of_ble_eq_true rfl) ?_
              exact END_1 q_40 q_47_1 q_47_2 t_70.2.1 119 a1 0 0 0 (-1) a2 a3 0 t_70.2.2 t_37.1 t_37.2.1 t_37.2.2 hT _ _ hP hD hS _ _ dX10_addWeak_73
      · rw [if_neg c_5] at hT
        exact J_17 () hT _ _ hP hD hS _ (lv_sub hl [] rfl)
def wW_k_X6_ruleAt_l (ty : Nat → ClassId) (X : Nat → Nat) (z9_0 : Int32) (z9_1 : Int32) (z9_2 : Int32) (z9_3 : Int32) (z9_4 : Nat → Option Nat) : va_W := [((X 1), .inr (8, [.ref (X 2), .int z9_0, .ref (X 3), .int z9_1, .ref (X 4), .ref (X 5), .int z9_2, .ref (X 6), .ref (X 7), .int z9_3])), ((X 3), .inl (ty 4, 20, .inr (.inr (.inr (.inr z9_4)))))]
def vs_k_X6_ruleAt_l : List Cond := .code yX6_ruleAt cX6_ruleAt 2 (some (.object "AnswerFold$Rule")) :: ([.fieldLink RX6 45 "AnswerFold$Program" "ruleCount" "I", .fieldLink RX6 17 "AnswerFold$Program" "rules" "[LAnswerFold$Rule;"] ++ (u_ws RX6 TX6 10))
theorem iv_k_X6_ruleAt_l_X6 : ∀ w ∈ u_ws RX6 TX6 10, w ∈ vs_k_X6_ruleAt_l := (fun _ h => List.mem_cons_of_mem _ (List.mem_append_right _ (h)))
set_option maxHeartbeats 4000000 in
set_option maxRecDepth 100000 in
theorem k_X6_ruleAt_l (l : Launch) (D : va_G) (ty : Nat → ClassId) (td mi sz : Nat) (X : Nat → Nat) (pn : Int32) (rn : Int32) (tn : Int32) (en : Int32) (rf : Nat → Option Nat) (a1 : Int32) (TT : r_k_X6_ruleAt_l) (hTT : TT = m_k_X6_ruleAt_l rn rf a1) : Met l yX6_ruleAt vs_k_X6_ruleAt_l { frames := 0, cells := 0, slots := 0, locals := 0 } (va_Pc [.ref (X 1), .int a1] (wq_P D ty td mi (wW_k_X6_ruleAt_l ty X pn rn tn en rf) sz)) (wq_Qr (fun (r : Value) (u : va_W) => (r = va_rf TT ∧ (u = (wW_k_X6_ruleAt_l ty X pn rn tn en rf)))) (wq_B D (va_A (wW_k_X6_ruleAt_l ty X pn rn tn en rf) sz)) (va_A (wW_k_X6_ruleAt_l ty X pn rn tn en rf) sz)) 0 0 (va_A (wW_k_X6_ruleAt_l ty X pn rn tn en rf) sz) := by
  refine Met.ofW (cc := cX6_ruleAt) (maxL := 2) (ret := (some (.object "AnswerFold$Rule"))) (by decide) rfl ?_
  intro p e s m args below meth c s₁ B hml hv
  obtain ⟨rfl, hsz, hP, hK, hD0, hE⟩ := hv
  have hx := B.exec
  have hb := B.bytes
  have hr := B.returns
  have hts := atoms_spec (ws := vs_k_X6_ruleAt_l) B.pre
  have hown : s.vm.findClass RX6 = some m.cls := findClass_of_methodNamed B.named
  have hlocks := B.notSynchronized
  subst hsz
  have hD := hD0.self (sz := s.heap.size)
  generalize hAe : va_A (wW_k_X6_ruleAt_l ty X pn rn tn en rf) s.heap.size = A at hD hE ⊢
  have hA : ∀ q : Nat, s.heap.size ≤ q → A q := fun q h => by rw [← hAe]; exact Or.inr h
  have hS : va_S A s.heap s.heap [] := va_S.rf
  have hP : va_P D vwCl (wW_k_X6_ruleAt_l ty X pn rn tn en rf) s.heap := hP
  have hl := lv_entry ([.ref (X 1), .int a1]) (n := 2) (Nat.le_of_ble_eq_true rfl)
  rw [lg_entry_eq]
  generalize (lg_sl ([.ref (X 1), .int a1]) ++ List.replicate (2 - (lg_sl ([.ref (X 1), .int a1])).length) Slot.unset).toArray = ls at hl ⊢
  have hl : lv_has ls 2 [(0, .ref (X 1)), (1, .int a1)] := hl
  have END : ∀ (r : Option Nat), TT = r → ∀ (H : Heap) (locs : List Loc), va_P D vwCl (wW_k_X6_ruleAt_l ty X pn rn tn en rf) H → va_D A (wW_k_X6_ruleAt_l ty X pn rn tn en rf) → va_S A s.heap H locs → ∀ (ls : Array Slot) (pc : Nat), decode cX6_ruleAt pc = .ok (.areturn, 1) → W p l e (headSpec vs_k_X6_ruleAt_l { frames := 0, cells := 0, slots := 0, locals := 0 }).room s m ([.ref (X 1), .int a1] : List Value).toArray below meth c H locs 0 0 (MQ below (wq_Qr (fun (r : Value) (u : va_W) => (r = va_rf TT ∧ (u = (wW_k_X6_ruleAt_l ty X pn rn tn en rf)))) (wq_B D A) A) ([.ref (X 1), .int a1] : List Value).toArray s 0 0 A) (F0 m pc ls [va_rf r]) := by
    intro r hT H locs hP hD hS ls pc hd
    have hM : TT = r := hT
    cases r with
    | none => exact W.aret (v := .null) hx hb hr (Or.inl ⟨_, rfl⟩) (Or.inl rfl) (fun t ht hW => ⟨⟨.null, (wW_k_X6_ruleAt_l ty X pn rn tn en rf), rfl, ⟨(by rw [hM]; rfl), rfl⟩, wq_B.of ht hP hD⟩, hS.F ht⟩) hS.2.2 hd
    | some r => exact W.aret (v := .ref r) hx hb hr (Or.inl ⟨_, rfl⟩) (Or.inr ⟨_, rfl⟩) (fun t ht hW => ⟨⟨.ref r, (wW_k_X6_ruleAt_l ty X pn rn tn en rf), rfl, ⟨(by rw [hM]; rfl), rfl⟩, wq_B.of ht hP hD⟩, hS.F ht⟩) hS.2.2 hd
  have hT := hTT
  rw [m_k_X6_ruleAt_l] at hT
  refine lv_iload_n hx hb dX6_ruleAt_0 rfl (lv_at hl 1 rfl) ?_
  refine lv_if_lt (tgt := 27) hx hb dX6_ruleAt_1 (by decide) (fun c_1 => ?_) (fun c_1 => ?_)
  · rw [if_pos c_1] at hT
    refine lv_null hx hb dX6_ruleAt_27 ?_
    exact END none hT _ _ hP hD hS _ _ dX6_ruleAt_28
  · rw [if_neg c_1] at hT
    refine lv_iload_n hx hb dX6_ruleAt_4 rfl (lv_at hl 1 rfl) ?_
    refine lv_aload_n hx hb dX6_ruleAt_5 rfl (lv_at hl 0 rfl) ?_
    refine va_get (D := D) (ci := 8) (v := .int rn) (C := RX6) (T := TX6) (N := 10) hx hb hts iv_k_X6_ruleAt_l_X6 hown hK hP 0 rfl rfl 3 (by decide) (hts (.fieldLink RX6 45 "AnswerFold$Program" "ruleCount" "I") (by decide +kernel)) (fun _ h9 => h9) rfl dX6_ruleAt_6 ?_
    refine lv_icmp_ge (tgt := 27) hx hb dX6_ruleAt_9 (by decide) (fun c_2 => ?_) (fun c_2 => ?_)
    · rw [if_pos c_2] at hT
      refine lv_null hx hb dX6_ruleAt_27 ?_
      exact END none hT _ _ hP hD hS _ _ dX6_ruleAt_28
    · rw [if_neg c_2] at hT
      refine lv_iload_n hx hb dX6_ruleAt_12 rfl (lv_at hl 1 rfl) ?_
      refine lv_bipush (v := 20) hx hb dX6_ruleAt_13 (by decide) ?_
      refine lv_icmp_ge (tgt := 27) hx hb dX6_ruleAt_15 (by decide) (fun c_3 => ?_) (fun c_3 => ?_)
      · rw [if_pos c_3] at hT
        refine lv_null hx hb dX6_ruleAt_27 ?_
        exact END none hT _ _ hP hD hS _ _ dX6_ruleAt_28
      · rw [if_neg c_3] at hT
        refine lv_aload_n hx hb dX6_ruleAt_18 rfl (lv_at hl 0 rfl) ?_
        refine va_get (D := D) (ci := 8) (v := .ref (X 3)) (C := RX6) (T := TX6) (N := 10) hx hb hts iv_k_X6_ruleAt_l_X6 hown hK hP 0 rfl rfl 2 (by decide) (hts (.fieldLink RX6 17 "AnswerFold$Program" "rules" "[LAnswerFold$Rule;") (by decide +kernel)) (fun _ h9 => h9) rfl dX6_ruleAt_19 ?_
        refine lv_iload_n hx hb dX6_ruleAt_22 rfl (lv_at hl 1 rfl) ?_
        refine va_aldq (D := D) hx hb hK hP 1 4 rfl rfl (wi_in (wi_lo c_1) (wi_hi c_3 (by decide))) dX6_ruleAt_23 ?_
        rcases ho_23 : rf a1.toNatClampNeg with _ | o_23
        · rw [ho_23, oE_none] at hT
          refine W.eq (g2 := F0 m 24 ls [.null]) rfl ?_
          refine lv_goto (tgt := 28) hx hb dX6_ruleAt_24 (by decide) ?_
          exact END none hT _ _ hP hD hS _ _ dX6_ruleAt_28
        · rw [ho_23, oE_some] at hT
          refine W.eq (g2 := F0 m 24 ls [.ref o_23]) rfl ?_
          refine lv_goto (tgt := 28) hx hb dX6_ruleAt_24 (by decide) ?_
          exact END (some o_23) hT _ _ hP hD hS _ _ dX6_ruleAt_28
def wW_k_X8_hasSpan_l (ty : Nat → ClassId) (y0 : Nat) (y1 : Nat) (y2 : Nat) (z9_0 : Int32) (z9_1 : Int32) (z9_2 : Int32) (z9_3 : Int32) (z9_4 : Int32) (z9_5 : Int32) (z9_6 : Int32) (z9_7 : Int32) (z9_8 : Int32) : va_W := [(y0, .inr (10, [.int z9_0, .int z9_1, .int z9_2, .int z9_3, .int z9_4, .int z9_5, .int z9_6, .ref y1, .int z9_7, .ref y2, .int z9_8]))]
def vs_k_X8_hasSpan_l : List Cond := .code yX8_hasSpan cX8_hasSpan 1 (some .boolean) :: ([.fieldLink RX8 9 "AnswerFold$Rule" "span" "I"] ++ (u_ws RX8 TX8 11))
theorem iv_k_X8_hasSpan_l_X8 : ∀ w ∈ u_ws RX8 TX8 11, w ∈ vs_k_X8_hasSpan_l := (fun _ h => List.mem_cons_of_mem _ (List.mem_append_right _ (h)))
set_option maxHeartbeats 4000000 in
set_option maxRecDepth 100000 in
theorem k_X8_hasSpan_l (l : Launch) (D : va_G) (ty : Nat → ClassId) (td mi sz : Nat) (y0 : Nat) (y_k : Int32) (y_p : Int32) (y_lo : Int32) (y_up : Int32) (y_sp : Int32) (y_we : Int32) (y_le : Int32) (y1 : Nat) (y_hc : Int32) (y2 : Nat) (y_cc : Int32) (TT : r_k_X8_hasSpan_l) (hTT : TT = m_k_X8_hasSpan_l y_sp) : Met l yX8_hasSpan vs_k_X8_hasSpan_l { frames := 0, cells := 0, slots := 0, locals := 0 } (va_Pc [.ref y0] (wq_P D ty td mi (wW_k_X8_hasSpan_l ty y0 y1 y2 y_k y_p y_lo y_up y_sp y_we y_le y_hc y_cc) sz)) (va_Qi (fun (r : Int32) (u : va_W) => (r = TT ∧ (TT = 0 ∨ TT = 1) ∧ (u = (wW_k_X8_hasSpan_l ty y0 y1 y2 y_k y_p y_lo y_up y_sp y_we y_le y_hc y_cc)))) (wq_B D (va_A (wW_k_X8_hasSpan_l ty y0 y1 y2 y_k y_p y_lo y_up y_sp y_we y_le y_hc y_cc) sz)) (va_A (wW_k_X8_hasSpan_l ty y0 y1 y2 y_k y_p y_lo y_up y_sp y_we y_le y_hc y_cc) sz)) 0 0 (va_A (wW_k_X8_hasSpan_l ty y0 y1 y2 y_k y_p y_lo y_up y_sp y_we y_le y_hc y_cc) sz) := by
  refine Met.ofW (cc := cX8_hasSpan) (maxL := 1) (ret := (some .boolean)) (by decide) rfl ?_
  intro p e s m args below meth c s₁ B hml hv
  obtain ⟨rfl, hsz, hP, hK, hD0, hE⟩ := hv
  have hx := B.exec
  have hb := B.bytes
  have hr := B.returns
  have hts := atoms_spec (ws := vs_k_X8_hasSpan_l) B.pre
  have hown : s.vm.findClass RX8 = some m.cls := findClass_of_methodNamed B.named
  have hlocks := B.notSynchronized
  subst hsz
  have hD := hD0.self (sz := s.heap.size)
  generalize hAe : va_A (wW_k_X8_hasSpan_l ty y0 y1 y2 y_k y_p y_lo y_up y_sp y_we y_le y_hc y_cc) s.heap.size = A at hD hE ⊢
  have hA : ∀ q : Nat, s.heap.size ≤ q → A q := fun q h => by rw [← hAe]; exact Or.inr h
  have hS : va_S A s.heap s.heap [] := va_S.rf
  have hP : va_P D vwCl (wW_k_X8_hasSpan_l ty y0 y1 y2 y_k y_p y_lo y_up y_sp y_we y_le y_hc y_cc) s.heap := hP
  have hl := lv_entry ([.ref y0]) (n := 1) (Nat.le_of_ble_eq_true rfl)
  rw [lg_entry_eq]
  generalize (lg_sl ([.ref y0]) ++ List.replicate (1 - (lg_sl ([.ref y0])).length) Slot.unset).toArray = ls at hl ⊢
  have hl : lv_has ls 1 [(0, .ref y0)] := hl
  have END : ∀ (r : Int32), TT = r → (r = 0 ∨ r = 1) → ∀ (H : Heap) (locs : List Loc), va_P D vwCl (wW_k_X8_hasSpan_l ty y0 y1 y2 y_k y_p y_lo y_up y_sp y_we y_le y_hc y_cc) H → va_D A (wW_k_X8_hasSpan_l ty y0 y1 y2 y_k y_p y_lo y_up y_sp y_we y_le y_hc y_cc) → va_S A s.heap H locs → ∀ (ls : Array Slot) (pc : Nat), decode cX8_hasSpan pc = .ok (.ireturn, 1) → W p l e (headSpec vs_k_X8_hasSpan_l { frames := 0, cells := 0, slots := 0, locals := 0 }).room s m ([.ref y0] : List Value).toArray below meth c H locs 0 0 (MQ below (va_Qi (fun (r : Int32) (u : va_W) => (r = TT ∧ (TT = 0 ∨ TT = 1) ∧ (u = (wW_k_X8_hasSpan_l ty y0 y1 y2 y_k y_p y_lo y_up y_sp y_we y_le y_hc y_cc)))) (wq_B D A) A) ([.ref y0] : List Value).toArray s 0 0 A) (F0 m pc ls [.int r]) := by
    intro r hT hb01 H locs hP hD hS ls pc hd
    have hM : TT = r := hT
    exact W.zret (v := r) hx hb hr (wz_nar hb01) (fun t ht hW => ⟨⟨r, (wW_k_X8_hasSpan_l ty y0 y1 y2 y_k y_p y_lo y_up y_sp y_we y_le y_hc y_cc), rfl, ⟨(by rw [hM]), (by rw [hM]; exact hb01), rfl⟩, wq_B.of ht hP hD⟩, hS.F ht⟩) hS.2.2 hd
  have hT := hTT
  rw [m_k_X8_hasSpan_l] at hT
  refine lv_aload_n hx hb dX8_hasSpan_0 rfl (lv_at hl 0 rfl) ?_
  refine va_get (D := D) (ci := 10) (v := .int y_sp) (C := RX8) (T := TX8) (N := 11) hx hb hts iv_k_X8_hasSpan_l_X8 hown hK hP 0 rfl rfl 4 (by decide) (hts (.fieldLink RX8 9 "AnswerFold$Rule" "span" "I") (by decide +kernel)) (fun _ h9 => h9) rfl dX8_hasSpan_1 ?_
  refine lv_iconst (v := (-1)) hx hb dX8_hasSpan_4 (by decide) ?_
  refine lv_icmp_eq (tgt := 12) hx hb dX8_hasSpan_5 (by decide) (fun c_1 => ?_) (fun c_1 => ?_)
  · rw [if_pos c_1] at hT
    refine lv_iconst (v := 0) hx hb dX8_hasSpan_12 (by decide) ?_
    exact END 0 hT (by decide) _ _ hP hD hS _ _ dX8_hasSpan_13
  · rw [if_neg c_1] at hT
    refine lv_iconst (v := 1) hx hb dX8_hasSpan_8 (by decide) ?_
    refine lv_goto (tgt := 13) hx hb dX8_hasSpan_9 (by decide) ?_
    exact END 1 hT (by decide) _ _ hP hD hS _ _ dX8_hasSpan_13
theorem dX10_isBodyTerm_0 : decode cX10_isBodyTerm 0 = .ok (.iload_n 1, 1) := by decide +kernel
theorem dX10_isBodyTerm_1 : decode cX10_isBodyTerm 1 = .ok (.bipush 12, 2) := by decide +kernel
theorem dX10_isBodyTerm_3 : decode cX10_isBodyTerm 3 = .ok (.if_icmp .eq 15, 3) := by decide +kernel
theorem dX10_isBodyTerm_6 : decode cX10_isBodyTerm 6 = .ok (.iload_n 1, 1) := by decide +kernel
theorem dX10_isBodyTerm_7 : decode cX10_isBodyTerm 7 = .ok (.bipush 22, 2) := by decide +kernel
theorem dX10_isBodyTerm_9 : decode cX10_isBodyTerm 9 = .ok (.if_icmp .eq 9, 3) := by decide +kernel
theorem dX10_isBodyTerm_12 : decode cX10_isBodyTerm 12 = .ok (.iload_n 1, 1) := by decide +kernel
theorem dX10_isBodyTerm_13 : decode cX10_isBodyTerm 13 = .ok (.bipush 32, 2) := by decide +kernel
theorem dX10_isBodyTerm_15 : decode cX10_isBodyTerm 15 = .ok (.if_icmp .ne 7, 3) := by decide +kernel
theorem dX10_isBodyTerm_18 : decode cX10_isBodyTerm 18 = .ok (.iconst 1, 1) := by decide +kernel
theorem dX10_isBodyTerm_19 : decode cX10_isBodyTerm 19 = .ok (.goto 4, 3) := by decide +kernel
theorem dX10_isBodyTerm_22 : decode cX10_isBodyTerm 22 = .ok (.iconst 0, 1) := by decide +kernel
theorem dX10_isBodyTerm_23 : decode cX10_isBodyTerm 23 = .ok (.istore_n 2, 1) := by decide +kernel
theorem dX10_isBodyTerm_24 : decode cX10_isBodyTerm 24 = .ok (.iload_n 1, 1) := by decide +kernel
theorem dX10_isBodyTerm_25 : decode cX10_isBodyTerm 25 = .ok (.invokestatic 139, 3) := by decide +kernel
theorem dX10_isBodyTerm_28 : decode cX10_isBodyTerm 28 = .ok (.ifCond .eq 18, 3) := by decide +kernel
theorem dX10_isBodyTerm_31 : decode cX10_isBodyTerm 31 = .ok (.iload_n 2, 1) := by decide +kernel
theorem dX10_isBodyTerm_32 : decode cX10_isBodyTerm 32 = .ok (.ifCond .eq 10, 3) := by decide +kernel
theorem dX10_isBodyTerm_35 : decode cX10_isBodyTerm 35 = .ok (.aload_n 0, 1) := by decide +kernel
theorem dX10_isBodyTerm_36 : decode cX10_isBodyTerm 36 = .ok (.invokevirtual 377, 3) := by decide +kernel
theorem dX10_isBodyTerm_39 : decode cX10_isBodyTerm 39 = .ok (.ifCond .ne 7, 3) := by decide +kernel
theorem dX10_isBodyTerm_42 : decode cX10_isBodyTerm 42 = .ok (.iconst 1, 1) := by decide +kernel
theorem dX10_isBodyTerm_43 : decode cX10_isBodyTerm 43 = .ok (.goto 4, 3) := by decide +kernel
theorem dX10_isBodyTerm_46 : decode cX10_isBodyTerm 46 = .ok (.iconst 0, 1) := by decide +kernel
theorem dX10_isBodyTerm_47 : decode cX10_isBodyTerm 47 = .ok (.ireturn, 1) := by decide +kernel
def wW_k_X10_isBodyTerm (ty : Nat → ClassId) (y0 : Nat) (y1 : Nat) (y2 : Nat) (z9_0 : Int32) (z9_1 : Int32) (z9_2 : Int32) (z9_3 : Int32) (z9_4 : Int32) (z9_5 : Int32) (z9_6 : Int32) (z9_7 : Int32) (z9_8 : Int32) : va_W := [(y0, .inr (10, [.int z9_0, .int z9_1, .int z9_2, .int z9_3, .int z9_4, .int z9_5, .int z9_6, .ref y1, .int z9_7, .ref y2, .int z9_8]))]
def vs_k_X10_isBodyTerm : List Cond := .code yX10_isBodyTerm cX10_isBodyTerm 3 (some .boolean) :: ([.methodLink RX10 139 yX10_isTerm, .static yX10_isTerm, .initialized RX10, .methodLink RX10 377 yX8_hasSpan, .instanceMethod yX8_hasSpan, .selects RX8 yX8_hasSpan yX8_hasSpan, .initialized RX8] ++ (vs_k_X10_isTerm ++ (vs_k_X8_hasSpan_l)))
set_option maxRecDepth 20000 in
theorem gv_k_X10_isBodyTerm_0 : GoodIn vs_k_X10_isBodyTerm (va_wsS RX10 139 yX10_isTerm vs_k_X10_isTerm) := goodIn_app (goodIn_sub (by decide +kernel) (by decide +kernel)) (goodIn_sub (fun _ h => List.mem_cons_of_mem _ (List.mem_append_right _ (List.mem_append_left _ h))) (by decide +kernel))
set_option maxRecDepth 20000 in
theorem gv_k_X10_isBodyTerm_1 : GoodIn vs_k_X10_isBodyTerm (wsV RX10 377 RX8 yX8_hasSpan vs_k_X8_hasSpan_l) := goodIn_app (goodIn_sub (by decide +kernel) (by decide +kernel)) (goodIn_sub (fun _ h => List.mem_cons_of_mem _ (List.mem_append_right _ (List.mem_append_right _ (h)))) (by decide +kernel))
set_option maxHeartbeats 4000000 in
set_option maxRecDepth 100000 in
theorem k_X10_isBodyTerm (l : Launch) (D : va_G) (ty : Nat → ClassId) (td mi sz : Nat) (y0 : Nat) (y_k : Int32) (y_p : Int32) (y_lo : Int32) (y_up : Int32) (y_sp : Int32) (y_we : Int32) (y_le : Int32) (y1 : Nat) (y_hc : Int32) (y2 : Nat) (y_cc : Int32) (a1 : Int32) (TT : r_k_X10_isBodyTerm) (hTT : TT = m_k_X10_isBodyTerm y_sp a1) : Met l yX10_isBodyTerm vs_k_X10_isBodyTerm { frames := 2, cells := 0, slots := 0, locals := 40 } (va_Pc [.ref y0, .int a1] (wq_P D ty td mi (wW_k_X10_isBodyTerm ty y0 y1 y2 y_k y_p y_lo y_up y_sp y_we y_le y_hc y_cc) sz)) (va_Qi (fun (r : Int32) (u : va_W) => (r = TT ∧ (TT = 0 ∨ TT = 1) ∧ (u = (wW_k_X10_isBodyTerm ty y0 y1 y2 y_k y_p y_lo y_up y_sp y_we y_le y_hc y_cc)))) (wq_B D (va_A (wW_k_X10_isBodyTerm ty y0 y1 y2 y_k y_p y_lo y_up y_sp y_we y_le y_hc y_cc) sz)) (va_A (wW_k_X10_isBodyTerm ty y0 y1 y2 y_k y_p y_lo y_up y_sp y_we y_le y_hc y_cc) sz)) 0 0 (va_A (wW_k_X10_isBodyTerm ty y0 y1 y2 y_k y_p y_lo y_up y_sp y_we y_le y_hc y_cc) sz) := by
  refine Met.ofW (cc := cX10_isBodyTerm) (maxL := 3) (ret := (some .boolean)) (by decide) rfl ?_
  intro p e s m args below meth c s₁ B hml hv
  obtain ⟨rfl, hsz, hP, hK, hD0, hE⟩ := hv
  have hx := B.exec
  have hb := B.bytes
  have hr := B.returns
  have hts := atoms_spec (ws := vs_k_X10_isBodyTerm) B.pre
  have hown : s.vm.findClass RX10 = some m.cls := findClass_of_methodNamed B.named
  have hlocks := B.notSynchronized
  subst hsz
  have hD := hD0.self (sz := s.heap.size)
  generalize hAe : va_A (wW_k_X10_isBodyTerm ty y0 y1 y2 y_k y_p y_lo y_up y_sp y_we y_le y_hc y_cc) s.heap.size = A at hD hE ⊢
  have hA : ∀ q : Nat, s.heap.size ≤ q → A q := fun q h => by rw [← hAe]; exact Or.inr h
  have hS : va_S A s.heap s.heap [] := va_S.rf
  have hP : va_P D vwCl (wW_k_X10_isBodyTerm ty y0 y1 y2 y_k y_p y_lo y_up y_sp y_we y_le y_hc y_cc) s.heap := hP
  have hl := lv_entry ([.ref y0, .int a1]) (n := 3) (Nat.le_of_ble_eq_true rfl)
  rw [lg_entry_eq]
  generalize (lg_sl ([.ref y0, .int a1]) ++ List.replicate (3 - (lg_sl ([.ref y0, .int a1])).length) Slot.unset).toArray = ls at hl ⊢
  have hl : lv_has ls 3 [(0, .ref y0), (1, .int a1)] := hl
  have END : ∀ (r : Int32), TT = r → (r = 0 ∨ r = 1) → ∀ (H : Heap) (locs : List Loc), va_P D vwCl (wW_k_X10_isBodyTerm ty y0 y1 y2 y_k y_p y_lo y_up y_sp y_we y_le y_hc y_cc) H → va_D A (wW_k_X10_isBodyTerm ty y0 y1 y2 y_k y_p y_lo y_up y_sp y_we y_le y_hc y_cc) → va_S A s.heap H locs → ∀ (ls : Array Slot) (pc : Nat), decode cX10_isBodyTerm pc = .ok (.ireturn, 1) → W p l e (headSpec vs_k_X10_isBodyTerm { frames := 2, cells := 0, slots := 0, locals := 40 }).room s m ([.ref y0, .int a1] : List Value).toArray below meth c H locs 0 0 (MQ below (va_Qi (fun (r : Int32) (u : va_W) => (r = TT ∧ (TT = 0 ∨ TT = 1) ∧ (u = (wW_k_X10_isBodyTerm ty y0 y1 y2 y_k y_p y_lo y_up y_sp y_we y_le y_hc y_cc)))) (wq_B D A) A) ([.ref y0, .int a1] : List Value).toArray s 0 0 A) (F0 m pc ls [.int r]) := by
    intro r hT hb01 H locs hP hD hS ls pc hd
    have hM : TT = r := hT
    exact W.zret (v := r) hx hb hr (wz_nar hb01) (fun t ht hW => ⟨⟨r, (wW_k_X10_isBodyTerm ty y0 y1 y2 y_k y_p y_lo y_up y_sp y_we y_le y_hc y_cc), rfl, ⟨(by rw [hM]), (by rw [hM]; exact hb01), rfl⟩, wq_B.of ht hP hD⟩, hS.F ht⟩) hS.2.2 hd
  have hT := hTT
  rw [m_k_X10_isBodyTerm] at hT
  refine lv_iload_n hx hb dX10_isBodyTerm_0 rfl (lv_at hl 1 rfl) ?_
  refine lv_bipush (v := 12) hx hb dX10_isBodyTerm_1 (by decide) ?_
  have J_23 : ∀ (s0_23 : Int32), TT = m_k_X10_isBodyTerm_23 y_sp a1 s0_23 → s0_23 = 0 ∨ s0_23 = 1 → ∀ (H : Heap) (locs : List Loc), va_P D vwCl (wW_k_X10_isBodyTerm ty y0 y1 y2 y_k y_p y_lo y_up y_sp y_we y_le y_hc y_cc) H → va_D A (wW_k_X10_isBodyTerm ty y0 y1 y2 y_k y_p y_lo y_up y_sp y_we y_le y_hc y_cc) → va_S A s.heap H locs → ∀ ls : Array Slot, lv_has ls 3 [(0, .ref y0), (1, .int a1)] → W p l e (headSpec vs_k_X10_isBodyTerm { frames := 2, cells := 0, slots := 0, locals := 40 }).room s m ([.ref y0, .int a1] : List Value).toArray below meth c H locs 0 0 (MQ below (va_Qi (fun (r : Int32) (u : va_W) => (r = TT ∧ (TT = 0 ∨ TT = 1) ∧ (u = (wW_k_X10_isBodyTerm ty y0 y1 y2 y_k y_p y_lo y_up y_sp y_we y_le y_hc y_cc)))) (wq_B D A) A) ([.ref y0, .int a1] : List Value).toArray s 0 0 A) (F0 m 23 ls [.int s0_23]) := by
    intro s0_23 hT hb_s0_23 H locs hP hD hS ls hl
    rw [m_k_X10_isBodyTerm_23] at hT
    refine lv_istore_n (lv' := [(2, .int s0_23), (0, .ref y0), (1, .int a1)]) hx hb dX10_isBodyTerm_23 rfl hl (by decide) rfl (fun ls hl => ?_)
    refine lv_iload_n hx hb dX10_isBodyTerm_24 rfl (lv_at hl 2 rfl) ?_
    obtain ⟨t_25, ht_25⟩ : ∃ t, t = m_k_X10_isTerm a1 := ⟨_, rfl⟩
    rw [lE_eq ht_25] at hT
    refine wq_iW (wc := []) (va_runS (As := [.int a1]) (rest := []) ⟨hx, hb, hml, hown, hts⟩ (k_X10_isTerm l D ty td mi H.size a1 t_25 ht_25) (va_cwS 1 hts gv_k_X10_isBodyTerm_0 rfl rfl rfl (by decide +kernel) ⟨(Nat.le_of_ble_eq_true rfl), (Nat.le_of_ble_eq_true rfl)⟩) (wm_preS hP hD hK hE hS hA [] rfl) rfl rfl hl.1 rfl (lv_room (Nat.le_of_ble_eq_true rfl)) dX10_isBodyTerm_25 ⟨(Nat.le_of_ble_eq_true rfl), (Nat.le_of_ble_eq_true rfl)⟩) hS hA hP hD [] rfl (fun _ _ h => by rcases h with ⟨-, -, rfl⟩; rfl) (fun r u H locs hw hP hD hS => ?_)
    obtain ⟨hr0, c_3, rfl⟩ := hw
    subst r
    have hP : va_P D vwCl (wW_k_X10_isBodyTerm ty y0 y1 y2 y_k y_p y_lo y_up y_sp y_we y_le y_hc y_cc) H := hP
    have hD : va_D A (wW_k_X10_isBodyTerm ty y0 y1 y2 y_k y_p y_lo y_up y_sp y_we y_le y_hc y_cc) := hD
    refine W.widen (k := 0) (n := 0) (Nat.le_of_ble_eq_true rfl) (Nat.le_of_ble_eq_true rfl) ?_
    refine lv_if_eq (tgt := 46) hx hb dX10_isBodyTerm_28 (by decide) (fun c_4 => ?_) (fun c_4 => ?_)
    · rw [if_pos c_4] at hT
      refine lv_iconst (v := 0) hx hb dX10_isBodyTerm_46 (by decide) ?_
      exact END 0 hT (by decide) _ _ hP hD hS _ _ dX10_isBodyTerm_47
    · rw [if_neg c_4] at hT
      refine lv_iload_n hx hb dX10_isBodyTerm_31 rfl (lv_at hl 0 rfl) ?_
      have J_42 : ∀ (_ : Unit), TT = m_k_X10_isBodyTerm_42 → ∀ (H : Heap) (locs : List Loc), va_P D vwCl (wW_k_X10_isBodyTerm ty y0 y1 y2 y_k y_p y_lo y_up y_sp y_we y_le y_hc y_cc) H → va_D A (wW_k_X10_isBodyTerm ty y0 y1 y2 y_k y_p y_lo y_up y_sp y_we y_le y_hc y_cc) → va_S A s.heap H locs → ∀ ls : Array Slot, lv_has ls 3 [] → W p l e (headSpec vs_k_X10_isBodyTerm { frames := 2, cells := 0, slots := 0, locals := 40 }).room s m ([.ref y0, .int a1] : List Value).toArray below meth c H locs 0 0 (MQ below (va_Qi (fun (r : Int32) (u : va_W) => (r = TT ∧ (TT = 0 ∨ TT = 1) ∧ (u = (wW_k_X10_isBodyTerm ty y0 y1 y2 y_k y_p y_lo y_up y_sp y_we y_le y_hc y_cc)))) (wq_B D A) A) ([.ref y0, .int a1] : List Value).toArray s 0 0 A) (F0 m 42 ls []) := by
        intro _ hT  H locs hP hD hS ls hl
        rw [m_k_X10_isBodyTerm_42] at hT
        refine lv_iconst (v := 1) hx hb dX10_isBodyTerm_42 (by decide) ?_
        refine lv_goto (tgt := 47) hx hb dX10_isBodyTerm_43 (by decide) ?_
        exact END 1 hT (by decide) _ _ hP hD hS _ _ dX10_isBodyTerm_47
      refine lv_if_eq (tgt := 42) hx hb dX10_isBodyTerm_32 (by decide) (fun c_5 => ?_) (fun c_5 => ?_)
      · rw [if_pos c_5] at hT
        exact J_42 () hT _ _ hP hD hS _ (lv_sub hl [] rfl)
      · rw [if_neg c_5] at hT
        refine lv_aload_n hx hb dX10_isBodyTerm_35 rfl (lv_at hl 1 rfl) ?_
        obtain ⟨t_36, ht_36⟩ : ∃ t, t = m_k_X8_hasSpan_l y_sp := ⟨_, rfl⟩
        rw [lE_eq ht_36] at hT
        refine wq_iW (wc := (wW_k_X8_hasSpan_l ty y0 y1 y2 y_k y_p y_lo y_up y_sp y_we y_le y_hc y_cc)) (va_runV (As := []) (rest := []) ⟨hx, hb, hml, hown, hts⟩ (k_X8_hasSpan_l l D ty td mi H.size y0 y_k y_p y_lo y_up y_sp y_we y_le y1 y_hc y2 y_cc t_36 ht_36) (cwV 0 hts gv_k_X10_isBodyTerm_1 rfl rfl rfl (by decide +kernel) ⟨(Nat.le_of_ble_eq_true rfl), (Nat.le_of_ble_eq_true rfl)⟩) (wm_V (wm_preS hP hD hK hE hS hA [true] rfl) (va_recv (q0 := 0) (ci := 10) hK hP rfl rfl)) rfl rfl hl.1 rfl (lv_room (Nat.le_of_ble_eq_true rfl)) dX10_isBodyTerm_36 ⟨(Nat.le_of_ble_eq_true rfl), (Nat.le_of_ble_eq_true rfl)⟩) hS hA hP hD [true] rfl (fun _ _ h => by rcases h with ⟨-, -, rfl⟩; rfl) (fun r u H locs hw hP hD hS => ?_)
        obtain ⟨hr0, c_8, rfl⟩ := hw
        subst r
        have hP : va_P D vwCl (wW_k_X10_isBodyTerm ty y0 y1 y2 y_k y_p y_lo y_up y_sp y_we y_le y_hc y_cc) H := hP
        have hD : va_D A (wW_k_X10_isBodyTerm ty y0 y1 y2 y_k y_p y_lo y_up y_sp y_we y_le y_hc y_cc) := hD
        refine W.widen (k := 0) (n := 0) (Nat.le_of_ble_eq_true rfl) (Nat.le_of_ble_eq_true rfl) ?_
        refine lv_if_ne (tgt := 46) hx hb dX10_isBodyTerm_39 (by decide) (fun c_9 => ?_) (fun c_9 => ?_)
        · rw [if_neg c_9] at hT
          refine lv_iconst (v := 0) hx hb dX10_isBodyTerm_46 (by decide) ?_
          exact END 0 hT (by decide) _ _ hP hD hS _ _ dX10_isBodyTerm_47
        · rw [if_pos c_9] at hT
          exact J_42 () hT _ _ hP hD hS _ (lv_sub hl [] rfl)
  have J_18 : ∀ (_ : Unit), TT = m_k_X10_isBodyTerm_18 y_sp a1 → ∀ (H : Heap) (locs : List Loc), va_P D vwCl (wW_k_X10_isBodyTerm ty y0 y1 y2 y_k y_p y_lo y_up y_sp y_we y_le y_hc y_cc) H → va_D A (wW_k_X10_isBodyTerm ty y0 y1 y2 y_k y_p y_lo y_up y_sp y_we y_le y_hc y_cc) → va_S A s.heap H locs → ∀ ls : Array Slot, lv_has ls 3 [(0, .ref y0), (1, .int a1)] → W p l e (headSpec vs_k_X10_isBodyTerm { frames := 2, cells := 0, slots := 0, locals := 40 }).room s m ([.ref y0, .int a1] : List Value).toArray below meth c H locs 0 0 (MQ below (va_Qi (fun (r : Int32) (u : va_W) => (r = TT ∧ (TT = 0 ∨ TT = 1) ∧ (u = (wW_k_X10_isBodyTerm ty y0 y1 y2 y_k y_p y_lo y_up y_sp y_we y_le y_hc y_cc)))) (wq_B D A) A) ([.ref y0, .int a1] : List Value).toArray s 0 0 A) (F0 m 18 ls []) := by
    intro _ hT  H locs hP hD hS ls hl
    rw [m_k_X10_isBodyTerm_18] at hT
    refine lv_iconst (v := 1) hx hb dX10_isBodyTerm_18 (by decide) ?_
    refine lv_goto (tgt := 23) hx hb dX10_isBodyTerm_19 (by decide) ?_
    exact J_23 1 hT (by decide) _ _ hP hD hS _ (lv_sub hl [0, 1] rfl)
  refine lv_icmp_eq (tgt := 18) hx hb dX10_isBodyTerm_3 (by decide) (fun c_10 => ?_) (fun c_10 => ?_)
  · rw [if_pos c_10] at hT
    exact J_18 () hT _ _ hP hD hS _ (lv_sub hl [0, 1] rfl)
  · rw [if_neg c_10] at hT
    refine lv_iload_n hx hb dX10_isBodyTerm_6 rfl (lv_at hl 1 rfl) ?_
    refine lv_bipush (v := 22) hx hb dX10_isBodyTerm_7 (by decide) ?_
    refine lv_icmp_eq (tgt := 18) hx hb dX10_isBodyTerm_9 (by decide) (fun c_11 => ?_) (fun c_11 => ?_)
    · rw [if_pos c_11] at hT
      exact J_18 () hT _ _ hP hD hS _ (lv_sub hl [0, 1] rfl)
    · rw [if_neg c_11] at hT
      refine lv_iload_n hx hb dX10_isBodyTerm_12 rfl (lv_at hl 1 rfl) ?_
      refine lv_bipush (v := 32) hx hb dX10_isBodyTerm_13 (by decide) ?_
      refine lv_icmp_ne (tgt := 22) hx hb dX10_isBodyTerm_15 (by decide) (fun c_12 => ?_) (fun c_12 => ?_)
      · rw [if_neg c_12] at hT
        refine lv_iconst (v := 0) hx hb dX10_isBodyTerm_22 (by decide) ?_
        exact J_23 0 hT (by decide) _ _ hP hD hS _ (lv_sub hl [0, 1] rfl)
      · rw [if_pos c_12] at hT
        exact J_18 () hT _ _ hP hD hS _ (lv_sub hl [0, 1] rfl)
theorem dX10_checkRoomForCondition_0 : decode cX10_checkRoomForCondition 0 = .ok (.aload_n 1, 1) := by decide +kernel
theorem dX10_checkRoomForCondition_1 : decode cX10_checkRoomForCondition 1 = .ok (.getfield 366, 3) := by decide +kernel
theorem dX10_checkRoomForCondition_4 : decode cX10_checkRoomForCondition 4 = .ok (.iconst 5, 1) := by decide +kernel
theorem dX10_checkRoomForCondition_5 : decode cX10_checkRoomForCondition 5 = .ok (.if_icmp .lt 14, 3) := by decide +kernel
theorem dX10_checkRoomForCondition_8 : decode cX10_checkRoomForCondition 8 = .ok (.new 71, 3) := by decide +kernel
theorem dX10_checkRoomForCondition_11 : decode cX10_checkRoomForCondition 11 = .ok (.dup, 1) := by decide +kernel
theorem dX10_checkRoomForCondition_12 : decode cX10_checkRoomForCondition 12 = .ok (.ldc_w 369, 3) := by decide +kernel
theorem dX10_checkRoomForCondition_15 : decode cX10_checkRoomForCondition 15 = .ok (.invokespecial 75, 3) := by decide +kernel
theorem dX10_checkRoomForCondition_18 : decode cX10_checkRoomForCondition 18 = .ok (.athrow, 1) := by decide +kernel
theorem dX10_checkRoomForCondition_19 : decode cX10_checkRoomForCondition 19 = .ok (.return_, 1) := by decide +kernel
def wW_k_X10_checkRoomForCondition (ty : Nat → ClassId) (y0 : Nat) (y1 : Nat) (y2 : Nat) (z9_0 : Int32) (z9_1 : Int32) (z9_2 : Int32) (z9_3 : Int32) (z9_4 : Int32) (z9_5 : Int32) (z9_6 : Int32) (z9_7 : Int32) (z9_8 : Int32) : va_W := [(y0, .inr (10, [.int z9_0, .int z9_1, .int z9_2, .int z9_3, .int z9_4, .int z9_5, .int z9_6, .ref y1, .int z9_7, .ref y2, .int z9_8]))]
def vs_k_X10_checkRoomForCondition : List Cond := .code yX10_checkRoomForCondition cX10_checkRoomForCondition 2 none :: ([.classLink RX10 71 "java/lang/IllegalStateException", .initialized "java/lang/IllegalStateException"] ++ (u_ws RX8 TX8 11 ++ ((vx_atS RX10 75 "java/lang/IllegalStateException" ["java/lang/RuntimeException", "java/lang/Exception"]).filter goodWord)))
theorem iv_k_X10_checkRoomForCondition_X8 : ∀ w ∈ u_ws RX8 TX8 11, w ∈ vs_k_X10_checkRoomForCondition := (fun _ h => List.mem_cons_of_mem _ (List.mem_append_right _ (List.mem_append_left _ h)))
theorem ix_k_X10_checkRoomForCondition_75 : ∀ w ∈ (vx_atS RX10 75 "java/lang/IllegalStateException" ["java/lang/RuntimeException", "java/lang/Exception"]).filter goodWord, w ∈ vs_k_X10_checkRoomForCondition := (fun _ h => List.mem_cons_of_mem _ (List.mem_append_right _ (List.mem_append_right _ (h))))
set_option maxHeartbeats 4000000 in
set_option maxRecDepth 100000 in
theorem k_X10_checkRoomForCondition (l : Launch) (hl9 : l.stackTraces = false) (D : va_G) (ty : Nat → ClassId) (td mi sz : Nat) (X : Nat → Nat) (y0 : Nat) (y_k : Int32) (y_p : Int32) (y_lo : Int32) (y_up : Int32) (y_sp : Int32) (y_we : Int32) (y_le : Int32) (y1 : Nat) (y_hc : Int32) (y2 : Nat) (y_cc : Int32) (TT : r_k_X10_checkRoomForCondition) (hTT : TT = m_k_X10_checkRoomForCondition y_cc) : vx_Met l yX10_checkRoomForCondition vs_k_X10_checkRoomForCondition { frames := 6, cells := 1, slots := 6, locals := 82 } (va_Pc [.ref (X 0), .ref y0] (wq_P D ty td mi (wW_k_X10_checkRoomForCondition ty y0 y1 y2 y_k y_p y_lo y_up y_sp y_we y_le y_hc y_cc) sz)) (va_Qv (fun u : va_W => (TT = 0 ∧ (u = (wW_k_X10_checkRoomForCondition ty y0 y1 y2 y_k y_p y_lo y_up y_sp y_we y_le y_hc y_cc)))) (wq_B D (va_A (wW_k_X10_checkRoomForCondition ty y0 y1 y2 y_k y_p y_lo y_up y_sp y_we y_le y_hc y_cc) sz)) (va_A (wW_k_X10_checkRoomForCondition ty y0 y1 y2 y_k y_p y_lo y_up y_sp y_we y_le y_hc y_cc) sz)) (vx_X (fun u : String × va_W => (TT = 3 ∧ u = ("java/lang/IllegalStateException", (wW_k_X10_checkRoomForCondition ty y0 y1 y2 y_k y_p y_lo y_up y_sp y_we y_le y_hc y_cc)))) (wq_BX D (va_A (wW_k_X10_checkRoomForCondition ty y0 y1 y2 y_k y_p y_lo y_up y_sp y_we y_le y_hc y_cc) sz)) (va_A (wW_k_X10_checkRoomForCondition ty y0 y1 y2 y_k y_p y_lo y_up y_sp y_we y_le y_hc y_cc) sz)) 1 6 (va_A (wW_k_X10_checkRoomForCondition ty y0 y1 y2 y_k y_p y_lo y_up y_sp y_we y_le y_hc y_cc) sz) := by
  refine vx_ofW (cc := cX10_checkRoomForCondition) (maxL := 2) (ret := none) (by decide) rfl ?_
  intro p e s m args below meth c s₁ B hml hEx hv
  obtain ⟨rfl, hsz, hP, hK, hD0, hE⟩ := hv
  have hx := B.exec
  have hb := B.bytes
  have hr := B.returns
  have hts := atoms_spec (ws := vs_k_X10_checkRoomForCondition) B.pre
  have hown : s.vm.findClass RX10 = some m.cls := findClass_of_methodNamed B.named
  have hlocks := B.notSynchronized
  subst hsz
  have hD := hD0.self (sz := s.heap.size)
  generalize hAe : va_A (wW_k_X10_checkRoomForCondition ty y0 y1 y2 y_k y_p y_lo y_up y_sp y_we y_le y_hc y_cc) s.heap.size = A at hD hE ⊢
  have hA : ∀ q : Nat, s.heap.size ≤ q → A q := fun q h => by rw [← hAe]; exact Or.inr h
  have hS : va_S A s.heap s.heap [] := va_S.rf
  have hP : va_P D vwCl (wW_k_X10_checkRoomForCondition ty y0 y1 y2 y_k y_p y_lo y_up y_sp y_we y_le y_hc y_cc) s.heap := hP
  have hl := lv_entry ([.ref (X 0), .ref y0]) (n := 2) (Nat.le_of_ble_eq_true rfl)
  rw [lg_entry_eq]
  generalize (lg_sl ([.ref (X 0), .ref y0]) ++ List.replicate (2 - (lg_sl ([.ref (X 0), .ref y0])).length) Slot.unset).toArray = ls at hl ⊢
  have hl : lv_has ls 2 [(0, .ref (X 0)), (1, .ref y0)] := hl
  have END : ∀ (_ : Unit), TT = 0 → ∀ (H : Heap) (locs : List Loc), va_P D vwCl (wW_k_X10_checkRoomForCondition ty y0 y1 y2 y_k y_p y_lo y_up y_sp y_we y_le y_hc y_cc) H → va_D A (wW_k_X10_checkRoomForCondition ty y0 y1 y2 y_k y_p y_lo y_up y_sp y_we y_le y_hc y_cc) → va_S A s.heap H locs → ∀ (ls : Array Slot) (pc : Nat), decode cX10_checkRoomForCondition pc = .ok (.return_, 1) → W p l e (headSpec vs_k_X10_checkRoomForCondition { frames := 6, cells := 1, slots := 6, locals := 82 }).room s m ([.ref (X 0), .ref y0] : List Value).toArray below meth c H locs 1 6 (vx_MQ below (va_Qv (fun u : va_W => (TT = 0 ∧ (u = (wW_k_X10_checkRoomForCondition ty y0 y1 y2 y_k y_p y_lo y_up y_sp y_we y_le y_hc y_cc)))) (wq_B D A) A) (vx_X (fun u : String × va_W => (TT = 3 ∧ u = ("java/lang/IllegalStateException", (wW_k_X10_checkRoomForCondition ty y0 y1 y2 y_k y_p y_lo y_up y_sp y_we y_le y_hc y_cc)))) (wq_BX D A) A) ([.ref (X 0), .ref y0] : List Value).toArray s 1 6 A) (F0 m pc ls []) := by
    intro _ hT H locs hP hD hS ls pc hd
    have hM : TT = 0 := hT
    refine vx_ret ?_
    exact W.vret hx hb hr (fun t ht hW => ⟨⟨(wW_k_X10_checkRoomForCondition ty y0 y1 y2 y_k y_p y_lo y_up y_sp y_we y_le y_hc y_cc), rfl, ⟨(by rw [hM]), rfl⟩, wq_B.of ht hP hD⟩, hS.F ht⟩) hS.2.2 hd
  have hT := hTT
  rw [m_k_X10_checkRoomForCondition] at hT
  refine lv_aload_n hx hb dX10_checkRoomForCondition_0 rfl (lv_at hl 1 rfl) ?_
  refine va_getN (D := D) (ci := 10) (v := .int y_cc) (C := RX8) (T := TX8) (N := 11) hx hb hts iv_k_X10_checkRoomForCondition_X8 hown hK hP 0 rfl rfl 10 (by decide) (hE.at (.fieldLinkNest "AnswerFold" 366 "AnswerFold$Rule" "conditionCount" "I" "AnswerFold") (by decide +kernel)) (fun _ h9 => h9) rfl dX10_checkRoomForCondition_1 ?_
  refine lv_iconst (v := 5) hx hb dX10_checkRoomForCondition_4 (by decide) ?_
  refine lv_icmp_lt (tgt := 19) hx hb dX10_checkRoomForCondition_5 (by decide) (fun c_1 => ?_) (fun c_1 => ?_)
  · rw [if_pos c_1] at hT
    refine W.widen (k := 1) (n := 6) (Nat.le_of_ble_eq_true rfl) (Nat.le_of_ble_eq_true rfl) ?_
    exact END () hT _ _ hP hD hS _ _ dX10_checkRoomForCondition_19
  · rw [if_neg c_1] at hT
    obtain ⟨sa, hsa⟩ := hE.st 369 "there are 5 conditions" (by decide +kernel)
    exact vx_throwSW (own := RX10) (cls := "java/lang/IllegalStateException") (text := "there are 5 conditions") (names := ["java/lang/RuntimeException", "java/lang/Exception"]) (ik := 71) (is := 369) (ic := 75) (sa := sa) (A := A) hx hb hl9 hown (by decide +kernel) (by decide +kernel) (hts (.classLink RX10 71 "java/lang/IllegalStateException") (by decide +kernel)) (hts (.initialized "java/lang/IllegalStateException") (by decide +kernel)) hsa (wq_hat hE hts ix_k_X10_checkRoomForCondition_75 (by decide +kernel) (by decide +kernel)) (by decide +kernel) hE.zu hE.zs hS (hl.1.trans hml.symm) dX10_checkRoomForCondition_8 dX10_checkRoomForCondition_11 dX10_checkRoomForCondition_12 dX10_checkRoomForCondition_15 dX10_checkRoomForCondition_18 (fun x hx => (hEx x hx).elim) (Nat.le_of_ble_eq_true rfl) (Nat.le_of_ble_eq_true rfl) (Nat.le_of_ble_eq_true rfl) (Nat.le_of_ble_eq_true rfl) hlocks (fun t ha hz hk => wq_thrW (W := (wW_k_X10_checkRoomForCondition ty y0 y1 y2 y_k y_p y_lo y_up y_sp y_we y_le y_hc y_cc)) hS hP hD (by exact ⟨(by rw [hT]), (by first | rw [hT] | rfl)⟩) hz hk) hS.2.2 (Nat.le_of_ble_eq_true rfl) (Nat.le_of_ble_eq_true rfl)
theorem dX10_atomLiteral_0 : decode cX10_atomLiteral 0 = .ok (.new 178, 3) := by decide +kernel
theorem dX10_atomLiteral_3 : decode cX10_atomLiteral 3 = .ok (.dup, 1) := by decide +kernel
theorem dX10_atomLiteral_4 : decode cX10_atomLiteral 4 = .ok (.iload_n 0, 1) := by decide +kernel
theorem dX10_atomLiteral_5 : decode cX10_atomLiteral 5 = .ok (.iload_n 1, 1) := by decide +kernel
theorem dX10_atomLiteral_6 : decode cX10_atomLiteral 6 = .ok (.iconst 0, 1) := by decide +kernel
theorem dX10_atomLiteral_7 : decode cX10_atomLiteral 7 = .ok (.iload_n 2, 1) := by decide +kernel
theorem dX10_atomLiteral_8 : decode cX10_atomLiteral 8 = .ok (.ifCond .le 7, 3) := by decide +kernel
theorem dX10_atomLiteral_11 : decode cX10_atomLiteral 11 = .ok (.iload_n 3, 1) := by decide +kernel
theorem dX10_atomLiteral_12 : decode cX10_atomLiteral 12 = .ok (.goto 4, 3) := by decide +kernel
theorem dX10_atomLiteral_15 : decode cX10_atomLiteral 15 = .ok (.iconst 0, 1) := by decide +kernel
theorem dX10_atomLiteral_16 : decode cX10_atomLiteral 16 = .ok (.iload_n 2, 1) := by decide +kernel
theorem dX10_atomLiteral_17 : decode cX10_atomLiteral 17 = .ok (.iconst 1, 1) := by decide +kernel
theorem dX10_atomLiteral_18 : decode cX10_atomLiteral 18 = .ok (.if_icmp .le 8, 3) := by decide +kernel
theorem dX10_atomLiteral_21 : decode cX10_atomLiteral 21 = .ok (.iload 4, 2) := by decide +kernel
theorem dX10_atomLiteral_23 : decode cX10_atomLiteral 23 = .ok (.goto 4, 3) := by decide +kernel
theorem dX10_atomLiteral_26 : decode cX10_atomLiteral 26 = .ok (.iconst 0, 1) := by decide +kernel
theorem dX10_atomLiteral_27 : decode cX10_atomLiteral 27 = .ok (.invokespecial 180, 3) := by decide +kernel
theorem dX10_atomLiteral_30 : decode cX10_atomLiteral 30 = .ok (.areturn, 1) := by decide +kernel
