def wW_k_X10_addCount (ty : Nat → ClassId) (X : Nat → Nat) (y0 : Nat) (y1 : Nat) (y2 : Nat) (z9_0 : Int32) (z9_1 : Int32) (z9_2 : Int32) (z9_3 : Int32) (z9_4 : Nat → Option Nat) (z9_5 : Int32) (z9_6 : Int32) (z9_7 : Int32) (z9_8 : Int32) (z9_9 : Int32) (z9_10 : Int32) (z9_11 : Int32) (z9_12 : Int32) (z9_13 : Int32) (z9_14 : Int32) (z9_15 : Int32) (z9_16 : Int32) (z9_17 : Int32) (z9_18 : Int32) (z9_19 : Int32) (z9_20 : Int32) (z9_21 : Int32) (z9_22 : Int32) (z9_23 : Int32) (z9_24 : Int32) (z9_25 : Int32) (z9_26 : Int32) (z9_27 : Int32) (z9_28 : Int32) (z9_29 : Int32) (z9_30 : Int32) (z9_31 : Nat → Option Nat) : va_W := [((X 0), .inr (12, [.ref (X 1), .ref (X 8), .ref (X 20), .ref (X 39), .ref (X 41), .ref (X 43), .ref (X 45)])), ((X 1), .inr (8, [.ref (X 2), .int z9_0, .ref (X 3), .int z9_1, .ref (X 4), .ref (X 5), .int z9_2, .ref (X 6), .ref (X 7), .int z9_3])), ((X 3), .inl (ty 4, 20, .inr (.inr (.inr (.inr z9_4))))), ((X 8), .inr (5, [.ref (X 1), .ref (X 9), .ref (X 10), .ref (X 12), .ref (X 14), .int z9_5, .ref (X 15), .ref (X 16), .ref (X 17), .int z9_6, .ref (X 18), .ref (X 19), .int z9_7, .int z9_8, .int z9_9, .int z9_10])), ((X 20), .inr (11, [.ref (X 1), .ref (X 8), .ref (X 21), .ref (X 28), .ref (X 35), .int z9_11, .ref (X 36), .ref (X 37), .ref (X 38), .int z9_12, .int z9_13, .int z9_14, .int z9_15, .int z9_16, .int z9_17, .int z9_18, .int z9_19])), ((X 45), .inr (2, [.ref (X 46), .ref (X 47), .int z9_20, .int z9_21])), (y0, .inr (10, [.int z9_22, .int z9_23, .int z9_24, .int z9_25, .int z9_26, .int z9_27, .int z9_28, .ref y1, .int z9_29, .ref y2, .int z9_30])), (y2, .inl (ty 5, 5, .inr (.inr (.inr (.inr z9_31)))))]
def vs_k_X10_addCount : List Cond := .code yX10_addCount cX10_addCount 6 (some .int) :: ([.fieldLink RX10 12 "AnswerFold" "program" "LAnswerFold$Program;", .methodLink RX10 126 yX6_ruleAt, .instanceMethod yX6_ruleAt, .selects RX6 yX6_ruleAt yX6_ruleAt, .initialized RX6, .classLink RX10 134 "java/lang/IndexOutOfBoundsException", .initialized "java/lang/IndexOutOfBoundsException", .methodLink RX10 130 yX6_hasPredicate, .instanceMethod yX6_hasPredicate, .selects RX6 yX6_hasPredicate yX6_hasPredicate, .classLink RX10 60 "java/lang/IllegalArgumentException", .initialized "java/lang/IllegalArgumentException", .methodLink RX10 167 yX10_checkRoomForCondition, .instanceMethod yX10_checkRoomForCondition, .selects RX10 yX10_checkRoomForCondition yX10_checkRoomForCondition, .initialized RX10, .methodLink RX10 76 yX10_forgetGrounding, .instanceMethod yX10_forgetGrounding, .selects RX10 yX10_forgetGrounding yX10_forgetGrounding, .classLink RX10 178 RX4, .instantiable RX4 8, .initialized RX4, .methodLink RX10 180 yX4_init, .instanceMethod yX4_init, .methodLink RX10 171 yX8_tellCondition, .instanceMethod yX8_tellCondition, .selects RX8 yX8_tellCondition yX8_tellCondition, .initialized RX8] ++ (u_ws RX10 TX10 7 ++ (vs_k_X6_ruleAt_l ++ ((vx_atS RX10 138 "java/lang/IndexOutOfBoundsException" ["java/lang/RuntimeException", "java/lang/Exception"]).filter goodWord ++ (vs_k_X6_hasPredicate ++ ((vx_atS RX10 64 "java/lang/IllegalArgumentException" ["java/lang/RuntimeException", "java/lang/Exception"]).filter goodWord ++ (vs_k_X10_checkRoomForCondition ++ (vs_k_X10_forgetGrounding ++ (u_ws RX4 TX4 8 ++ (vs_k_X4_init ++ (vs_k_X8_tellCondition)))))))))))
theorem iv_k_X10_addCount_X10 : ∀ w ∈ u_ws RX10 TX10 7, w ∈ vs_k_X10_addCount := (fun _ h => List.mem_cons_of_mem _ (List.mem_append_right _ (List.mem_append_left _ h)))
theorem iv_k_X10_addCount_X4 : ∀ w ∈ u_ws RX4 TX4 8, w ∈ vs_k_X10_addCount := (fun _ h => List.mem_cons_of_mem _ (List.mem_append_right _ (List.mem_append_right _ (List.mem_append_right _ (List.mem_append_right _ (List.mem_append_right _ (List.mem_append_right _ (List.mem_append_right _ (List.mem_append_right _ (List.mem_append_left _ h))))))))))
set_option maxRecDepth 20000 in
theorem gv_k_X10_addCount_0 : GoodIn vs_k_X10_addCount (wsV RX10 126 RX6 yX6_ruleAt vs_k_X6_ruleAt_l) := goodIn_app (goodIn_sub (by decide +kernel) (by decide +kernel)) (goodIn_sub (fun _ h => List.mem_cons_of_mem _ (List.mem_append_right _ (List.mem_append_right _ (List.mem_append_left _ h)))) (by decide +kernel))
set_option maxRecDepth 20000 in
theorem gv_k_X10_addCount_1 : GoodIn vs_k_X10_addCount (wsV RX10 130 RX6 yX6_hasPredicate vs_k_X6_hasPredicate) := goodIn_app (goodIn_sub (by decide +kernel) (by decide +kernel)) (goodIn_sub (fun _ h => List.mem_cons_of_mem _ (List.mem_append_right _ (List.mem_append_right _ (List.mem_append_right _ (List.mem_append_right _ (List.mem_append_left _ h)))))) (by decide +kernel))
set_option maxRecDepth 20000 in
theorem gv_k_X10_addCount_2 : GoodIn vs_k_X10_addCount (wsV RX10 167 RX10 yX10_checkRoomForCondition vs_k_X10_checkRoomForCondition) := goodIn_app (goodIn_sub (by decide +kernel) (by decide +kernel)) (goodIn_sub (fun _ h => List.mem_cons_of_mem _ (List.mem_append_right _ (List.mem_append_right _ (List.mem_append_right _ (List.mem_append_right _ (List.mem_append_right _ (List.mem_append_right _ (List.mem_append_left _ h)))))))) (by decide +kernel))
set_option maxRecDepth 20000 in
theorem gv_k_X10_addCount_3 : GoodIn vs_k_X10_addCount (wsV RX10 76 RX10 yX10_forgetGrounding vs_k_X10_forgetGrounding) := goodIn_app (goodIn_sub (by decide +kernel) (by decide +kernel)) (goodIn_sub (fun _ h => List.mem_cons_of_mem _ (List.mem_append_right _ (List.mem_append_right _ (List.mem_append_right _ (List.mem_append_right _ (List.mem_append_right _ (List.mem_append_right _ (List.mem_append_right _ (List.mem_append_left _ h))))))))) (by decide +kernel))
set_option maxRecDepth 20000 in
theorem gv_k_X10_addCount_4 : GoodIn vs_k_X10_addCount (vs_k_X4_init) := (goodIn_sub (fun _ h => List.mem_cons_of_mem _ (List.mem_append_right _ (List.mem_append_right _ (List.mem_append_right _ (List.mem_append_right _ (List.mem_append_right _ (List.mem_append_right _ (List.mem_append_right _ (List.mem_append_right _ (List.mem_append_right _ (List.mem_append_left _ h))))))))))) (by decide +kernel))
set_option maxRecDepth 20000 in
theorem gv_k_X10_addCount_5 : GoodIn vs_k_X10_addCount (wsV RX10 171 RX8 yX8_tellCondition vs_k_X8_tellCondition) := goodIn_app (goodIn_sub (by decide +kernel) (by decide +kernel)) (goodIn_sub (fun _ h => List.mem_cons_of_mem _ (List.mem_append_right _ (List.mem_append_right _ (List.mem_append_right _ (List.mem_append_right _ (List.mem_append_right _ (List.mem_append_right _ (List.mem_append_right _ (List.mem_append_right _ (List.mem_append_right _ (List.mem_append_right _ (h)))))))))))) (by decide +kernel))
theorem ix_k_X10_addCount_138 : ∀ w ∈ (vx_atS RX10 138 "java/lang/IndexOutOfBoundsException" ["java/lang/RuntimeException", "java/lang/Exception"]).filter goodWord, w ∈ vs_k_X10_addCount := (fun _ h => List.mem_cons_of_mem _ (List.mem_append_right _ (List.mem_append_right _ (List.mem_append_right _ (List.mem_append_left _ h)))))
theorem ix_k_X10_addCount_64 : ∀ w ∈ (vx_atS RX10 64 "java/lang/IllegalArgumentException" ["java/lang/RuntimeException", "java/lang/Exception"]).filter goodWord, w ∈ vs_k_X10_addCount := (fun _ h => List.mem_cons_of_mem _ (List.mem_append_right _ (List.mem_append_right _ (List.mem_append_right _ (List.mem_append_right _ (List.mem_append_right _ (List.mem_append_left _ h)))))))
set_option maxHeartbeats 4000000 in
set_option maxRecDepth 100000 in
theorem k_X10_addCount (l : Launch) (hl9 : l.stackTraces = false) (D : va_G) (ty : Nat → ClassId) (td mi sz : Nat) (X : Nat → Nat) (pn : Int32) (rn : Int32) (tn : Int32) (en : Int32) (rf : Nat → Option Nat) (hn : Int32) (kn : Int32) (on : Int32) (cu : Int32) (pu : Int32) (gw : Int32) (an : Int32) (ch : Int32) (cg : Int32) (fb : Int32) (mh : Int32) (ml : Int32) (ih : Int32) (lb : Int32) (ic : Int32) (nn : Int32) (kp : Int32) (y0 : Nat) (y_k : Int32) (y_p : Int32) (y_lo : Int32) (y_up : Int32) (y_sp : Int32) (y_we : Int32) (y_le : Int32) (y1 : Nat) (y_hc : Int32) (y2 : Nat) (y_cc : Int32) (yc : Nat → Option Nat) (a1 : Int32) (a2 : Int32) (a3 : Int32) (a4 : Int32) (hcv_a2 : narrow .char (.int a2) = .int a2 ∧ fits .char (.int a2) = true) (hal : ∀ o : Nat, m_k_X6_ruleAt_l rn rf a1 = some o → o = y0) (TT : r_k_X10_addCount) (hTT : TT = m_k_X10_addCount pn rn rf cu ic kp y_cc a1 a2 a3 a4) : vx_Met l yX10_addCount vs_k_X10_addCount { frames := 7, cells := 2, slots := 14, locals := 103 } (va_Pc [.ref (X 0), .int a1, .int a2, .int a3, .int a4] (wq_P D ty td mi (wW_k_X10_addCount ty X y0 y1 y2 pn rn tn en rf hn kn on cu pu gw an ch cg fb mh ml ih lb ic nn kp y_k y_p y_lo y_up y_sp y_we y_le y_hc y_cc yc) sz)) (va_Qi (fun (r : Int32) (u : va_W) => (∃ (q_92 : Nat), TT.1 = 0 ∧ TT.2.1 = 0 ∧ r = TT.2.2.1 ∧ (u = ((wW_k_X10_addCount ty X y0 y1 y2 pn rn tn en rf hn kn on TT.2.2.2.2.2.2.2.2.2.2.2.2.2.1 pu gw an ch cg fb mh ml ih lb TT.2.2.2.2.2.2.2.2.2.2.2.1 nn TT.2.2.2.2.2.2.2.2.2.2.2.2.1 y_k y_p y_lo y_up y_sp y_we y_le y_hc TT.2.2.2.2.2.2.2.2.2.2.2.2.2.2 yc) ++ [(q_92, .inr (6, [.int TT.2.2.2.1, .int TT.2.2.2.2.1, .int TT.2.2.2.2.2.1, .int TT.2.2.2.2.2.2.1, .int TT.2.2.2.2.2.2.2.1, .int TT.2.2.2.2.2.2.2.2.1, .int TT.2.2.2.2.2.2.2.2.2.1, .int TT.2.2.2.2.2.2.2.2.2.2.1]))]))) ∨ (∃ (q_92 : Nat), TT.1 = 0 ∧ TT.2.1 = 1 ∧ r = TT.2.2.1 ∧ (u = ((wW_k_X10_addCount ty X y0 y1 y2 pn rn tn en rf hn kn on TT.2.2.2.2.2.2.2.2.2.2.2.2.2.1 pu gw an ch cg fb mh ml ih lb TT.2.2.2.2.2.2.2.2.2.2.2.1 nn TT.2.2.2.2.2.2.2.2.2.2.2.2.1 y_k y_p y_lo y_up y_sp y_we y_le y_hc TT.2.2.2.2.2.2.2.2.2.2.2.2.2.2 (va_up yc y_cc.toNatClampNeg (some q_92))) ++ [(q_92, .inr (6, [.int TT.2.2.2.1, .int TT.2.2.2.2.1, .int TT.2.2.2.2.2.1, .int TT.2.2.2.2.2.2.1, .int TT.2.2.2.2.2.2.2.1, .int TT.2.2.2.2.2.2.2.2.1, .int TT.2.2.2.2.2.2.2.2.2.1, .int TT.2.2.2.2.2.2.2.2.2.2.1]))])))) (wq_B D (va_A (wW_k_X10_addCount ty X y0 y1 y2 pn rn tn en rf hn kn on cu pu gw an ch cg fb mh ml ih lb ic nn kp y_k y_p y_lo y_up y_sp y_we y_le y_hc y_cc yc) sz)) (va_A (wW_k_X10_addCount ty X y0 y1 y2 pn rn tn en rf hn kn on cu pu gw an ch cg fb mh ml ih lb ic nn kp y_k y_p y_lo y_up y_sp y_we y_le y_hc y_cc yc) sz)) (vx_X (fun u : String × va_W => (TT.1 = 1 ∧ u = ("java/lang/IndexOutOfBoundsException", (wW_k_X10_addCount ty X y0 y1 y2 pn rn tn en rf hn kn on TT.2.2.2.2.2.2.2.2.2.2.2.2.2.1 pu gw an ch cg fb mh ml ih lb TT.2.2.2.2.2.2.2.2.2.2.2.1 nn TT.2.2.2.2.2.2.2.2.2.2.2.2.1 y_k y_p y_lo y_up y_sp y_we y_le y_hc TT.2.2.2.2.2.2.2.2.2.2.2.2.2.2 yc))) ∨ (TT.1 = 2 ∧ u = ("java/lang/IllegalArgumentException", (wW_k_X10_addCount ty X y0 y1 y2 pn rn tn en rf hn kn on TT.2.2.2.2.2.2.2.2.2.2.2.2.2.1 pu gw an ch cg fb mh ml ih lb TT.2.2.2.2.2.2.2.2.2.2.2.1 nn TT.2.2.2.2.2.2.2.2.2.2.2.2.1 y_k y_p y_lo y_up y_sp y_we y_le y_hc TT.2.2.2.2.2.2.2.2.2.2.2.2.2.2 yc))) ∨ (TT.1 = 3 ∧ u = ("java/lang/IllegalStateException", (wW_k_X10_addCount ty X y0 y1 y2 pn rn tn en rf hn kn on TT.2.2.2.2.2.2.2.2.2.2.2.2.2.1 pu gw an ch cg fb mh ml ih lb TT.2.2.2.2.2.2.2.2.2.2.2.1 nn TT.2.2.2.2.2.2.2.2.2.2.2.2.1 y_k y_p y_lo y_up y_sp y_we y_le y_hc TT.2.2.2.2.2.2.2.2.2.2.2.2.2.2 yc)))) (wq_BX D (va_A (wW_k_X10_addCount ty X y0 y1 y2 pn rn tn en rf hn kn on cu pu gw an ch cg fb mh ml ih lb ic nn kp y_k y_p y_lo y_up y_sp y_we y_le y_hc y_cc yc) sz)) (va_A (wW_k_X10_addCount ty X y0 y1 y2 pn rn tn en rf hn kn on cu pu gw an ch cg fb mh ml ih lb ic nn kp y_k y_p y_lo y_up y_sp y_we y_le y_hc y_cc yc) sz)) 2 14 (va_A (wW_k_X10_addCount ty X y0 y1 y2 pn rn tn en rf hn kn on cu pu gw an ch cg fb mh ml ih lb ic nn kp y_k y_p y_lo y_up y_sp y_we y_le y_hc y_cc yc) sz) := by
  refine vx_ofW (cc := cX10_addCount) (maxL := 6) (ret := (some .int)) (by decide) rfl ?_
  intro p e s m args below meth c s₁ B hml hEx hv
  obtain ⟨rfl, hsz, hP, hK, hD0, hE⟩ := hv
  have hx := B.exec
  have hb := B.bytes
  have hr := B.returns
  have hts := atoms_spec (ws := vs_k_X10_addCount) B.pre
  have hown : s.vm.findClass RX10 = some m.cls := findClass_of_methodNamed B.named
  have hlocks := B.notSynchronized
  subst hsz
  have hD := hD0.self (sz := s.heap.size)
  generalize hAe : va_A (wW_k_X10_addCount ty X y0 y1 y2 pn rn tn en rf hn kn on cu pu gw an ch cg fb mh ml ih lb ic nn kp y_k y_p y_lo y_up y_sp y_we y_le y_hc y_cc yc) s.heap.size = A at hD hE ⊢
  have hA : ∀ q : Nat, s.heap.size ≤ q → A q := fun q h => by rw [← hAe]; exact Or.inr h
  have hS : va_S A s.heap s.heap [] := va_S.rf
  have hP : va_P D vwCl (wW_k_X10_addCount ty X y0 y1 y2 pn rn tn en rf hn kn on cu pu gw an ch cg fb mh ml ih lb ic nn kp y_k y_p y_lo y_up y_sp y_we y_le y_hc y_cc yc) s.heap := hP
  have hl := lv_entry ([.ref (X 0), .int a1, .int a2, .int a3, .int a4]) (n := 6) (Nat.le_of_ble_eq_true rfl)
  rw [lg_entry_eq]
  generalize (lg_sl ([.ref (X 0), .int a1, .int a2, .int a3, .int a4]) ++ List.replicate (6 - (lg_sl ([.ref (X 0), .int a1, .int a2, .int a3, .int a4])).length) Slot.unset).toArray = ls at hl ⊢
  have hl : lv_has ls 6 [(0, .ref (X 0)), (1, .int a1), (2, .int a2), (3, .int a3), (4, .int a4)] := hl
  have END_0 : ∀ (q_92 : Nat) (r : Int32) (w9_0 : Int32) (w9_1 : Int32) (w9_2 : Int32) (w9_3 : Int32) (w9_4 : Int32) (w9_5 : Int32) (w9_6 : Int32) (w9_7 : Int32) (w9_8 : Int32) (w9_9 : Int32) (w9_10 : Int32) (w9_11 : Int32), TT = (0, 0, r, w9_0, w9_1, w9_2, w9_3, w9_4, w9_5, w9_6, w9_7, w9_8, w9_9, w9_10, w9_11) → ∀ (H : Heap) (locs : List Loc), va_P D vwCl ((wW_k_X10_addCount ty X y0 y1 y2 pn rn tn en rf hn kn on w9_10 pu gw an ch cg fb mh ml ih lb w9_8 nn w9_9 y_k y_p y_lo y_up y_sp y_we y_le y_hc w9_11 yc) ++ [(q_92, .inr (6, [.int w9_0, .int w9_1, .int w9_2, .int w9_3, .int w9_4, .int w9_5, .int w9_6, .int w9_7]))]) H → va_D A ((wW_k_X10_addCount ty X y0 y1 y2 pn rn tn en rf hn kn on w9_10 pu gw an ch cg fb mh ml ih lb w9_8 nn w9_9 y_k y_p y_lo y_up y_sp y_we y_le y_hc w9_11 yc) ++ [(q_92, .inr (6, [.int w9_0, .int w9_1, .int w9_2, .int w9_3, .int w9_4, .int w9_5, .int w9_6, .int w9_7]))]) → va_S A s.heap H locs → ∀ (ls : Array Slot) (pc : Nat), decode cX10_addCount pc = .ok (.ireturn, 1) → W p l e (headSpec vs_k_X10_addCount { frames := 7, cells := 2, slots := 14, locals := 103 }).room s m ([.ref (X 0), .int a1, .int a2, .int a3, .int a4] : List Value).toArray below meth c H locs 2 14 (vx_MQ below (va_Qi (fun (r : Int32) (u : va_W) => (∃ (q_92 : Nat), TT.1 = 0 ∧ TT.2.1 = 0 ∧ r = TT.2.2.1 ∧ (u = ((wW_k_X10_addCount ty X y0 y1 y2 pn rn tn en rf hn kn on TT.2.2.2.2.2.2.2.2.2.2.2.2.2.1 pu gw an ch cg fb mh ml ih lb TT.2.2.2.2.2.2.2.2.2.2.2.1 nn TT.2.2.2.2.2.2.2.2.2.2.2.2.1 y_k y_p y_lo y_up y_sp y_we y_le y_hc TT.2.2.2.2.2.2.2.2.2.2.2.2.2.2 yc) ++ [(q_92, .inr (6, [.int TT.2.2.2.1, .int TT.2.2.2.2.1, .int TT.2.2.2.2.2.1, .int TT.2.2.2.2.2.2.1, .int TT.2.2.2.2.2.2.2.1, .int TT.2.2.2.2.2.2.2.2.1, .int TT.2.2.2.2.2.2.2.2.2.1, .int TT.2.2.2.2.2.2.2.2.2.2.1]))]))) ∨ (∃ (q_92 : Nat), TT.1 = 0 ∧ TT.2.1 = 1 ∧ r = TT.2.2.1 ∧ (u = ((wW_k_X10_addCount ty X y0 y1 y2 pn rn tn en rf hn kn on TT.2.2.2.2.2.2.2.2.2.2.2.2.2.1 pu gw an ch cg fb mh ml ih lb TT.2.2.2.2.2.2.2.2.2.2.2.1 nn TT.2.2.2.2.2.2.2.2.2.2.2.2.1 y_k y_p y_lo y_up y_sp y_we y_le y_hc TT.2.2.2.2.2.2.2.2.2.2.2.2.2.2 (va_up yc y_cc.toNatClampNeg (some q_92))) ++ [(q_92, .inr (6, [.int TT.2.2.2.1, .int TT.2.2.2.2.1, .int TT.2.2.2.2.2.1, .int TT.2.2.2.2.2.2.1, .int TT.2.2.2.2.2.2.2.1, .int TT.2.2.2.2.2.2.2.2.1, .int TT.2.2.2.2.2.2.2.2.2.1, .int TT.2.2.2.2.2.2.2.2.2.2.1]))])))) (wq_B D A) A) (vx_X (fun u : String × va_W => (TT.1 = 1 ∧ u = ("java/lang/IndexOutOfBoundsException", (wW_k_X10_addCount ty X y0 y1 y2 pn rn tn en rf hn kn on TT.2.2.2.2.2.2.2.2.2.2.2.2.2.1 pu gw an ch cg fb mh ml ih lb TT.2.2.2.2.2.2.2.2.2.2.2.1 nn TT.2.2.2.2.2.2.2.2.2.2.2.2.1 y_k y_p y_lo y_up y_sp y_we y_le y_hc TT.2.2.2.2.2.2.2.2.2.2.2.2.2.2 yc))) ∨ (TT.1 = 2 ∧ u = ("java/lang/IllegalArgumentException", (wW_k_X10_addCount ty X y0 y1 y2 pn rn tn en rf hn kn on TT.2.2.2.2.2.2.2.2.2.2.2.2.2.1 pu gw an ch cg fb mh ml ih lb TT.2.2.2.2.2.2.2.2.2.2.2.1 nn TT.2.2.2.2.2.2.2.2.2.2.2.2.1 y_k y_p y_lo y_up y_sp y_we y_le y_hc TT.2.2.2.2.2.2.2.2.2.2.2.2.2.2 yc))) ∨ (TT.1 = 3 ∧ u = ("java/lang/IllegalStateException", (wW_k_X10_addCount ty X y0 y1 y2 pn rn tn en rf hn kn on TT.2.2.2.2.2.2.2.2.2.2.2.2.2.1 pu gw an ch cg fb mh ml ih lb TT.2.2.2.2.2.2.2.2.2.2.2.1 nn TT.2.2.2.2.2.2.2.2.2.2.2.2.1 y_k y_p y_lo y_up y_sp y_we y_le y_hc TT.2.2.2.2.2.2.2.2.2.2.2.2.2.2 yc)))) (wq_BX D A) A) ([.ref (X 0), .int a1, .int a2, .int a3, .int a4] : List Value).toArray s 2 14 A) (F0 m pc ls [.int r]) := by
    intro q_92 r w9_0 w9_1 w9_2 w9_3 w9_4 w9_5 w9_6 w9_7 w9_8 w9_9 w9_10 w9_11 hT H locs hP hD hS ls pc hd
    have hM : TT = (0, 0, r, w9_0, w9_1, w9_2, w9_3, w9_4, w9_5, w9_6, w9_7, w9_8, w9_9, w9_10, w9_11) := hT
    refine vx_ret ?_
    exact W.iret (v := r) hx hb hr (fun t ht hW => ⟨⟨r, ((wW_k_X10_addCount ty X y0 y1 y2 pn rn tn en rf hn kn on w9_10 pu gw an ch cg fb mh ml ih lb w9_8 nn w9_9 y_k y_p y_lo y_up y_sp y_we y_le y_hc w9_11 yc) ++ [(q_92, .inr (6, [.int w9_0, .int w9_1, .int w9_2, .int w9_3, .int w9_4, .int w9_5, .int w9_6, .int w9_7]))]), rfl, (Or.inl ⟨q_92, (by rw [hM]), (by rw [hM]), (by rw [hM]), (by rw [hM])⟩), wq_B.of ht hP hD⟩, hS.F ht⟩) hS.2.2 hd
  have END_1 : ∀ (q_92 : Nat) (r : Int32) (w9_0 : Int32) (w9_1 : Int32) (w9_2 : Int32) (w9_3 : Int32) (w9_4 : Int32) (w9_5 : Int32) (w9_6 : Int32) (w9_7 : Int32) (w9_8 : Int32) (w9_9 : Int32) (w9_10 : Int32) (w9_11 : Int32), TT = (0, 1, r, w9_0, w9_1, w9_2, w9_3, w9_4, w9_5, w9_6, w9_7, w9_8, w9_9, w9_10, w9_11) → ∀ (H : Heap) (locs : List Loc), va_P D vwCl ((wW_k_X10_addCount ty X y0 y1 y2 pn rn tn en rf hn kn on w9_10 pu gw an ch cg fb mh ml ih lb w9_8 nn w9_9 y_k y_p y_lo y_up y_sp y_we y_le y_hc w9_11 (va_up yc y_cc.toNatClampNeg (some q_92))) ++ [(q_92, .inr (6, [.int w9_0, .int w9_1, .int w9_2, .int w9_3, .int w9_4, .int w9_5, .int w9_6, .int w9_7]))]) H → va_D A ((wW_k_X10_addCount ty X y0 y1 y2 pn rn tn en rf hn kn on w9_10 pu gw an ch cg fb mh ml ih lb w9_8 nn w9_9 y_k y_p y_lo y_up y_sp y_we y_le y_hc w9_11 (va_up yc y_cc.toNatClampNeg (some q_92))) ++ [(q_92, .inr (6, [.int w9_0, .int w9_1, .int w9_2, .int w9_3, .int w9_4, .int w9_5, .int w9_6, .int w9_7]))]) → va_S A s.heap H locs → ∀ (ls : Array Slot) (pc : Nat), decode cX10_addCount pc = .ok (.ireturn, 1) → W p l e (headSpec vs_k_X10_addCount { frames := 7, cells := 2, slots := 14, locals := 103 }).room s m ([.ref (X 0), .int a1, .int a2, .int a3, .int a4] : List Value).toArray below meth c H locs 2 14 (vx_MQ below (va_Qi (fun (r : Int32) (u : va_W) => (∃ (q_92 : Nat), TT.1 = 0 ∧ TT.2.1 = 0 ∧ r = TT.2.2.1 ∧ (u = ((wW_k_X10_addCount ty X y0 y1 y2 pn rn tn en rf hn kn on TT.2.2.2.2.2.2.2.2.2.2.2.2.2.1 pu gw an ch cg fb mh ml ih lb TT.2.2.2.2.2.2.2.2.2.2.2.1 nn TT.2.2.2.2.2.2.2.2.2.2.2.2.1 y_k y_p y_lo y_up y_sp y_we y_le y_hc TT.2.2.2.2.2.2.2.2.2.2.2.2.2.2 yc) ++ [(q_92, .inr (6, [.int TT.2.2.2.1, .int TT.2.2.2.2.1, .int TT.2.2.2.2.2.1, .int TT.2.2.2.2.2.2.1, .int TT.2.2.2.2.2.2.2.1, .int TT.2.2.2.2.2.2.2.2.1, .int TT.2.2.2.2.2.2.2.2.2.1, .int TT.2.2.2.2.2.2.2.2.2.2.1]))]))) ∨ (∃ (q_92 : Nat), TT.1 = 0 ∧ TT.2.1 = 1 ∧ r = TT.2.2.1 ∧ (u = ((wW_k_X10_addCount ty X y0 y1 y2 pn rn tn en rf hn kn on TT.2.2.2.2.2.2.2.2.2.2.2.2.2.1 pu gw an ch cg fb mh ml ih lb TT.2.2.2.2.2.2.2.2.2.2.2.1 nn TT.2.2.2.2.2.2.2.2.2.2.2.2.1 y_k y_p y_lo y_up y_sp y_we y_le y_hc TT.2.2.2.2.2.2.2.2.2.2.2.2.2.2 (va_up yc y_cc.toNatClampNeg (some q_92))) ++ [(q_92, .inr (6, [.int TT.2.2.2.1, .int TT.2.2.2.2.1, .int TT.2.2.2.2.2.1, .int TT.2.2.2.2.2.2.1, .int TT.2.2.2.2.2.2.2.1, .int TT.2.2.2.2.2.2.2.2.1, .int TT.2.2.2.2.2.2.2.2.2.1, .int TT.2.2.2.2.2.2.2.2.2.2.1]))])))) (wq_B D A) A) (vx_X (fun u : String × va_W => (TT.1 = 1 ∧ u = ("java/lang/IndexOutOfBoundsException", (wW_k_X10_addCount ty X y0 y1 y2 pn rn tn en rf hn kn on TT.2.2.2.2.2.2.2.2.2.2.2.2.2.1 pu gw an ch cg fb mh ml ih lb TT.2.2.2.2.2.2.2.2.2.2.2.1 nn TT.2.2.2.2.2.2.2.2.2.2.2.2.1 y_k y_p y_lo y_up y_sp y_we y_le y_hc TT.2.2.2.2.2.2.2.2.2.2.2.2.2.2 yc))) ∨ (TT.1 = 2 ∧ u = ("java/lang/IllegalArgumentException", (wW_k_X10_addCount ty X y0 y1 y2 pn rn tn en rf hn kn on TT.2.2.2.2.2.2.2.2.2.2.2.2.2.1 pu gw an ch cg fb mh ml ih lb TT.2.2.2.2.2.2.2.2.2.2.2.1 nn TT.2.2.2.2.2.2.2.2.2.2.2.2.1 y_k y_p y_lo y_up y_sp y_we y_le y_hc TT.2.2.2.2.2.2.2.2.2.2.2.2.2.2 yc))) ∨ (TT.1 = 3 ∧ u = ("java/lang/IllegalStateException", (wW_k_X10_addCount ty X y0 y1 y2 pn rn tn en rf hn kn on TT.2.2.2.2.2.2.2.2.2.2.2.2.2.1 pu gw an ch cg fb mh ml ih lb TT.2.2.2.2.2.2.2.2.2.2.2.1 nn TT.2.2.2.2.2.2.2.2.2.2.2.2.1 y_k y_p y_lo y_up y_sp y_we y_le y_hc TT.2.2.2.2.2.2.2.2.2.2.2.2.2.2 yc)))) (wq_BX D A) A) ([.ref (X 0), .int a1, .int a2, .int a3, .int a4] : List Value).toArray s 2 14 A) (F0 m pc ls [.int r]) := by
    intro q_92 r w9_0 w9_1 w9_2 w9_3 w9_4 w9_5 w9_6 w9_7 w9_8 w9_9 w9_10 w9_11 hT H locs hP hD hS ls pc hd
    have hM : TT = (0, 1, r, w9_0, w9_1, w9_2, w9_3, w9_4, w9_5, w9_6, w9_7, w9_8, w9_9, w9_10, w9_11) := hT
    refine vx_ret ?_
    exact W.iret (v := r) hx hb hr (fun t ht hW => ⟨⟨r, ((wW_k_X10_addCount ty X y0 y1 y2 pn rn tn en rf hn kn on w9_10 pu gw an ch cg fb mh ml ih lb w9_8 nn w9_9 y_k y_p y_lo y_up y_sp y_we y_le y_hc w9_11 (va_up yc y_cc.toNatClampNeg (some q_92))) ++ [(q_92, .inr (6, [.int w9_0, .int w9_1, .int w9_2, .int w9_3, .int w9_4, .int w9_5, .int w9_6, .int w9_7]))]), rfl, (Or.inr ⟨q_92, (by rw [hM]), (by rw [hM]), (by rw [hM]), (by rw [hM])⟩), wq_B.of ht hP hD⟩, hS.F ht⟩) hS.2.2 hd
  have hT := hTT
  rw [m_k_X10_addCount] at hT
  refine lv_aload_n hx hb dX10_addCount_0 rfl (lv_at hl 0 rfl) ?_
  refine va_get (D := D) (ci := 12) (v := .ref (X 1)) (C := RX10) (T := TX10) (N := 7) hx hb hts iv_k_X10_addCount_X10 hown hK hP 0 rfl rfl 0 (by decide) (hts (.fieldLink RX10 12 "AnswerFold" "program" "LAnswerFold$Program;") (by decide +kernel)) (fun _ h9 => h9) rfl dX10_addCount_1 ?_
  refine lv_iload_n hx hb dX10_addCount_4 rfl (lv_at hl 1 rfl) ?_
  obtain ⟨t_5, ht_5⟩ : ∃ t, t = m_k_X6_ruleAt_l rn rf a1 := ⟨_, rfl⟩
  rw [lE_eq ht_5] at hT
  refine wq_rW (wc := (wW_k_X6_ruleAt_l ty X pn rn tn en rf)) (va_runV (As := [.int a1]) (rest := []) ⟨hx, hb, hml, hown, hts⟩ (k_X6_ruleAt_l l D ty td mi s.heap.size X pn rn tn en rf a1 t_5 ht_5) (cwV 1 hts gv_k_X10_addCount_0 rfl rfl rfl (by decide +kernel) ⟨(Nat.le_of_ble_eq_true rfl), (Nat.le_of_ble_eq_true rfl)⟩) (wm_V (wm_preS hP hD hK hE hS hA [false, true, true] rfl) (va_recv (q0 := 1) (ci := 8) hK hP rfl rfl)) rfl rfl hl.1 rfl (lv_room (Nat.le_of_ble_eq_true rfl)) dX10_addCount_5 ⟨(Nat.le_of_ble_eq_true rfl), (Nat.le_of_ble_eq_true rfl)⟩) hS hA hP hD [false, true, true] rfl (fun _ _ h => by rcases h with ⟨-, rfl⟩; rfl) (fun r u H locs hw hP hD hS => ?_)
  obtain ⟨rfl, rfl⟩ := hw
  have hP : va_P D vwCl (wW_k_X10_addCount ty X y0 y1 y2 pn rn tn en rf hn kn on cu pu gw an ch cg fb mh ml ih lb ic nn kp y_k y_p y_lo y_up y_sp y_we y_le y_hc y_cc yc) H := hP
  have hD : va_D A (wW_k_X10_addCount ty X y0 y1 y2 pn rn tn en rf hn kn on cu pu gw an ch cg fb mh ml ih lb ic nn kp y_k y_p y_lo y_up y_sp y_we y_le y_hc y_cc yc) := hD
  refine W.widen (k := 0) (n := 0) (Nat.le_of_ble_eq_true rfl) (Nat.le_of_ble_eq_true rfl) ?_
  rcases ho_5 : t_5 with _ | o_5
  · rw [ho_5, oE_none] at hT
    refine W.eq (g2 := F0 m 8 ls [.null]) rfl ?_
    refine lv_astoreN (lv' := [(5, .null), (0, .ref (X 0)), (1, .int a1), (2, .int a2), (3, .int a3), (4, .int a4)]) hx hb dX10_addCount_8 hl (by decide) rfl (fun ls hl => ?_)
    refine lv_aloadN hx hb dX10_addCount_10 (lv_at hl 0 rfl) ?_
    have J_26 : ∀ (_ : Unit), TT = m_k_X10_addCount_26 cu ic kp y_cc → ∀ (H : Heap) (locs : List Loc), va_P D vwCl (wW_k_X10_addCount ty X y0 y1 y2 pn rn tn en rf hn kn on cu pu gw an ch cg fb mh ml ih lb ic nn kp y_k y_p y_lo y_up y_sp y_we y_le y_hc y_cc yc) H → va_D A (wW_k_X10_addCount ty X y0 y1 y2 pn rn tn en rf hn kn on cu pu gw an ch cg fb mh ml ih lb ic nn kp y_k y_p y_lo y_up y_sp y_we y_le y_hc y_cc yc) → va_S A s.heap H locs → ∀ ls : Array Slot, lv_has ls 6 [] → W p l e (headSpec vs_k_X10_addCount { frames := 7, cells := 2, slots := 14, locals := 103 }).room s m ([.ref (X 0), .int a1, .int a2, .int a3, .int a4] : List Value).toArray below meth c H locs 0 0 (vx_MQ below (va_Qi (fun (r : Int32) (u : va_W) => (∃ (q_92 : Nat), TT.1 = 0 ∧ TT.2.1 = 0 ∧ r = TT.2.2.1 ∧ (u = ((wW_k_X10_addCount ty X y0 y1 y2 pn rn tn en rf hn kn on TT.2.2.2.2.2.2.2.2.2.2.2.2.2.1 pu gw an ch cg fb mh ml ih lb TT.2.2.2.2.2.2.2.2.2.2.2.1 nn TT.2.2.2.2.2.2.2.2.2.2.2.2.1 y_k y_p y_lo y_up y_sp y_we y_le y_hc TT.2.2.2.2.2.2.2.2.2.2.2.2.2.2 yc) ++ [(q_92, .inr (6, [.int TT.2.2.2.1, .int TT.2.2.2.2.1, .int TT.2.2.2.2.2.1, .int TT.2.2.2.2.2.2.1, .int TT.2.2.2.2.2.2.2.1, .int TT.2.2.2.2.2.2.2.2.1, .int TT.2.2.2.2.2.2.2.2.2.1, .int TT.2.2.2.2.2.2.2.2.2.2.1]))]))) ∨ (∃ (q_92 : Nat), TT.1 = 0 ∧ TT.2.1 = 1 ∧ r = TT.2.2.1 ∧ (u = ((wW_k_X10_addCount ty X y0 y1 y2 pn rn tn en rf hn kn on TT.2.2.2.2.2.2.2.2.2.2.2.2.2.1 pu gw an ch cg fb mh ml ih lb TT.2.2.2.2.2.2.2.2.2.2.2.1 nn TT.2.2.2.2.2.2.2.2.2.2.2.2.1 y_k y_p y_lo y_up y_sp y_we y_le y_hc TT.2.2.2.2.2.2.2.2.2.2.2.2.2.2 (va_up yc y_cc.toNatClampNeg (some q_92))) ++ [(q_92, .inr (6, [.int TT.2.2.2.1, .int TT.2.2.2.2.1, .int TT.2.2.2.2.2.1, .int TT.2.2.2.2.2.2.1, .int TT.2.2.2.2.2.2.2.1, .int TT.2.2.2.2.2.2.2.2.1, .int TT.2.2.2.2.2.2.2.2.2.1, .int TT.2.2.2.2.2.2.2.2.2.2.1]))])))) (wq_B D A) A) (vx_X (fun u : String × va_W => (TT.1 = 1 ∧ u = ("java/lang/IndexOutOfBoundsException", (wW_k_X10_addCount ty X y0 y1 y2 pn rn tn en rf hn kn on TT.2.2.2.2.2.2.2.2.2.2.2.2.2.1 pu gw an ch cg fb mh ml ih lb TT.2.2.2.2.2.2.2.2.2.2.2.1 nn TT.2.2.2.2.2.2.2.2.2.2.2.2.1 y_k y_p y_lo y_up y_sp y_we y_le y_hc TT.2.2.2.2.2.2.2.2.2.2.2.2.2.2 yc))) ∨ (TT.1 = 2 ∧ u = ("java/lang/IllegalArgumentException", (wW_k_X10_addCount ty X y0 y1 y2 pn rn tn en rf hn kn on TT.2.2.2.2.2.2.2.2.2.2.2.2.2.1 pu gw an ch cg fb mh ml ih lb TT.2.2.2.2.2.2.2.2.2.2.2.1 nn TT.2.2.2.2.2.2.2.2.2.2.2.2.1 y_k y_p y_lo y_up y_sp y_we y_le y_hc TT.2.2.2.2.2.2.2.2.2.2.2.2.2.2 yc))) ∨ (TT.1 = 3 ∧ u = ("java/lang/IllegalStateException", (wW_k_X10_addCount ty X y0 y1 y2 pn rn tn en rf hn kn on TT.2.2.2.2.2.2.2.2.2.2.2.2.2.1 pu gw an ch cg fb mh ml ih lb TT.2.2.2.2.2.2.2.2.2.2.2.1 nn TT.2.2.2.2.2.2.2.2.2.2.2.2.1 y_k y_p y_lo y_up y_sp y_we y_le y_hc TT.2.2.2.2.2.2.2.2.2.2.2.2.2.2 yc)))) (wq_BX D A) A) ([.ref (X 0), .int a1, .int a2, .int a3, .int a4] : List Value).toArray s 2 14 A) (F0 m 26 ls []) := by
      intro _ hT  H locs hP hD hS ls hl
      rw [m_k_X10_addCount_26] at hT
      obtain ⟨sa, hsa⟩ := hE.st 136 "no such rule or predicate" (by decide +kernel)
      exact vx_throwS (own := RX10) (cls := "java/lang/IndexOutOfBoundsException") (text := "no such rule or predicate") (names := ["java/lang/RuntimeException", "java/lang/Exception"]) (ik := 134) (is := 136) (ic := 138) (sa := sa) (A := A) hx hb hl9 hown (by decide +kernel) (by decide +kernel) (hts (.classLink RX10 134 "java/lang/IndexOutOfBoundsException") (by decide +kernel)) (hts (.initialized "java/lang/IndexOutOfBoundsException") (by decide +kernel)) hsa (wq_hat hE hts ix_k_X10_addCount_138 (by decide +kernel) (by decide +kernel)) (by decide +kernel) hE.zu hE.zs hS (hl.1.trans hml.symm) dX10_addCount_26 dX10_addCount_29 dX10_addCount_30 dX10_addCount_32 dX10_addCount_35 (fun x hx => (hEx x hx).elim) (Nat.le_of_ble_eq_true rfl) (Nat.le_of_ble_eq_true rfl) (Nat.le_of_ble_eq_true rfl) (Nat.le_of_ble_eq_true rfl) hlocks (fun t ha hz hk => wq_thrW (W := (wW_k_X10_addCount ty X y0 y1 y2 pn rn tn en rf hn kn on cu pu gw an ch cg fb mh ml ih lb ic nn kp y_k y_p y_lo y_up y_sp y_we y_le y_hc y_cc yc)) hS hP hD (by exact (Or.inl ⟨(by rw [hT]), (by first | rw [hT] | rfl)⟩)) hz hk) hS.2.2 (Nat.le_of_ble_eq_true rfl) (Nat.le_of_ble_eq_true rfl)
    refine lv_ifnullN (tgt := 26) hx hb dX10_addCount_12 (by decide) ?_
    exact J_26 () hT _ _ hP hD hS _ (lv_sub hl [] rfl)
  · rw [ho_5, oE_some] at hT
    have e_5 : y0 = o_5 := (hal _ (by rw [← ht_5]; exact ho_5)).symm
    subst e_5
    refine W.eq (g2 := F0 m 8 ls [.ref y0]) rfl ?_
    refine lv_astore (lv' := [(5, .ref y0), (0, .ref (X 0)), (1, .int a1), (2, .int a2), (3, .int a3), (4, .int a4)]) hx hb dX10_addCount_8 hl (by decide) rfl (fun ls hl => ?_)
    refine lv_aload hx hb dX10_addCount_10 (lv_at hl 0 rfl) ?_
    have J_26 : ∀ (_ : Unit), TT = m_k_X10_addCount_26 cu ic kp y_cc → ∀ (H : Heap) (locs : List Loc), va_P D vwCl (wW_k_X10_addCount ty X y0 y1 y2 pn rn tn en rf hn kn on cu pu gw an ch cg fb mh ml ih lb ic nn kp y_k y_p y_lo y_up y_sp y_we y_le y_hc y_cc yc) H → va_D A (wW_k_X10_addCount ty X y0 y1 y2 pn rn tn en rf hn kn on cu pu gw an ch cg fb mh ml ih lb ic nn kp y_k y_p y_lo y_up y_sp y_we y_le y_hc y_cc yc) → va_S A s.heap H locs → ∀ ls : Array Slot, lv_has ls 6 [] → W p l e (headSpec vs_k_X10_addCount { frames := 7, cells := 2, slots := 14, locals := 103 }).room s m ([.ref (X 0), .int a1, .int a2, .int a3, .int a4] : List Value).toArray below meth c H locs 0 0 (vx_MQ below (va_Qi (fun (r : Int32) (u : va_W) => (∃ (q_92 : Nat), TT.1 = 0 ∧ TT.2.1 = 0 ∧ r = TT.2.2.1 ∧ (u = ((wW_k_X10_addCount ty X y0 y1 y2 pn rn tn en rf hn kn on TT.2.2.2.2.2.2.2.2.2.2.2.2.2.1 pu gw an ch cg fb mh ml ih lb TT.2.2.2.2.2.2.2.2.2.2.2.1 nn TT.2.2.2.2.2.2.2.2.2.2.2.2.1 y_k y_p y_lo y_up y_sp y_we y_le y_hc TT.2.2.2.2.2.2.2.2.2.2.2.2.2.2 yc) ++ [(q_92, .inr (6, [.int TT.2.2.2.1, .int TT.2.2.2.2.1, .int TT.2.2.2.2.2.1, .int TT.2.2.2.2.2.2.1, .int TT.2.2.2.2.2.2.2.1, .int TT.2.2.2.2.2.2.2.2.1, .int TT.2.2.2.2.2.2.2.2.2.1, .int TT.2.2.2.2.2.2.2.2.2.2.1]))]))) ∨ (∃ (q_92 : Nat), TT.1 = 0 ∧ TT.2.1 = 1 ∧ r = TT.2.2.1 ∧ (u = ((wW_k_X10_addCount ty X y0 y1 y2 pn rn tn en rf hn kn on TT.2.2.2.2.2.2.2.2.2.2.2.2.2.1 pu gw an ch cg fb mh ml ih lb TT.2.2.2.2.2.2.2.2.2.2.2.1 nn TT.2.2.2.2.2.2.2.2.2.2.2.2.1 y_k y_p y_lo y_up y_sp y_we y_le y_hc TT.2.2.2.2.2.2.2.2.2.2.2.2.2.2 (va_up yc y_cc.toNatClampNeg (some q_92))) ++ [(q_92, .inr (6, [.int TT.2.2.2.1, .int TT.2.2.2.2.1, .int TT.2.2.2.2.2.1, .int TT.2.2.2.2.2.2.1, .int TT.2.2.2.2.2.2.2.1, .int TT.2.2.2.2.2.2.2.2.1, .int TT.2.2.2.2.2.2.2.2.2.1, .int TT.2.2.2.2.2.2.2.2.2.2.1]))])))) (wq_B D A) A) (vx_X (fun u : String × va_W => (TT.1 = 1 ∧ u = ("java/lang/IndexOutOfBoundsException", (wW_k_X10_addCount ty X y0 y1 y2 pn rn tn en rf hn kn on TT.2.2.2.2.2.2.2.2.2.2.2.2.2.1 pu gw an ch cg fb mh ml ih lb TT.2.2.2.2.2.2.2.2.2.2.2.1 nn TT.2.2.2.2.2.2.2.2.2.2.2.2.1 y_k y_p y_lo y_up y_sp y_we y_le y_hc TT.2.2.2.2.2.2.2.2.2.2.2.2.2.2 yc))) ∨ (TT.1 = 2 ∧ u = ("java/lang/IllegalArgumentException", (wW_k_X10_addCount ty X y0 y1 y2 pn rn tn en rf hn kn on TT.2.2.2.2.2.2.2.2.2.2.2.2.2.1 pu gw an ch cg fb mh ml ih lb TT.2.2.2.2.2.2.2.2.2.2.2.1 nn TT.2.2.2.2.2.2.2.2.2.2.2.2.1 y_k y_p y_lo y_up y_sp y_we y_le y_hc TT.2.2.2.2.2.2.2.2.2.2.2.2.2.2 yc))) ∨ (TT.1 = 3 ∧ u = ("java/lang/IllegalStateException", (wW_k_X10_addCount ty X y0 y1 y2 pn rn tn en rf hn kn on TT.2.2.2.2.2.2.2.2.2.2.2.2.2.1 pu gw an ch cg fb mh ml ih lb TT.2.2.2.2.2.2.2.2.2.2.2.1 nn TT.2.2.2.2.2.2.2.2.2.2.2.2.1 y_k y_p y_lo y_up y_sp y_we y_le y_hc TT.2.2.2.2.2.2.2.2.2.2.2.2.2.2 yc)))) (wq_BX D A) A) ([.ref (X 0), .int a1, .int a2, .int a3, .int a4] : List Value).toArray s 2 14 A) (F0 m 26 ls []) := by
      intro _ hT  H locs hP hD hS ls hl
      rw [m_k_X10_addCount_26] at hT
      obtain ⟨sa, hsa⟩ := hE.st 136 "no such rule or predicate" (by decide +kernel)
      exact vx_throwS (own := RX10) (cls := "java/lang/IndexOutOfBoundsException") (text := "no such rule or predicate") (names := ["java/lang/RuntimeException", "java/lang/Exception"]) (ik := 134) (is := 136) (ic := 138) (sa := sa) (A := A) hx hb hl9 hown (by decide +kernel) (by decide +kernel) (hts (.classLink RX10 134 "java/lang/IndexOutOfBoundsException") (by decide +kernel)) (hts (.initialized "java/lang/IndexOutOfBoundsException") (by decide +kernel)) hsa (wq_hat hE hts ix_k_X10_addCount_138 (by decide +kernel) (by decide +kernel)) (by decide +kernel) hE.zu hE.zs hS (hl.1.trans hml.symm) dX10_addCount_26 dX10_addCount_29 dX10_addCount_30 dX10_addCount_32 dX10_addCount_35 (fun x hx => (hEx x hx).elim) (Nat.le_of_ble_eq_true rfl) (Nat.le_of_ble_eq_true rfl) (Nat.le_of_ble_eq_true rfl) (Nat.le_of_ble_eq_true rfl) hlocks (fun t ha hz hk => wq_thrW (W := (wW_k_X10_addCount ty X y0 y1 y2 pn rn tn en rf hn kn on cu pu gw an ch cg fb mh ml ih lb ic nn kp y_k y_p y_lo y_up y_sp y_we y_le y_hc y_cc yc)) hS hP hD (by exact (Or.inl ⟨(by rw [hT]), (by first | rw [hT] | rfl)⟩)) hz hk) hS.2.2 (Nat.le_of_ble_eq_true rfl) (Nat.le_of_ble_eq_true rfl)
    refine lv_ifnull hx hb dX10_addCount_12 ?_
    refine lv_aload_n hx hb dX10_addCount_15 rfl (lv_at hl 1 rfl) ?_
    refine va_get (D := D) (ci := 12) (v := .ref (X 1)) (C := RX10) (T := TX10) (N := 7) hx hb hts iv_k_X10_addCount_X10 hown hK hP 0 rfl rfl 0 (by decide) (hts (.fieldLink RX10 12 "AnswerFold" "program" "LAnswerFold$Program;") (by decide +kernel)) (fun _ h9 => h9) rfl dX10_addCount_16 ?_
    refine lv_iload_n hx hb dX10_addCount_19 rfl (lv_at hl 4 rfl) ?_
    obtain ⟨t_20, ht_20⟩ : ∃ t, t = m_k_X6_hasPredicate pn a3 := ⟨_, rfl⟩
    rw [lE_eq ht_20] at hT
    refine wq_iW (wc := (wW_k_X6_hasPredicate ty X pn rn tn en)) (va_runV (As := [.int a3]) (rest := []) ⟨hx, hb, hml, hown, hts⟩ (k_X6_hasPredicate l D ty td mi H.size X pn rn tn en a3 t_20 ht_20) (cwV 1 hts gv_k_X10_addCount_1 rfl rfl rfl (by decide +kernel) ⟨(Nat.le_of_ble_eq_true rfl), (Nat.le_of_ble_eq_true rfl)⟩) (wm_V (wm_preS hP hD hK hE hS hA [false, true] rfl) (va_recv (q0 := 1) (ci := 8) hK hP rfl rfl)) rfl rfl hl.1 rfl (lv_room (Nat.le_of_ble_eq_true rfl)) dX10_addCount_20 ⟨(Nat.le_of_ble_eq_true rfl), (Nat.le_of_ble_eq_true rfl)⟩) hS hA hP hD [false, true] rfl (fun _ _ h => by rcases h with ⟨-, -, rfl⟩; rfl) (fun r u H locs hw hP hD hS => ?_)
    obtain ⟨hr0, c_5, rfl⟩ := hw
    subst r
    have hP : va_P D vwCl (wW_k_X10_addCount ty X y0 y1 y2 pn rn tn en rf hn kn on cu pu gw an ch cg fb mh ml ih lb ic nn kp y_k y_p y_lo y_up y_sp y_we y_le y_hc y_cc yc) H := hP
    have hD : va_D A (wW_k_X10_addCount ty X y0 y1 y2 pn rn tn en rf hn kn on cu pu gw an ch cg fb mh ml ih lb ic nn kp y_k y_p y_lo y_up y_sp y_we y_le y_hc y_cc yc) := hD
    refine W.widen (k := 0) (n := 0) (Nat.le_of_ble_eq_true rfl) (Nat.le_of_ble_eq_true rfl) ?_
    refine lv_if_ne (tgt := 36) hx hb dX10_addCount_23 (by decide) (fun c_6 => ?_) (fun c_6 => ?_)
    · rw [if_neg c_6] at hT
      refine lv_iload_n hx hb dX10_addCount_36 rfl (lv_at hl 3 rfl) ?_
      refine lv_bipush (v := 103) hx hb dX10_addCount_37 (by decide) ?_
      have J_58 : ∀ (_ : Unit), TT = m_k_X10_addCount_58 cu ic kp y_cc a2 a3 a4 → ∀ (H : Heap) (locs : List Loc), va_P D vwCl (wW_k_X10_addCount ty X y0 y1 y2 pn rn tn en rf hn kn on cu pu gw an ch cg fb mh ml ih lb ic nn kp y_k y_p y_lo y_up y_sp y_we y_le y_hc y_cc yc) H → va_D A (wW_k_X10_addCount ty X y0 y1 y2 pn rn tn en rf hn kn on cu pu gw an ch cg fb mh ml ih lb ic nn kp y_k y_p y_lo y_up y_sp y_we y_le y_hc y_cc yc) → va_S A s.heap H locs → ∀ ls : Array Slot, lv_has ls 6 [(0, .ref (X 0)), (2, .int a2), (3, .int a3), (4, .int a4), (5, .ref y0)] → W p l e (headSpec vs_k_X10_addCount { frames := 7, cells := 2, slots := 14, locals := 103 }).room s m ([.ref (X 0), .int a1, .int a2, .int a3, .int a4] : List Value).toArray below meth c H locs 0 0 (vx_MQ below (va_Qi (fun (r : Int32) (u : va_W) => (∃ (q_92 : Nat), TT.1 = 0 ∧ TT.2.1 = 0 ∧ r = TT.2.2.1 ∧ (u = ((wW_k_X10_addCount ty X y0 y1 y2 pn rn tn en rf hn kn on TT.2.2.2.2.2.2.2.2.2.2.2.2.2.1 pu gw an ch cg fb mh ml ih lb TT.2.2.2.2.2.2.2.2.2.2.2.1 nn TT.2.2.2.2.2.2.2.2.2.2.2.2.1 y_k y_p y_lo y_up y_sp y_we y_le y_hc TT.2.2.2.2.2.2.2.2.2.2.2.2.2.2 yc) ++ [(q_92, .inr (6, [.int TT.2.2.2.1, .int TT.2.2.2.2.1, .int TT.2.2.2.2.2.1, .int TT.2.2.2.2.2.2.1, .int TT.2.2.2.2.2.2.2.1, .int TT.2.2.2.2.2.2.2.2.1, .int TT.2.2.2.2.2.2.2.2.2.1, .int TT.2.2.2.2.2.2.2.2.2.2.1]))]))) ∨ (∃ (q_92 : Nat), TT.1 = 0 ∧ TT.2.1 = 1 ∧ r = TT.2.2.1 ∧ (u = ((wW_k_X10_addCount ty X y0 y1 y2 pn rn tn en rf hn kn on TT.2.2.2.2.2.2.2.2.2.2.2.2.2.1 pu gw an ch cg fb mh ml ih lb TT.2.2.2.2.2.2.2.2.2.2.2.1 nn TT.2.2.2.2.2.2.2.2.2.2.2.2.1 y_k y_p y_lo y_up y_sp y_we y_le y_hc TT.2.2.2.2.2.2.2.2.2.2.2.2.2.2 (va_up yc y_cc.toNatClampNeg (some q_92))) ++ [(q_92, .inr (6, [.int TT.2.2.2.1, .int TT.2.2.2.2.1, .int TT.2.2.2.2.2.1, .int TT.2.2.2.2.2.2.1, .int TT.2.2.2.2.2.2.2.1, .int TT.2.2.2.2.2.2.2.2.1, .int TT.2.2.2.2.2.2.2.2.2.1, .int TT.2.2.2.2.2.2.2.2.2.2.1]))])))) (wq_B D A) A) (vx_X (fun u : String × va_W => (TT.1 = 1 ∧ u = ("java/lang/IndexOutOfBoundsException", (wW_k_X10_addCount ty X y0 y1 y2 pn rn tn en rf hn kn on TT.2.2.2.2.2.2.2.2.2.2.2.2.2.1 pu gw an ch cg fb mh ml ih lb TT.2.2.2.2.2.2.2.2.2.2.2.1 nn TT.2.2.2.2.2.2.2.2.2.2.2.2.1 y_k y_p y_lo y_up y_sp y_we y_le y_hc TT.2.2.2.2.2.2.2.2.2.2.2.2.2.2 yc))) ∨ (TT.1 = 2 ∧ u = ("java/lang/IllegalArgumentException", (wW_k_X10_addCount ty X y0 y1 y2 pn rn tn en rf hn kn on TT.2.2.2.2.2.2.2.2.2.2.2.2.2.1 pu gw an ch cg fb mh ml ih lb TT.2.2.2.2.2.2.2.2.2.2.2.1 nn TT.2.2.2.2.2.2.2.2.2.2.2.2.1 y_k y_p y_lo y_up y_sp y_we y_le y_hc TT.2.2.2.2.2.2.2.2.2.2.2.2.2.2 yc))) ∨ (TT.1 = 3 ∧ u = ("java/lang/IllegalStateException", (wW_k_X10_addCount ty X y0 y1 y2 pn rn tn en rf hn kn on TT.2.2.2.2.2.2.2.2.2.2.2.2.2.1 pu gw an ch cg fb mh ml ih lb TT.2.2.2.2.2.2.2.2.2.2.2.1 nn TT.2.2.2.2.2.2.2.2.2.2.2.2.1 y_k y_p y_lo y_up y_sp y_we y_le y_hc TT.2.2.2.2.2.2.2.2.2.2.2.2.2.2 yc)))) (wq_BX D A) A) ([.ref (X 0), .int a1, .int a2, .int a3, .int a4] : List Value).toArray s 2 14 A) (F0 m 58 ls []) := by
        intro _ hT  H locs hP hD hS ls hl
        rw [m_k_X10_addCount_58] at hT
        refine lv_iload hx hb dX10_addCount_58 (lv_at hl 3 rfl) ?_
        have J_70 : ∀ (_ : Unit), TT = m_k_X10_addCount_70 cu ic kp y_cc → ∀ (H : Heap) (locs : List Loc), va_P D vwCl (wW_k_X10_addCount ty X y0 y1 y2 pn rn tn en rf hn kn on cu pu gw an ch cg fb mh ml ih lb ic nn kp y_k y_p y_lo y_up y_sp y_we y_le y_hc y_cc yc) H → va_D A (wW_k_X10_addCount ty X y0 y1 y2 pn rn tn en rf hn kn on cu pu gw an ch cg fb mh ml ih lb ic nn kp y_k y_p y_lo y_up y_sp y_we y_le y_hc y_cc yc) → va_S A s.heap H locs → ∀ ls : Array Slot, lv_has ls 6 [] → W p l e (headSpec vs_k_X10_addCount { frames := 7, cells := 2, slots := 14, locals := 103 }).room s m ([.ref (X 0), .int a1, .int a2, .int a3, .int a4] : List Value).toArray below meth c H locs 0 0 (vx_MQ below (va_Qi (fun (r : Int32) (u : va_W) => (∃ (q_92 : Nat), TT.1 = 0 ∧ TT.2.1 = 0 ∧ r = TT.2.2.1 ∧ (u = ((wW_k_X10_addCount ty X y0 y1 y2 pn rn tn en rf hn kn on TT.2.2.2.2.2.2.2.2.2.2.2.2.2.1 pu gw an ch cg fb mh ml ih lb TT.2.2.2.2.2.2.2.2.2.2.2.1 nn TT.2.2.2.2.2.2.2.2.2.2.2.2.1 y_k y_p y_lo y_up y_sp y_we y_le y_hc TT.2.2.2.2.2.2.2.2.2.2.2.2.2.2 yc) ++ [(q_92, .inr (6, [.int TT.2.2.2.1, .int TT.2.2.2.2.1, .int TT.2.2.2.2.2.1, .int TT.2.2.2.2.2.2.1, .int TT.2.2.2.2.2.2.2.1, .int TT.2.2.2.2.2.2.2.2.1, .int TT.2.2.2.2.2.2.2.2.2.1, .int TT.2.2.2.2.2.2.2.2.2.2.1]))]))) ∨ (∃ (q_92 : Nat), TT.1 = 0 ∧ TT.2.1 = 1 ∧ r = TT.2.2.1 ∧ (u = ((wW_k_X10_addCount ty X y0 y1 y2 pn rn tn en rf hn kn on TT.2.2.2.2.2.2.2.2.2.2.2.2.2.1 pu gw an ch cg fb mh ml ih lb TT.2.2.2.2.2.2.2.2.2.2.2.1 nn TT.2.2.2.2.2.2.2.2.2.2.2.2.1 y_k y_p y_lo y_up y_sp y_we y_le y_hc TT.2.2.2.2.2.2.2.2.2.2.2.2.2.2 (va_up yc y_cc.toNatClampNeg (some q_92))) ++ [(q_92, .inr (6, [.int TT.2.2.2.1, .int TT.2.2.2.2.1, .int TT.2.2.2.2.2.1, .int TT.2.2.2.2.2.2.1, .int TT.2.2.2.2.2.2.2.1, .int TT.2.2.2.2.2.2.2.2.1, .int TT.2.2.2.2.2.2.2.2.2.1, .int TT.2.2.2.2.2.2.2.2.2.2.1]))])))) (wq_B D A) A) (vx_X (fun u : String × va_W => (TT.1 = 1 ∧ u = ("java/lang/IndexOutOfBoundsException", (wW_k_X10_addCount ty X y0 y1 y2 pn rn tn en rf hn kn on TT.2.2.2.2.2.2.2.2.2.2.2.2.2.1 pu gw an ch cg fb mh ml ih lb TT.2.2.2.2.2.2.2.2.2.2.2.1 nn TT.2.2.2.2.2.2.2.2.2.2.2.2.1 y_k y_p y_lo y_up y_sp y_we y_le y_hc TT.2.2.2.2.2.2.2.2.2.2.2.2.2.2 yc))) ∨ (TT.1 = 2 ∧ u = ("java/lang/IllegalArgumentException", (wW_k_X10_addCount ty X y0 y1 y2 pn rn tn en rf hn kn on TT.2.2.2.2.2.2.2.2.2.2.2.2.2.1 pu gw an ch cg fb mh ml ih lb TT.2.2.2.2.2.2.2.2.2.2.2.1 nn TT.2.2.2.2.2.2.2.2.2.2.2.2.1 y_k y_p y_lo y_up y_sp y_we y_le y_hc TT.2.2.2.2.2.2.2.2.2.2.2.2.2.2 yc))) ∨ (TT.1 = 3 ∧ u = ("java/lang/IllegalStateException", (wW_k_X10_addCount ty X y0 y1 y2 pn rn tn en rf hn kn on TT.2.2.2.2.2.2.2.2.2.2.2.2.2.1 pu gw an ch cg fb mh ml ih lb TT.2.2.2.2.2.2.2.2.2.2.2.1 nn TT.2.2.2.2.2.2.2.2.2.2.2.2.1 y_k y_p y_lo y_up y_sp y_we y_le y_hc TT.2.2.2.2.2.2.2.2.2.2.2.2.2.2 yc)))) (wq_BX D A) A) ([.ref (X 0), .int a1, .int a2, .int a3, .int a4] : List Value).toArray s 2 14 A) (F0 m 70 ls []) := by
          intro _ hT  H locs hP hD hS ls hl
          rw [m_k_X10_addCount_70] at hT
          obtain ⟨sa, hsa⟩ := hE.st 185 "bounds are 0 to 20" (by decide +kernel)
          exact vx_throwS (own := RX10) (cls := "java/lang/IllegalArgumentException") (text := "bounds are 0 to 20") (names := ["java/lang/RuntimeException", "java/lang/Exception"]) (ik := 60) (is := 185) (ic := 64) (sa := sa) (A := A) hx hb hl9 hown (by decide +kernel) (by decide +kernel) (hts (.classLink RX10 60 "java/lang/IllegalArgumentException") (by decide +kernel)) (hts (.initialized "java/lang/IllegalArgumentException") (by decide +kernel)) hsa (wq_hat hE hts ix_k_X10_addCount_64 (by decide +kernel) (by decide +kernel)) (by decide +kernel) hE.zu hE.zs hS (hl.1.trans hml.symm) dX10_addCount_70 dX10_addCount_73 dX10_addCount_74 dX10_addCount_76 dX10_addCount_79 (fun x hx => (hEx x hx).elim) (Nat.le_of_ble_eq_true rfl) (Nat.le_of_ble_eq_true rfl) (Nat.le_of_ble_eq_true rfl) (Nat.le_of_ble_eq_true rfl) hlocks (fun t ha hz hk => wq_thrW (W := (wW_k_X10_addCount ty X y0 y1 y2 pn rn tn en rf hn kn on cu pu gw an ch cg fb mh ml ih lb ic nn kp y_k y_p y_lo y_up y_sp y_we y_le y_hc y_cc yc)) hS hP hD (by exact (Or.inr (Or.inl ⟨(by rw [hT]), (by first | rw [hT] | rfl)⟩))) hz hk) hS.2.2 (Nat.le_of_ble_eq_true rfl) (Nat.le_of_ble_eq_true rfl)
        refine lv_if_lt (tgt := 70) hx hb dX10_addCount_60 (by decide) (fun c_7 => ?_) (fun c_7 => ?_)
        · rw [if_pos c_7] at hT
          exact J_70 () hT _ _ hP hD hS _ (lv_sub hl [] rfl)
        · rw [if_neg c_7] at hT
          refine lv_iload hx hb dX10_addCount_63 (lv_at hl 3 rfl) ?_
          refine lv_bipush (v := 20) hx hb dX10_addCount_65 (by decide) ?_
          refine lv_icmp_le (tgt := 80) hx hb dX10_addCount_67 (by decide) (fun c_8 => ?_) (fun c_8 => ?_)
          · rw [if_pos c_8] at hT
            refine lv_aload_n hx hb dX10_addCount_80 rfl (lv_at hl 0 rfl) ?_
            refine lv_aload hx hb dX10_addCount_81 (lv_at hl 4 rfl) ?_
            obtain ⟨t_83, ht_83⟩ : ∃ t, t = m_k_X10_checkRoomForCondition y_cc := ⟨_, rfl⟩
            rw [lE_eq ht_83] at hT
            refine wq_xvW (wc := (wW_k_X10_checkRoomForCondition ty y0 y1 y2 y_k y_p y_lo y_up y_sp y_we y_le y_hc y_cc)) (vx_runV (As := [.ref y0]) (rest := []) ⟨hx, hb, hml, hown, hts⟩ (k_X10_checkRoomForCondition l hl9 D ty td mi H.size X y0 y_k y_p y_lo y_up y_sp y_we y_le y1 y_hc y2 y_cc t_83 ht_83) (cwV 1 hts gv_k_X10_addCount_2 rfl rfl rfl (by decide +kernel) ⟨(Nat.le_of_ble_eq_true rfl), (Nat.le_of_ble_eq_true rfl)⟩) (wm_V (wm_preS hP hD hK hE hS hA [false, false, false, false, false, false, true] rfl) (va_recv (q0 := 0) (ci := 12) hK hP rfl rfl)) rfl rfl hl.1 rfl (lv_room (Nat.le_of_ble_eq_true rfl)) dX10_addCount_83 ⟨(Nat.le_of_ble_eq_true rfl), (Nat.le_of_ble_eq_true rfl)⟩) hS hA hP hD [false, false, false, false, false, false, true] rfl (fun _ h => by rcases h with ⟨-, rfl⟩; rfl) (fun _ _ h => by rcases h with ⟨-, h⟩ <;> (cases h; rfl)) (fun E9 u H locs q9 ce hw hP hD hS hce hcv hcl => ?_) (fun u H locs hw hP hD hS => ?_)
            · obtain ⟨c_9, hEq⟩ := hw
              cases hEq
              rw [if_neg (show ¬ t_83 = 0 by rw [c_9]; decide)] at hT
              have hP : va_P D vwCl (wW_k_X10_addCount ty X y0 y1 y2 pn rn tn en rf hn kn on cu pu gw an ch cg fb mh ml ih lb ic nn kp y_k y_p y_lo y_up y_sp y_we y_le y_hc y_cc yc) H := hP
              have hD : va_D A (wW_k_X10_addCount ty X y0 y1 y2 pn rn tn en rf hn kn on cu pu gw an ch cg fb mh ml ih lb ic nn kp y_k y_p y_lo y_up y_sp y_we y_le y_hc y_cc yc) := hD
              refine vx_widen (k := 2) (n := 14) (Nat.le_of_ble_eq_true rfl) (Nat.le_of_ble_eq_true rfl) ?_
              exact vx_out (E := "java/lang/IllegalStateException") (fun x hx => (hEx x hx).elim) hlocks hce hcv hcl (fun t ht ha => wq_thrW0 (W := (wW_k_X10_addCount ty X y0 y1 y2 pn rn tn en rf hn kn on cu pu gw an ch cg fb mh ml ih lb ic nn kp y_k y_p y_lo y_up y_sp y_we y_le y_hc y_cc yc)) hS hP hD (by exact (Or.inr (Or.inr ⟨(by rw [hT]), (by first | rw [hT] | rfl)⟩))) ht) hS.2.2 (Nat.le_refl _) (Nat.le_refl _)
            · obtain ⟨c_10, rfl⟩ := hw
              rw [if_pos c_10] at hT
              have hP : va_P D vwCl (wW_k_X10_addCount ty X y0 y1 y2 pn rn tn en rf hn kn on cu pu gw an ch cg fb mh ml ih lb ic nn kp y_k y_p y_lo y_up y_sp y_we y_le y_hc y_cc yc) H := hP
              have hD : va_D A (wW_k_X10_addCount ty X y0 y1 y2 pn rn tn en rf hn kn on cu pu gw an ch cg fb mh ml ih lb ic nn kp y_k y_p y_lo y_up y_sp y_we y_le y_hc y_cc yc) := hD
              refine W.widen (k := 1) (n := 6) (Nat.le_of_ble_eq_true rfl) (Nat.le_of_ble_eq_true rfl) ?_
              refine lv_aload_n hx hb dX10_addCount_86 rfl (lv_at hl 0 rfl) ?_
              obtain ⟨t_87, ht_87⟩ : ∃ t, t = m_k_X10_forgetGrounding := ⟨_, rfl⟩
              rw [lE_eq ht_87] at hT
              refine wq_vW (wc := (wW_k_X10_forgetGrounding ty X hn kn on cu pu gw an ch cg fb mh ml ih lb ic nn kp)) (va_runV (As := []) (rest := []) ⟨hx, hb, hml, hown, hts⟩ (k_X10_forgetGrounding l D ty td mi H.size X hn kn on cu pu gw an ch cg fb mh ml ih lb ic nn kp t_87 ht_87) (cwV 0 hts gv_k_X10_addCount_3 rfl rfl rfl (by decide +kernel) ⟨(Nat.le_of_ble_eq_true rfl), (Nat.le_of_ble_eq_true rfl)⟩) (wm_V (wm_preS hP hD hK hE hS hA [true, false, false, true, true, true] rfl) (va_recv (q0 := 0) (ci := 12) hK hP rfl rfl)) rfl rfl hl.1 rfl (lv_room (Nat.le_of_ble_eq_true rfl)) dX10_addCount_87 ⟨(Nat.le_of_ble_eq_true rfl), (Nat.le_of_ble_eq_true rfl)⟩) hS hA hP hD [true, false, false, true, true, true] rfl (fun _ h => by rcases h with rfl; rfl) (fun u H locs hw hP hD hS => ?_)
              obtain rfl := hw
              have hP : va_P D vwCl (wW_k_X10_addCount ty X y0 y1 y2 pn rn tn en rf hn kn on t_87.2.2 pu gw an ch cg fb mh ml ih lb t_87.1 nn t_87.2.1 y_k y_p y_lo y_up y_sp y_we y_le y_hc y_cc yc) H := hP
              have hD : va_D A (wW_k_X10_addCount ty X y0 y1 y2 pn rn tn en rf hn kn on t_87.2.2 pu gw an ch cg fb mh ml ih lb t_87.1 nn t_87.2.1 y_k y_p y_lo y_up y_sp y_we y_le y_hc y_cc yc) := hD
              refine W.widen (k := 1) (n := 6) (Nat.le_of_ble_eq_true rfl) (Nat.le_of_ble_eq_true rfl) ?_
              refine lv_aload hx hb dX10_addCount_90 (lv_at hl 4 rfl) ?_
              refine va_new (ci := 6) (fs := [.int 0, .int 0, .int 0, .int 0, .int 0, .int 0, .int 0, .int 0]) (C := RX4) (T := TX4) (N := 8) hx hb hts iv_k_X10_addCount_X4 tyX4 tyX4_ok hown (hts (.classLink RX10 178 RX4) (by decide +kernel)) (hts (.instantiable RX4 8) (by decide +kernel)) (hts (.initialized RX4) (by decide +kernel)) hK hP hD hS hA rfl (fun j hj => by rcases (show j = 0 ∨ j = 1 ∨ j = 2 ∨ j = 3 ∨ j = 4 ∨ j = 5 ∨ j = 6 ∨ j = 7 by omega) with rfl | rfl | rfl | rfl | rfl | rfl | rfl | rfl <;> rfl) (Nat.le_of_ble_eq_true rfl) (Nat.le_of_ble_eq_true rfl) dX10_addCount_92 (fun q_92 H hP hD hS => ?_)
              have hP : va_P D vwCl ((wW_k_X10_addCount ty X y0 y1 y2 pn rn tn en rf hn kn on t_87.2.2 pu gw an ch cg fb mh ml ih lb t_87.1 nn t_87.2.1 y_k y_p y_lo y_up y_sp y_we y_le y_hc y_cc yc) ++ [(q_92, .inr (6, [.int 0, .int 0, .int 0, .int 0, .int 0, .int 0, .int 0, .int 0]))]) H := hP
              have hD : va_D A ((wW_k_X10_addCount ty X y0 y1 y2 pn rn tn en rf hn kn on t_87.2.2 pu gw an ch cg fb mh ml ih lb t_87.1 nn t_87.2.1 y_k y_p y_lo y_up y_sp y_we y_le y_hc y_cc yc) ++ [(q_92, .inr (6, [.int 0, .int 0, .int 0, .int 0, .int 0, .int 0, .int 0, .int 0]))]) := hD
              refine W.widen (k := 2) (n := 14) (Nat.le_of_ble_eq_true rfl) (Nat.le_of_ble_eq_true rfl) ?_
              refine lv_dup hx hb dX10_addCount_95 rfl ?_
              refine lv_iload_n hx hb dX10_addCount_96 rfl (lv_at hl 1 rfl) ?_
              refine lv_iload_n hx hb dX10_addCount_97 rfl (lv_at hl 2 rfl) ?_
              refine lv_iload hx hb dX10_addCount_98 (lv_at hl 3 rfl) ?_
              refine lv_iconst (v := 0) hx hb dX10_addCount_100 (by decide) ?_
              refine lv_iconst (v := 0) hx hb dX10_addCount_101 (by decide) ?_
              obtain ⟨t_102, ht_102⟩ : ∃ t, t = m_k_X4_init a2 a3 a4 0 0 := ⟨_, rfl⟩
              rw [lE_eq ht_102] at hT
              refine wq_vW (wc := (wW_k_X4_init ty q_92 (0) (0) (0) (0) (0) (0) (0) (0))) (va_runI (As := [.int a2, .int a3, .int a4, .int 0, .int 0]) (rest := [.ref q_92, .ref y0]) ⟨hx, hb, hml, hown, hts⟩ (k_X4_init l D ty td mi H.size q_92 a2 a3 a4 0 0 hcv_a2 t_102 ht_102) (cwI 5 hts gv_k_X10_addCount_4 rfl rfl rfl (hts (.initialized RX4) (by decide +kernel)) (hts (.methodLink RX10 180 yX4_init) (by decide +kernel)) (hts (.instanceMethod yX4_init) (by decide +kernel)) rfl (by decide +kernel) ⟨(Nat.le_of_ble_eq_true rfl), (Nat.le_of_ble_eq_true rfl)⟩) (wm_preS hP hD hK hE hS hA [false, false, false, false, false, false, false, false, true] rfl) rfl rfl hl.1 rfl (lv_room (Nat.le_of_ble_eq_true rfl)) dX10_addCount_102 ⟨(Nat.le_of_ble_eq_true rfl), (Nat.le_of_ble_eq_true rfl)⟩) hS hA hP hD [false, false, false, false, false, false, false, false, true] rfl (fun _ h => by rcases h with rfl; rfl) (fun u H locs hw hP hD hS => ?_)
              obtain rfl := hw
              have hP : va_P D vwCl ((wW_k_X10_addCount ty X y0 y1 y2 pn rn tn en rf hn kn on t_87.2.2 pu gw an ch cg fb mh ml ih lb t_87.1 nn t_87.2.1 y_k y_p y_lo y_up y_sp y_we y_le y_hc y_cc yc) ++ [(q_92, .inr (6, [.int t_102.1, .int t_102.2.1, .int t_102.2.2.1, .int t_102.2.2.2.1, .int t_102.2.2.2.2.1, .int t_102.2.2.2.2.2.1, .int t_102.2.2.2.2.2.2.1, .int t_102.2.2.2.2.2.2.2]))]) H := hP
              have hD : va_D A ((wW_k_X10_addCount ty X y0 y1 y2 pn rn tn en rf hn kn on t_87.2.2 pu gw an ch cg fb mh ml ih lb t_87.1 nn t_87.2.1 y_k y_p y_lo y_up y_sp y_we y_le y_hc y_cc yc) ++ [(q_92, .inr (6, [.int t_102.1, .int t_102.2.1, .int t_102.2.2.1, .int t_102.2.2.2.1, .int t_102.2.2.2.2.1, .int t_102.2.2.2.2.2.1, .int t_102.2.2.2.2.2.2.1, .int t_102.2.2.2.2.2.2.2]))]) := hD
              refine W.widen (k := 2) (n := 14) (Nat.le_of_ble_eq_true rfl) (Nat.le_of_ble_eq_true rfl) ?_
              obtain ⟨t_105, ht_105⟩ : ∃ t, t = m_k_X8_tellCondition y_cc := ⟨_, rfl⟩
              rw [lE_eq ht_105] at hT
              refine wq_iW (wc := (wW_k_X8_tellCondition ty y0 y1 y2 q_92 y_k y_p y_lo y_up y_sp y_we y_le y_hc y_cc yc t_102.1 t_102.2.1 t_102.2.2.1 t_102.2.2.2.1 t_102.2.2.2.2.1 t_102.2.2.2.2.2.1 t_102.2.2.2.2.2.2.1 t_102.2.2.2.2.2.2.2)) (va_runV (As := [.ref q_92]) (rest := []) ⟨hx, hb, hml, hown, hts⟩ (k_X8_tellCondition l D ty td mi H.size y0 y_k y_p y_lo y_up y_sp y_we y_le y1 y_hc y2 y_cc yc q_92 t_102.1 t_102.2.1 t_102.2.2.1 t_102.2.2.2.1 t_102.2.2.2.2.1 t_102.2.2.2.2.2.1 t_102.2.2.2.2.2.2.1 t_102.2.2.2.2.2.2.2 t_105 ht_105) (cwV 1 hts gv_k_X10_addCount_5 rfl rfl rfl (by decide +kernel) ⟨(Nat.le_of_ble_eq_true rfl), (Nat.le_of_ble_eq_true rfl)⟩) (wm_V (wm_preS hP hD hK hE hS hA [false, false, false, false, false, false, true, true, true] rfl) (va_recv (q0 := 6) (ci := 10) hK hP rfl rfl)) rfl rfl hl.1 rfl (lv_room (Nat.le_of_ble_eq_true rfl)) dX10_addCount_105 ⟨(Nat.le_of_ble_eq_true rfl), (Nat.le_of_ble_eq_true rfl)⟩) hS hA hP hD [false, false, false, false, false, false, true, true, true] rfl (fun _ _ h => by rcases h with ⟨-, -, rfl⟩ | ⟨-, -, rfl⟩ <;> rfl) (fun r u H locs hw hP hD hS => ?_)
              rcases hw with ⟨c_17, rfl, rfl⟩ | ⟨c_19, rfl, rfl⟩
              · rw [if_pos c_17] at hT
                have hP : va_P D vwCl ((wW_k_X10_addCount ty X y0 y1 y2 pn rn tn en rf hn kn on t_87.2.2 pu gw an ch cg fb mh ml ih lb t_87.1 nn t_87.2.1 y_k y_p y_lo y_up y_sp y_we y_le y_hc t_105.2.2 yc) ++ [(q_92, .inr (6, [.int t_102.1, .int t_102.2.1, .int t_102.2.2.1, .int t_102.2.2.2.1, .int t_102.2.2.2.2.1, .int t_102.2.2.2.2.2.1, .int t_102.2.2.2.2.2.2.1, .int t_102.2.2.2.2.2.2.2]))]) H := hP
                have hD : va_D A ((wW_k_X10_addCount ty X y0 y1 y2 pn rn tn en rf hn kn on t_87.2.2 pu gw an ch cg fb mh ml ih lb t_87.1 nn t_87.2.1 y_k y_p y_lo y_up y_sp y_we y_le y_hc t_105.2.2 yc) ++ [(q_92, .inr (6, [.int t_102.1, .int t_102.2.1, .int t_102.2.2.1, .int t_102.2.2.2.1, .int t_102.2.2.2.2.1, .int t_102.2.2.2.2.2.1, .int t_102.2.2.2.2.2.2.1, .int t_102.2.2.2.2.2.2.2]))]) := hD
                refine W.widen (k := 2) (n := 14) (Nat.le_of_ble_eq_true rfl) (Nat.le_of_ble_eq_true rfl) ?_
                exact END_0 q_92 t_105.2.1 t_102.1 t_102.2.1 t_102.2.2.1 t_102.2.2.2.1 t_102.2.2.2.2.1 t_102.2.2.2.2.2.1 t_102.2.2.2.2.2.2.1 t_102.2.2.2.2.2.2.2 t_87.1 t_87.2.1 t_87.2.2 t_105.2.2 hT _ _ hP hD hS _ _ dX10_addCount_108
              · rw [if_neg (show ¬ t_105.1 = 0 by rw [c_19]; decide)] at hT
                have hP : va_P D vwCl ((wW_k_X10_addCount ty X y0 y1 y2 pn rn tn en rf hn kn on t_87.2.2 pu gw an ch cg fb mh ml ih lb t_87.1 nn t_87.2.1 y_k y_p y_lo y_up y_sp y_we y_le y_hc t_105.2.2 (va_up yc y_cc.toNatClampNeg (some q_92))) ++ [(q_92, .inr (6, [.int t_102.1, .int t_102.2.1, .int t_102.2.2.1, .int t_102.2.2.2.1, .int t_102.2.2.2.2.1, .int t_102.2.2.2.2.2.1, .int t_102.2.2.2.2.2.2.1, .int t_102.2.2.2.2.2.2.2]))]) H := hP
                have hD : va_D A ((wW_k_X10_addCount ty X y0 y1 y2 pn rn tn en rf hn kn on t_87.2.2 pu gw an ch cg fb mh ml ih lb t_87.1 nn t_87.2.1 y_k y_p y_lo y_up y_sp y_we y_le y_hc t_105.2.2 (va_up yc y_cc.toNatClampNeg (some q_92))) ++ [(q_92, .inr (6, [.int t_102.1, .int t_102.2.1, .int t_102.2.2.1, .int t_102.2.2.2.1, .int t_102.2.2.2.2.1, .int t_102.2.2.2.2.2.1, .int t_102.2.2.2.2.2.2.1, .int t_102.2.2.2.2.2.2.2]))]) := hD
                refine W.widen (k := 2) (n := 14) (Nat.le_of_ble_eq_true rfl) (Nat.le_of_ble_eq_true rfl) ?_
                exact END_1 q_92 t_105.2.1 t_102.1 t_102.2.1 t_102.2.2.1 t_102.2.2.2.1 t_102.2.2.2.2.1 t_102.2.2.2.2.2.1 t_102.2.2.2.2.2.2.1 t_102.2.2.2.2.2.2.2 t_87.1 t_87.2.1 t_87.2.2 t_105.2.2 hT _ _ hP hD hS _ _ dX10_addCount_108
          · rw [if_neg c_8] at hT
            exact J_70 () hT _ _ hP hD hS _ (lv_sub hl [] rfl)
      refine lv_icmp_eq (tgt := 58) hx hb dX10_addCount_39 (by decide) (fun c_20 => ?_) (fun c_20 => ?_)
      · rw [if_pos c_20] at hT
        exact J_58 () hT _ _ hP hD hS _ (lv_sub hl [1, 3, 4, 5, 0] rfl)
      · rw [if_neg c_20] at hT
        refine lv_iload_n hx hb dX10_addCount_42 rfl (lv_at hl 3 rfl) ?_
        refine lv_bipush (v := 108) hx hb dX10_addCount_43 (by decide) ?_
        refine lv_icmp_eq (tgt := 58) hx hb dX10_addCount_45 (by decide) (fun c_21 => ?_) (fun c_21 => ?_)
        · rw [if_pos c_21] at hT
          exact J_58 () hT _ _ hP hD hS _ (lv_sub hl [1, 3, 4, 5, 0] rfl)
        · rw [if_neg c_21] at hT
          obtain ⟨sa, hsa⟩ := hE.st 183 "no such kind of count" (by decide +kernel)
          exact vx_throwS (own := RX10) (cls := "java/lang/IllegalArgumentException") (text := "no such kind of count") (names := ["java/lang/RuntimeException", "java/lang/Exception"]) (ik := 60) (is := 183) (ic := 64) (sa := sa) (A := A) hx hb hl9 hown (by decide +kernel) (by decide +kernel) (hts (.classLink RX10 60 "java/lang/IllegalArgumentException") (by decide +kernel)) (hts (.initialized "java/lang/IllegalArgumentException") (by decide +kernel)) hsa (wq_hat hE hts ix_k_X10_addCount_64 (by decide +kernel) (by decide +kernel)) (by decide +kernel) hE.zu hE.zs hS (hl.1.trans hml.symm) dX10_addCount_48 dX10_addCount_51 dX10_addCount_52 dX10_addCount_54 dX10_addCount_57 (fun x hx => (hEx x hx).elim) (Nat.le_of_ble_eq_true rfl) (Nat.le_of_ble_eq_true rfl) (Nat.le_of_ble_eq_true rfl) (Nat.le_of_ble_eq_true rfl) hlocks (fun t ha hz hk => wq_thrW (W := (wW_k_X10_addCount ty X y0 y1 y2 pn rn tn en rf hn kn on cu pu gw an ch cg fb mh ml ih lb ic nn kp y_k y_p y_lo y_up y_sp y_we y_le y_hc y_cc yc)) hS hP hD (by exact (Or.inr (Or.inl ⟨(by rw [hT]), (by first | rw [hT] | rfl)⟩))) hz hk) hS.2.2 (Nat.le_of_ble_eq_true rfl) (Nat.le_of_ble_eq_true rfl)
    · rw [if_pos c_6] at hT
      exact J_26 () hT _ _ hP hD hS _ (lv_sub hl [] rfl)
theorem dX10_share_0 : decode cX10_share 0 = .ok (.aload_n 0, 1) := by decide +kernel
theorem dX10_share_1 : decode cX10_share 1 = .ok (.invokevirtual 312, 3) := by decide +kernel
theorem dX10_share_4 : decode cX10_share 4 = .ok (.aload_n 0, 1) := by decide +kernel
theorem dX10_share_5 : decode cX10_share 5 = .ok (.iload_n 1, 1) := by decide +kernel
theorem dX10_share_6 : decode cX10_share 6 = .ok (.iload_n 2, 1) := by decide +kernel
theorem dX10_share_7 : decode cX10_share 7 = .ok (.iload_n 3, 1) := by decide +kernel
theorem dX10_share_8 : decode cX10_share 8 = .ok (.invokevirtual 206, 3) := by decide +kernel
theorem dX10_share_11 : decode cX10_share 11 = .ok (.istore 4, 2) := by decide +kernel
theorem dX10_share_13 : decode cX10_share 13 = .ok (.aload_n 0, 1) := by decide +kernel
theorem dX10_share_14 : decode cX10_share 14 = .ok (.getfield 56, 3) := by decide +kernel
theorem dX10_share_17 : decode cX10_share 17 = .ok (.getfield 280, 3) := by decide +kernel
theorem dX10_share_20 : decode cX10_share 20 = .ok (.ifCond .gt 14, 3) := by decide +kernel
theorem dX10_share_23 : decode cX10_share 23 = .ok (.new 338, 3) := by decide +kernel
theorem dX10_share_26 : decode cX10_share 26 = .ok (.dup, 1) := by decide +kernel
theorem dX10_share_27 : decode cX10_share 27 = .ok (.ldc_w 340, 3) := by decide +kernel
theorem dX10_share_30 : decode cX10_share 30 = .ok (.invokespecial 342, 3) := by decide +kernel
theorem dX10_share_33 : decode cX10_share 33 = .ok (.athrow, 1) := by decide +kernel
theorem dX10_share_34 : decode cX10_share 34 = .ok (.aload_n 0, 1) := by decide +kernel
theorem dX10_share_35 : decode cX10_share 35 = .ok (.iload 4, 2) := by decide +kernel
theorem dX10_share_37 : decode cX10_share 37 = .ok (.invokevirtual 326, 3) := by decide +kernel
theorem dX10_share_40 : decode cX10_share 40 = .ok (.i2f, 1) := by decide +kernel
theorem dX10_share_41 : decode cX10_share 41 = .ok (.aload_n 0, 1) := by decide +kernel
theorem dX10_share_42 : decode cX10_share 42 = .ok (.getfield 56, 3) := by decide +kernel
theorem dX10_share_45 : decode cX10_share 45 = .ok (.getfield 280, 3) := by decide +kernel
theorem dX10_share_48 : decode cX10_share 48 = .ok (.i2f, 1) := by decide +kernel
theorem dX10_share_49 : decode cX10_share 49 = .ok (.fdiv, 1) := by decide +kernel
theorem dX10_share_50 : decode cX10_share 50 = .ok (.freturn, 1) := by decide +kernel
def wW_k_X10_share (ty : Nat → ClassId) (X : Nat → Nat) (z9_0 : Int32) (z9_1 : Int32) (z9_2 : Int32) (z9_3 : Int32) (z9_4 : Nat → Int32) (z9_5 : Int32) (z9_6 : Int32) (z9_7 : Int32) (z9_8 : Int32) (z9_9 : Int32) (z9_10 : Int32) (z9_11 : Nat → Int64) (z9_12 : Nat → Int32) (z9_13 : Int32) (z9_14 : Int32) (z9_15 : Int32) (z9_16 : Int32) (z9_17 : Int32) (z9_18 : Int32) (z9_19 : Int32) (z9_20 : Int32) (z9_21 : Int32) (z9_22 : Int32) (z9_23 : Int32) (z9_24 : Nat → Int32) : va_W := [((X 0), .inr (12, [.ref (X 1), .ref (X 8), .ref (X 20), .ref (X 39), .ref (X 41), .ref (X 43), .ref (X 45)])), ((X 1), .inr (8, [.ref (X 2), .int z9_0, .ref (X 3), .int z9_1, .ref (X 4), .ref (X 5), .int z9_2, .ref (X 6), .ref (X 7), .int z9_3])), ((X 2), .inl (ty 0, 6, .inl z9_4)), ((X 8), .inr (5, [.ref (X 1), .ref (X 9), .ref (X 10), .ref (X 12), .ref (X 14), .int z9_5, .ref (X 15), .ref (X 16), .ref (X 17), .int z9_6, .ref (X 18), .ref (X 19), .int z9_7, .int z9_8, .int z9_9, .int z9_10])), ((X 10), .inr (3, [.ref (X 11)])), ((X 11), .inl (ty 1, 6, .inr (.inl z9_11))), ((X 19), .inl (ty 0, 384, .inl z9_12)), ((X 20), .inr (11, [.ref (X 1), .ref (X 8), .ref (X 21), .ref (X 28), .ref (X 35), .int z9_13, .ref (X 36), .ref (X 37), .ref (X 38), .int z9_14, .int z9_15, .int z9_16, .int z9_17, .int z9_18, .int z9_19, .int z9_20, .int z9_21])), ((X 45), .inr (2, [.ref (X 46), .ref (X 47), .int z9_22, .int z9_23])), ((X 46), .inl (ty 0, 64, .inl z9_24))]
def vs_k_X10_share : List Cond := .code yX10_share cX10_share 5 (some .float) :: ([.methodLink RX10 312 yX10_checkWalk, .instanceMethod yX10_checkWalk, .selects RX10 yX10_checkWalk yX10_checkWalk, .initialized RX10, .methodLink RX10 206 yX10_checkedAtom, .instanceMethod yX10_checkedAtom, .selects RX10 yX10_checkedAtom yX10_checkedAtom, .fieldLink RX10 56 "AnswerFold" "answers" "LAnswerFold$Answers;", .methodLink RX10 326 yX10_answersWith, .instanceMethod yX10_answersWith, .selects RX10 yX10_answersWith yX10_answersWith, .classLink RX10 338 "java/lang/ArithmeticException", .initialized "java/lang/ArithmeticException"] ++ (vs_k_X10_checkWalk ++ (vs_k_X10_checkedAtom ++ (u_ws RX10 TX10 7 ++ (u_ws RX0 TX0 4 ++ (vs_k_X10_answersWith ++ ((vx_atS RX10 342 "java/lang/ArithmeticException" ["java/lang/RuntimeException", "java/lang/Exception"]).filter goodWord)))))))
theorem iv_k_X10_share_X0 : ∀ w ∈ u_ws RX0 TX0 4, w ∈ vs_k_X10_share := (fun _ h => List.mem_cons_of_mem _ (List.mem_append_right _ (List.mem_append_right _ (List.mem_append_right _ (List.mem_append_right _ (List.mem_append_left _ h))))))
theorem iv_k_X10_share_X10 : ∀ w ∈ u_ws RX10 TX10 7, w ∈ vs_k_X10_share := (fun _ h => List.mem_cons_of_mem _ (List.mem_append_right _ (List.mem_append_right _ (List.mem_append_right _ (List.mem_append_left _ h)))))
set_option maxRecDepth 20000 in
theorem gv_k_X10_share_0 : GoodIn vs_k_X10_share (wsV RX10 312 RX10 yX10_checkWalk vs_k_X10_checkWalk) := goodIn_app (goodIn_sub (by decide +kernel) (by decide +kernel)) (goodIn_sub (fun _ h => List.mem_cons_of_mem _ (List.mem_append_right _ (List.mem_append_left _ h))) (by decide +kernel))
set_option maxRecDepth 20000 in
theorem gv_k_X10_share_1 : GoodIn vs_k_X10_share (wsV RX10 206 RX10 yX10_checkedAtom vs_k_X10_checkedAtom) := goodIn_app (goodIn_sub (by decide +kernel) (by decide +kernel)) (goodIn_sub (fun _ h => List.mem_cons_of_mem _ (List.mem_append_right _ (List.mem_append_right _ (List.mem_append_left _ h)))) (by decide +kernel))
set_option maxRecDepth 20000 in
theorem gv_k_X10_share_2 : GoodIn vs_k_X10_share (wsV RX10 326 RX10 yX10_answersWith vs_k_X10_answersWith) := goodIn_app (goodIn_sub (by decide +kernel) (by decide +kernel)) (goodIn_sub (fun _ h => List.mem_cons_of_mem _ (List.mem_append_right _ (List.mem_append_right _ (List.mem_append_right _ (List.mem_append_right _ (List.mem_append_right _ (List.mem_append_left _ h))))))) (by decide +kernel))
theorem ix_k_X10_share_342 : ∀ w ∈ (vx_atS RX10 342 "java/lang/ArithmeticException" ["java/lang/RuntimeException", "java/lang/Exception"]).filter goodWord, w ∈ vs_k_X10_share := (fun _ h => List.mem_cons_of_mem _ (List.mem_append_right _ (List.mem_append_right _ (List.mem_append_right _ (List.mem_append_right _ (List.mem_append_right _ (List.mem_append_right _ (h))))))))
set_option maxHeartbeats 4000000 in
set_option maxRecDepth 100000 in
theorem k_X10_share (l : Launch) (hl9 : l.stackTraces = false) (D : va_G) (ty : Nat → ClassId) (td mi sz : Nat) (X : Nat → Nat) (pn : Int32) (rn : Int32) (tn : Int32) (en : Int32) (pl : Nat → Int32) (hn : Int32) (kn : Int32) (on : Int32) (cu : Int32) (pu : Int32) (gw : Int32) (su : Nat → Int64) (ob : Nat → Int32) (an : Int32) (ch : Int32) (cg : Int32) (fb : Int32) (mh : Int32) (ml : Int32) (ih : Int32) (lb : Int32) (ic : Int32) (nn : Int32) (kp : Int32) (se : Nat → Int32) (a1 : Int32) (a2 : Int32) (a3 : Int32) (TT : r_k_X10_share) (hTT : TT = m_k_X10_share pn pl on su ob nn kp se a1 a2 a3) : vx_Met l yX10_share vs_k_X10_share { frames := 7, cells := 3, slots := 18, locals := 106 } (va_Pc [.ref (X 0), .int a1, .int a2, .int a3] (wq_P D ty td mi (wW_k_X10_share ty X pn rn tn en pl hn kn on cu pu gw su ob an ch cg fb mh ml ih lb ic nn kp se) sz)) (va_Qf (fun (r : UInt32) (u : va_W) => (TT.1 = 0 ∧ r = TT.2 ∧ (u = (wW_k_X10_share ty X pn rn tn en pl hn kn on cu pu gw su ob an ch cg fb mh ml ih lb ic nn kp se)))) (wq_B D (va_A (wW_k_X10_share ty X pn rn tn en pl hn kn on cu pu gw su ob an ch cg fb mh ml ih lb ic nn kp se) sz)) (va_A (wW_k_X10_share ty X pn rn tn en pl hn kn on cu pu gw su ob an ch cg fb mh ml ih lb ic nn kp se) sz)) (vx_X (fun u : String × va_W => (TT.1 = 1 ∧ u = ("java/lang/IndexOutOfBoundsException", (wW_k_X10_share ty X pn rn tn en pl hn kn on cu pu gw su ob an ch cg fb mh ml ih lb ic nn kp se))) ∨ (TT.1 = 2 ∧ u = ("java/lang/IllegalArgumentException", (wW_k_X10_share ty X pn rn tn en pl hn kn on cu pu gw su ob an ch cg fb mh ml ih lb ic nn kp se))) ∨ (TT.1 = 3 ∧ u = ("java/lang/IllegalStateException", (wW_k_X10_share ty X pn rn tn en pl hn kn on cu pu gw su ob an ch cg fb mh ml ih lb ic nn kp se))) ∨ (TT.1 = 6 ∧ u = ("java/lang/ArithmeticException", (wW_k_X10_share ty X pn rn tn en pl hn kn on cu pu gw su ob an ch cg fb mh ml ih lb ic nn kp se)))) (wq_BX D (va_A (wW_k_X10_share ty X pn rn tn en pl hn kn on cu pu gw su ob an ch cg fb mh ml ih lb ic nn kp se) sz)) (va_A (wW_k_X10_share ty X pn rn tn en pl hn kn on cu pu gw su ob an ch cg fb mh ml ih lb ic nn kp se) sz)) 3 18 (va_A (wW_k_X10_share ty X pn rn tn en pl hn kn on cu pu gw su ob an ch cg fb mh ml ih lb ic nn kp se) sz) := by
  refine vx_ofW (cc := cX10_share) (maxL := 5) (ret := (some .float)) (by decide) rfl ?_
  intro p e s m args below meth c s₁ B hml hEx hv
  obtain ⟨rfl, hsz, hP, hK, hD0, hE⟩ := hv
  have hx := B.exec
  have hb := B.bytes
  have hr := B.returns
  have hts := atoms_spec (ws := vs_k_X10_share) B.pre
  have hown : s.vm.findClass RX10 = some m.cls := findClass_of_methodNamed B.named
  have hlocks := B.notSynchronized
  subst hsz
  have hD := hD0.self (sz := s.heap.size)
  generalize hAe : va_A (wW_k_X10_share ty X pn rn tn en pl hn kn on cu pu gw su ob an ch cg fb mh ml ih lb ic nn kp se) s.heap.size = A at hD hE ⊢
  have hA : ∀ q : Nat, s.heap.size ≤ q → A q := fun q h => by rw [← hAe]; exact Or.inr h
  have hS : va_S A s.heap s.heap [] := va_S.rf
  have hP : va_P D vwCl (wW_k_X10_share ty X pn rn tn en pl hn kn on cu pu gw su ob an ch cg fb mh ml ih lb ic nn kp se) s.heap := hP
  have hl := lv_entry ([.ref (X 0), .int a1, .int a2, .int a3]) (n := 5) (Nat.le_of_ble_eq_true rfl)
  rw [lg_entry_eq]
  generalize (lg_sl ([.ref (X 0), .int a1, .int a2, .int a3]) ++ List.replicate (5 - (lg_sl ([.ref (X 0), .int a1, .int a2, .int a3])).length) Slot.unset).toArray = ls at hl ⊢
  have hl : lv_has ls 5 [(0, .ref (X 0)), (1, .int a1), (2, .int a2), (3, .int a3)] := hl
  have END : ∀ (r : UInt32), TT = (0, r) → ∀ (H : Heap) (locs : List Loc), va_P D vwCl (wW_k_X10_share ty X pn rn tn en pl hn kn on cu pu gw su ob an ch cg fb mh ml ih lb ic nn kp se) H → va_D A (wW_k_X10_share ty X pn rn tn en pl hn kn on cu pu gw su ob an ch cg fb mh ml ih lb ic nn kp se) → va_S A s.heap H locs → ∀ (ls : Array Slot) (pc : Nat), decode cX10_share pc = .ok (.freturn, 1) → W p l e (headSpec vs_k_X10_share { frames := 7, cells := 3, slots := 18, locals := 106 }).room s m ([.ref (X 0), .int a1, .int a2, .int a3] : List Value).toArray below meth c H locs 3 18 (vx_MQ below (va_Qf (fun (r : UInt32) (u : va_W) => (TT.1 = 0 ∧ r = TT.2 ∧ (u = (wW_k_X10_share ty X pn rn tn en pl hn kn on cu pu gw su ob an ch cg fb mh ml ih lb ic nn kp se)))) (wq_B D A) A) (vx_X (fun u : String × va_W => (TT.1 = 1 ∧ u = ("java/lang/IndexOutOfBoundsException", (wW_k_X10_share ty X pn rn tn en pl hn kn on cu pu gw su ob an ch cg fb mh ml ih lb ic nn kp se))) ∨ (TT.1 = 2 ∧ u = ("java/lang/IllegalArgumentException", (wW_k_X10_share ty X pn rn tn en pl hn kn on cu pu gw su ob an ch cg fb mh ml ih lb ic nn kp se))) ∨ (TT.1 = 3 ∧ u = ("java/lang/IllegalStateException", (wW_k_X10_share ty X pn rn tn en pl hn kn on cu pu gw su ob an ch cg fb mh ml ih lb ic nn kp se))) ∨ (TT.1 = 6 ∧ u = ("java/lang/ArithmeticException", (wW_k_X10_share ty X pn rn tn en pl hn kn on cu pu gw su ob an ch cg fb mh ml ih lb ic nn kp se)))) (wq_BX D A) A) ([.ref (X 0), .int a1, .int a2, .int a3] : List Value).toArray s 3 18 A) (F0 m pc ls [.float r]) := by
    intro r hT H locs hP hD hS ls pc hd
    have hM : TT = (0, r) := hT
    refine vx_ret ?_
    exact W.fret (v := r) hx hb hr (fun t ht hW => ⟨⟨r, (wW_k_X10_share ty X pn rn tn en pl hn kn on cu pu gw su ob an ch cg fb mh ml ih lb ic nn kp se), rfl, ⟨(by rw [hM]), (by rw [hM]), rfl⟩, wq_B.of ht hP hD⟩, hS.F ht⟩) hS.2.2 hd
  have hT := hTT
  rw [m_k_X10_share] at hT
  refine lv_aload_n hx hb dX10_share_0 rfl (lv_at hl 0 rfl) ?_
  obtain ⟨t_1, ht_1⟩ : ∃ t, t = m_k_X10_checkWalk kp := ⟨_, rfl⟩
  rw [lE_eq ht_1] at hT
  refine wq_xvW (wc := (wW_k_X10_checkWalk ty X nn kp)) (vx_runV (As := []) (rest := []) ⟨hx, hb, hml, hown, hts⟩ (k_X10_checkWalk l hl9 D ty td mi s.heap.size X nn kp t_1 ht_1) (cwV 0 hts gv_k_X10_share_0 rfl rfl rfl (by decide +kernel) ⟨(Nat.le_of_ble_eq_true rfl), (Nat.le_of_ble_eq_true rfl)⟩) (wm_V (wm_preS hP hD hK hE hS hA [true, false, false, false, false, false, false, false, true] rfl) (va_recv (q0 := 0) (ci := 12) hK hP rfl rfl)) rfl rfl hl.1 rfl (lv_room (Nat.le_of_ble_eq_true rfl)) dX10_share_1 ⟨(Nat.le_of_ble_eq_true rfl), (Nat.le_of_ble_eq_true rfl)⟩) hS hA hP hD [true, false, false, false, false, false, false, false, true] rfl (fun _ h => by rcases h with ⟨-, rfl⟩; rfl) (fun _ _ h => by rcases h with ⟨-, h⟩ <;> (cases h; rfl)) (fun E9 u H locs q9 ce hw hP hD hS hce hcv hcl => ?_) (fun u H locs hw hP hD hS => ?_)
  · obtain ⟨c_1, hEq⟩ := hw
    cases hEq
    rw [if_neg (show ¬ t_1 = 0 by rw [c_1]; decide)] at hT
    have hP : va_P D vwCl (wW_k_X10_share ty X pn rn tn en pl hn kn on cu pu gw su ob an ch cg fb mh ml ih lb ic nn kp se) H := hP
    have hD : va_D A (wW_k_X10_share ty X pn rn tn en pl hn kn on cu pu gw su ob an ch cg fb mh ml ih lb ic nn kp se) := hD
    refine vx_widen (k := 3) (n := 18) (Nat.le_of_ble_eq_true rfl) (Nat.le_of_ble_eq_true rfl) ?_
    exact vx_out (E := "java/lang/IllegalStateException") (fun x hx => (hEx x hx).elim) hlocks hce hcv hcl (fun t ht ha => wq_thrW0 (W := (wW_k_X10_share ty X pn rn tn en pl hn kn on cu pu gw su ob an ch cg fb mh ml ih lb ic nn kp se)) hS hP hD (by exact (Or.inr (Or.inr (Or.inl ⟨(by rw [hT]), (by first | rw [hT] | rfl)⟩)))) ht) hS.2.2 (Nat.le_refl _) (Nat.le_refl _)
  · obtain ⟨c_2, rfl⟩ := hw
    rw [if_pos c_2] at hT
    have hP : va_P D vwCl (wW_k_X10_share ty X pn rn tn en pl hn kn on cu pu gw su ob an ch cg fb mh ml ih lb ic nn kp se) H := hP
    have hD : va_D A (wW_k_X10_share ty X pn rn tn en pl hn kn on cu pu gw su ob an ch cg fb mh ml ih lb ic nn kp se) := hD
    refine W.widen (k := 1) (n := 6) (Nat.le_of_ble_eq_true rfl) (Nat.le_of_ble_eq_true rfl) ?_
    refine lv_aload_n hx hb dX10_share_4 rfl (lv_at hl 0 rfl) ?_
    refine lv_iload_n hx hb dX10_share_5 rfl (lv_at hl 1 rfl) ?_
    refine lv_iload_n hx hb dX10_share_6 rfl (lv_at hl 2 rfl) ?_
    refine lv_iload_n hx hb dX10_share_7 rfl (lv_at hl 3 rfl) ?_
    obtain ⟨t_8, ht_8⟩ : ∃ t, t = m_k_X10_checkedAtom pn pl a1 a2 a3 := ⟨_, rfl⟩
    rw [lE_eq ht_8] at hT
    refine wq_xiW (wc := (wW_k_X10_checkedAtom ty X pn rn tn en pl)) (vx_runV (As := [.int a1, .int a2, .int a3]) (rest := []) ⟨hx, hb, hml, hown, hts⟩ (k_X10_checkedAtom l hl9 D ty td mi H.size X pn rn tn en pl a1 a2 a3 t_8 ht_8) (cwV 3 hts gv_k_X10_share_1 rfl rfl rfl (by decide +kernel) ⟨(Nat.le_of_ble_eq_true rfl), (Nat.le_of_ble_eq_true rfl)⟩) (wm_V (wm_preS hP hD hK hE hS hA [true, true, true] rfl) (va_recv (q0 := 0) (ci := 12) hK hP rfl rfl)) rfl rfl hl.1 rfl (lv_room (Nat.le_of_ble_eq_true rfl)) dX10_share_8 ⟨(Nat.le_of_ble_eq_true rfl), (Nat.le_of_ble_eq_true rfl)⟩) hS hA hP hD [true, true, true] rfl (fun _ _ h => by rcases h with ⟨-, -, rfl⟩; rfl) (fun _ _ h => by rcases h with ⟨-, h⟩ | ⟨-, h⟩ <;> (cases h; rfl)) (fun E9 u H locs q9 ce hw hP hD hS hce hcv hcl => ?_) (fun r u H locs hw hP hD hS => ?_)
    · rcases hw with ⟨c_4, hEq⟩ | ⟨c_5, hEq⟩
      · cases hEq
        rw [if_neg (show ¬ t_8.1 = 0 by rw [c_4]; decide)] at hT
        rw [if_pos c_4] at hT
        have hP : va_P D vwCl (wW_k_X10_share ty X pn rn tn en pl hn kn on cu pu gw su ob an ch cg fb mh ml ih lb ic nn kp se) H := hP
        have hD : va_D A (wW_k_X10_share ty X pn rn tn en pl hn kn on cu pu gw su ob an ch cg fb mh ml ih lb ic nn kp se) := hD
        refine vx_widen (k := 3) (n := 18) (Nat.le_of_ble_eq_true rfl) (Nat.le_of_ble_eq_true rfl) ?_
        exact vx_out (E := "java/lang/IndexOutOfBoundsException") (fun x hx => (hEx x hx).elim) hlocks hce hcv hcl (fun t ht ha => wq_thrW0 (W := (wW_k_X10_share ty X pn rn tn en pl hn kn on cu pu gw su ob an ch cg fb mh ml ih lb ic nn kp se)) hS hP hD (by exact (Or.inl ⟨(by rw [hT]), (by first | rw [hT] | rfl)⟩)) ht) hS.2.2 (Nat.le_refl _) (Nat.le_refl _)
      · cases hEq
        rw [if_neg (show ¬ t_8.1 = 0 by rw [c_5]; decide)] at hT
        rw [if_neg (show ¬ t_8.1 = 1 by rw [c_5]; decide)] at hT
        have hP : va_P D vwCl (wW_k_X10_share ty X pn rn tn en pl hn kn on cu pu gw su ob an ch cg fb mh ml ih lb ic nn kp se) H := hP
        have hD : va_D A (wW_k_X10_share ty X pn rn tn en pl hn kn on cu pu gw su ob an ch cg fb mh ml ih lb ic nn kp se) := hD
        refine vx_widen (k := 3) (n := 18) (Nat.le_of_ble_eq_true rfl) (Nat.le_of_ble_eq_true rfl) ?_
        exact vx_out (E := "java/lang/IllegalArgumentException") (fun x hx => (hEx x hx).elim) hlocks hce hcv hcl (fun t ht ha => wq_thrW0 (W := (wW_k_X10_share ty X pn rn tn en pl hn kn on cu pu gw su ob an ch cg fb mh ml ih lb ic nn kp se)) hS hP hD (by exact (Or.inr (Or.inl ⟨(by rw [hT]), (by first | rw [hT] | rfl)⟩))) ht) hS.2.2 (Nat.le_refl _) (Nat.le_refl _)
    · obtain ⟨c_6, rfl, rfl⟩ := hw
      rw [if_pos c_6] at hT
      have hP : va_P D vwCl (wW_k_X10_share ty X pn rn tn en pl hn kn on cu pu gw su ob an ch cg fb mh ml ih lb ic nn kp se) H := hP
      have hD : va_D A (wW_k_X10_share ty X pn rn tn en pl hn kn on cu pu gw su ob an ch cg fb mh ml ih lb ic nn kp se) := hD
      refine W.widen (k := 2) (n := 12) (Nat.le_of_ble_eq_true rfl) (Nat.le_of_ble_eq_true rfl) ?_
      refine lv_istore (lv' := [(4, .int t_8.2), (0, .ref (X 0)), (1, .int a1), (2, .int a2), (3, .int a3)]) hx hb dX10_share_11 hl (by decide) rfl (fun ls hl => ?_)
      refine lv_aload_n hx hb dX10_share_13 rfl (lv_at hl 1 rfl) ?_
      refine va_get (D := D) (ci := 12) (v := .ref (X 45)) (C := RX10) (T := TX10) (N := 7) hx hb hts iv_k_X10_share_X10 hown hK hP 0 rfl rfl 6 (by decide) (hts (.fieldLink RX10 56 "AnswerFold" "answers" "LAnswerFold$Answers;") (by decide +kernel)) (fun _ h9 => h9) rfl dX10_share_14 ?_
      refine va_getN (D := D) (ci := 2) (v := .int nn) (C := RX0) (T := TX0) (N := 4) hx hb hts iv_k_X10_share_X0 hown hK hP 8 rfl rfl 2 (by decide) (hE.at (.fieldLinkNest "AnswerFold" 280 "AnswerFold$Answers" "count" "I" "AnswerFold") (by decide +kernel)) (fun _ h9 => h9) rfl dX10_share_17 ?_
      refine lv_if_gt (tgt := 34) hx hb dX10_share_20 (by decide) (fun c_8 => ?_) (fun c_8 => ?_)
      · rw [if_pos c_8] at hT
        refine lv_aload_n hx hb dX10_share_34 rfl (lv_at hl 1 rfl) ?_
        refine lv_iload hx hb dX10_share_35 (lv_at hl 0 rfl) ?_
        obtain ⟨t_37, ht_37⟩ : ∃ t, t = m_k_X10_answersWith on su ob nn se t_8.2 := ⟨_, rfl⟩
        rw [lE_eq ht_37] at hT
        refine wq_iW (wc := (wW_k_X10_answersWith ty X hn kn on cu pu gw su ob an ch cg fb mh ml ih lb ic nn kp se)) (va_runV (As := [.int t_8.2]) (rest := []) ⟨hx, hb, hml, hown, hts⟩ (k_X10_answersWith l D ty td mi H.size X hn kn on cu pu gw su ob an ch cg fb mh ml ih lb ic nn kp se t_8.2 t_37 ht_37) (cwV 1 hts gv_k_X10_share_2 rfl rfl rfl (by decide +kernel) ⟨(Nat.le_of_ble_eq_true rfl), (Nat.le_of_ble_eq_true rfl)⟩) (wm_V (wm_preS hP hD hK hE hS hA [true, false, false, true, true, true, true, true, true, true] rfl) (va_recv (q0 := 0) (ci := 12) hK hP rfl rfl)) rfl rfl hl.1 rfl (lv_room (Nat.le_of_ble_eq_true rfl)) dX10_share_37 ⟨(Nat.le_of_ble_eq_true rfl), (Nat.le_of_ble_eq_true rfl)⟩) hS hA hP hD [true, false, false, true, true, true, true, true, true, true] rfl (fun _ _ h => by rcases h with ⟨-, rfl⟩; rfl) (fun r u H locs hw hP hD hS => ?_)
        obtain ⟨hr0, rfl⟩ := hw
        subst r
        have hP : va_P D vwCl (wW_k_X10_share ty X pn rn tn en pl hn kn on cu pu gw su ob an ch cg fb mh ml ih lb ic nn kp se) H := hP
        have hD : va_D A (wW_k_X10_share ty X pn rn tn en pl hn kn on cu pu gw su ob an ch cg fb mh ml ih lb ic nn kp se) := hD
        refine W.widen (k := 2) (n := 12) (Nat.le_of_ble_eq_true rfl) (Nat.le_of_ble_eq_true rfl) ?_
        refine lv_i2f hx hb dX10_share_40 ?_
        refine lv_aload_n hx hb dX10_share_41 rfl (lv_at hl 1 rfl) ?_
        refine va_get (D := D) (ci := 12) (v := .ref (X 45)) (C := RX10) (T := TX10) (N := 7) hx hb hts iv_k_X10_share_X10 hown hK hP 0 rfl rfl 6 (by decide) (hts (.fieldLink RX10 56 "AnswerFold" "answers" "LAnswerFold$Answers;") (by decide +kernel)) (fun _ h9 => h9) rfl dX10_share_42 ?_
        refine va_getN (D := D) (ci := 2) (v := .int nn) (C := RX0) (T := TX0) (N := 4) hx hb hts iv_k_X10_share_X0 hown hK hP 8 rfl rfl 2 (by decide) (hE.at (.fieldLinkNest "AnswerFold" 280 "AnswerFold$Answers" "count" "I" "AnswerFold") (by decide +kernel)) (fun _ h9 => h9) rfl dX10_share_45 ?_
        refine lv_i2f hx hb dX10_share_48 ?_
        refine lv_fdiv hx hb dX10_share_49 (nn_fdiv _ _ (wi_pz (Int32.not_le.mpr c_8))) ?_
        refine W.widen (k := 3) (n := 18) (Nat.le_of_ble_eq_true rfl) (Nat.le_of_ble_eq_true rfl) ?_
        exact END (FP.fdiv (FP.i2f t_37) (FP.i2f nn)) hT _ _ hP hD hS _ _ dX10_share_50
      · rw [if_neg c_8] at hT
        obtain ⟨sa, hsa⟩ := hE.st 340 "no answers" (by decide +kernel)
        exact vx_throwSW (own := RX10) (cls := "java/lang/ArithmeticException") (text := "no answers") (names := ["java/lang/RuntimeException", "java/lang/Exception"]) (ik := 338) (is := 340) (ic := 342) (sa := sa) (A := A) hx hb hl9 hown (by decide +kernel) (by decide +kernel) (hts (.classLink RX10 338 "java/lang/ArithmeticException") (by decide +kernel)) (hts (.initialized "java/lang/ArithmeticException") (by decide +kernel)) hsa (wq_hat hE hts ix_k_X10_share_342 (by decide +kernel) (by decide +kernel)) (by decide +kernel) hE.zu hE.zs hS (hl.1.trans hml.symm) dX10_share_23 dX10_share_26 dX10_share_27 dX10_share_30 dX10_share_33 (fun x hx => (hEx x hx).elim) (Nat.le_of_ble_eq_true rfl) (Nat.le_of_ble_eq_true rfl) (Nat.le_of_ble_eq_true rfl) (Nat.le_of_ble_eq_true rfl) hlocks (fun t ha hz hk => wq_thrW (W := (wW_k_X10_share ty X pn rn tn en pl hn kn on cu pu gw su ob an ch cg fb mh ml ih lb ic nn kp se)) hS hP hD (by exact (Or.inr (Or.inr (Or.inr ⟨(by rw [hT]), (by first | rw [hT] | rfl)⟩)))) hz hk) hS.2.2 (Nat.le_of_ble_eq_true rfl) (Nat.le_of_ble_eq_true rfl)
theorem dX10_meanSize_0 : decode cX10_meanSize 0 = .ok (.aload_n 0, 1) := by decide +kernel
theorem dX10_meanSize_1 : decode cX10_meanSize 1 = .ok (.invokevirtual 312, 3) := by decide +kernel
theorem dX10_meanSize_4 : decode cX10_meanSize 4 = .ok (.aload_n 0, 1) := by decide +kernel
theorem dX10_meanSize_5 : decode cX10_meanSize 5 = .ok (.getfield 56, 3) := by decide +kernel
theorem dX10_meanSize_8 : decode cX10_meanSize 8 = .ok (.getfield 280, 3) := by decide +kernel
theorem dX10_meanSize_11 : decode cX10_meanSize 11 = .ok (.ifCond .gt 14, 3) := by decide +kernel
theorem dX10_meanSize_14 : decode cX10_meanSize 14 = .ok (.new 338, 3) := by decide +kernel
theorem dX10_meanSize_17 : decode cX10_meanSize 17 = .ok (.dup, 1) := by decide +kernel
theorem dX10_meanSize_18 : decode cX10_meanSize 18 = .ok (.ldc_w 340, 3) := by decide +kernel
theorem dX10_meanSize_21 : decode cX10_meanSize 21 = .ok (.invokespecial 342, 3) := by decide +kernel
theorem dX10_meanSize_24 : decode cX10_meanSize 24 = .ok (.athrow, 1) := by decide +kernel
theorem dX10_meanSize_25 : decode cX10_meanSize 25 = .ok (.iconst 0, 1) := by decide +kernel
theorem dX10_meanSize_26 : decode cX10_meanSize 26 = .ok (.istore_n 1, 1) := by decide +kernel
theorem dX10_meanSize_27 : decode cX10_meanSize 27 = .ok (.iconst 0, 1) := by decide +kernel
theorem dX10_meanSize_28 : decode cX10_meanSize 28 = .ok (.istore_n 2, 1) := by decide +kernel
theorem dX10_meanSize_29 : decode cX10_meanSize 29 = .ok (.iload_n 2, 1) := by decide +kernel
theorem dX10_meanSize_30 : decode cX10_meanSize 30 = .ok (.aload_n 0, 1) := by decide +kernel
theorem dX10_meanSize_31 : decode cX10_meanSize 31 = .ok (.getfield 56, 3) := by decide +kernel
theorem dX10_meanSize_34 : decode cX10_meanSize 34 = .ok (.getfield 280, 3) := by decide +kernel
theorem dX10_meanSize_37 : decode cX10_meanSize 37 = .ok (.if_icmp .ge 27, 3) := by decide +kernel
theorem dX10_meanSize_40 : decode cX10_meanSize 40 = .ok (.iload_n 1, 1) := by decide +kernel
theorem dX10_meanSize_41 : decode cX10_meanSize 41 = .ok (.aload_n 0, 1) := by decide +kernel
theorem dX10_meanSize_42 : decode cX10_meanSize 42 = .ok (.getfield 30, 3) := by decide +kernel
theorem dX10_meanSize_45 : decode cX10_meanSize 45 = .ok (.aload_n 0, 1) := by decide +kernel
theorem dX10_meanSize_46 : decode cX10_meanSize 46 = .ok (.getfield 56, 3) := by decide +kernel
theorem dX10_meanSize_49 : decode cX10_meanSize 49 = .ok (.iload_n 2, 1) := by decide +kernel
theorem dX10_meanSize_50 : decode cX10_meanSize 50 = .ok (.invokevirtual 348, 3) := by decide +kernel
theorem dX10_meanSize_53 : decode cX10_meanSize 53 = .ok (.invokevirtual 305, 3) := by decide +kernel
theorem dX10_meanSize_56 : decode cX10_meanSize 56 = .ok (.iadd, 1) := by decide +kernel
theorem dX10_meanSize_57 : decode cX10_meanSize 57 = .ok (.istore_n 1, 1) := by decide +kernel
theorem dX10_meanSize_58 : decode cX10_meanSize 58 = .ok (.iinc 2 1, 3) := by decide +kernel
theorem dX10_meanSize_61 : decode cX10_meanSize 61 = .ok (.goto (-32), 3) := by decide +kernel
theorem dX10_meanSize_64 : decode cX10_meanSize 64 = .ok (.iload_n 1, 1) := by decide +kernel
theorem dX10_meanSize_65 : decode cX10_meanSize 65 = .ok (.i2d, 1) := by decide +kernel
theorem dX10_meanSize_66 : decode cX10_meanSize 66 = .ok (.aload_n 0, 1) := by decide +kernel
theorem dX10_meanSize_67 : decode cX10_meanSize 67 = .ok (.getfield 56, 3) := by decide +kernel
theorem dX10_meanSize_70 : decode cX10_meanSize 70 = .ok (.getfield 280, 3) := by decide +kernel
theorem dX10_meanSize_73 : decode cX10_meanSize 73 = .ok (.i2d, 1) := by decide +kernel
theorem dX10_meanSize_74 : decode cX10_meanSize 74 = .ok (.ddiv, 1) := by decide +kernel
theorem dX10_meanSize_75 : decode cX10_meanSize 75 = .ok (.dreturn, 1) := by decide +kernel
def wW_k_X10_meanSize (ty : Nat → ClassId) (X : Nat → Nat) (z9_0 : Int32) (z9_1 : Int32) (z9_2 : Int32) (z9_3 : Int32) (z9_4 : Int32) (z9_5 : Int32) (z9_6 : Nat → Int64) (z9_7 : Int32) (z9_8 : Int32) (z9_9 : Int32) (z9_10 : Int32) (z9_11 : Int32) (z9_12 : Int32) (z9_13 : Int32) (z9_14 : Int32) (z9_15 : Int32) (z9_16 : Int32) (z9_17 : Int32) (z9_18 : Nat → Int32) : va_W := [((X 0), .inr (12, [.ref (X 1), .ref (X 8), .ref (X 20), .ref (X 39), .ref (X 41), .ref (X 43), .ref (X 45)])), ((X 8), .inr (5, [.ref (X 1), .ref (X 9), .ref (X 10), .ref (X 12), .ref (X 14), .int z9_0, .ref (X 15), .ref (X 16), .ref (X 17), .int z9_1, .ref (X 18), .ref (X 19), .int z9_2, .int z9_3, .int z9_4, .int z9_5])), ((X 10), .inr (3, [.ref (X 11)])), ((X 11), .inl (ty 1, 6, .inr (.inl z9_6))), ((X 20), .inr (11, [.ref (X 1), .ref (X 8), .ref (X 21), .ref (X 28), .ref (X 35), .int z9_7, .ref (X 36), .ref (X 37), .ref (X 38), .int z9_8, .int z9_9, .int z9_10, .int z9_11, .int z9_12, .int z9_13, .int z9_14, .int z9_15])), ((X 45), .inr (2, [.ref (X 46), .ref (X 47), .int z9_16, .int z9_17])), ((X 46), .inl (ty 0, 64, .inl z9_18))]
def vs_k_X10_meanSize : List Cond := .code yX10_meanSize cX10_meanSize 3 (some .double) :: ([.methodLink RX10 312 yX10_checkWalk, .instanceMethod yX10_checkWalk, .selects RX10 yX10_checkWalk yX10_checkWalk, .initialized RX10, .fieldLink RX10 56 "AnswerFold" "answers" "LAnswerFold$Answers;", .fieldLink RX10 30 "AnswerFold" "solver" "LAnswerFold$Solver;", .methodLink RX10 348 yX0_setAt, .instanceMethod yX0_setAt, .selects RX0 yX0_setAt yX0_setAt, .initialized RX0, .methodLink RX10 305 yX9_sizeOf, .instanceMethod yX9_sizeOf, .selects RX9 yX9_sizeOf yX9_sizeOf, .initialized RX9, .classLink RX10 338 "java/lang/ArithmeticException", .initialized "java/lang/ArithmeticException"] ++ (vs_k_X10_checkWalk ++ (u_ws RX10 TX10 7 ++ (u_ws RX0 TX0 4 ++ (vs_k_X0_setAt ++ (vs_k_X9_sizeOf ++ ((vx_atS RX10 342 "java/lang/ArithmeticException" ["java/lang/RuntimeException", "java/lang/Exception"]).filter goodWord)))))))
theorem iv_k_X10_meanSize_X0 : ∀ w ∈ u_ws RX0 TX0 4, w ∈ vs_k_X10_meanSize := (fun _ h => List.mem_cons_of_mem _ (List.mem_append_right _ (List.mem_append_right _ (List.mem_append_right _ (List.mem_append_left _ h)))))
theorem iv_k_X10_meanSize_X10 : ∀ w ∈ u_ws RX10 TX10 7, w ∈ vs_k_X10_meanSize := (fun _ h => List.mem_cons_of_mem _ (List.mem_append_right _ (List.mem_append_right _ (List.mem_append_left _ h))))
set_option maxRecDepth 20000 in
theorem gv_k_X10_meanSize_0 : GoodIn vs_k_X10_meanSize (wsV RX10 312 RX10 yX10_checkWalk vs_k_X10_checkWalk) := goodIn_app (goodIn_sub (by decide +kernel) (by decide +kernel)) (goodIn_sub (fun _ h => List.mem_cons_of_mem _ (List.mem_append_right _ (List.mem_append_left _ h))) (by decide +kernel))
set_option maxRecDepth 20000 in
theorem gv_k_X10_meanSize_1 : GoodIn vs_k_X10_meanSize (wsV RX10 348 RX0 yX0_setAt vs_k_X0_setAt) := goodIn_app (goodIn_sub (by decide +kernel) (by decide +kernel)) (goodIn_sub (fun _ h => List.mem_cons_of_mem _ (List.mem_append_right _ (List.mem_append_right _ (List.mem_append_right _ (List.mem_append_right _ (List.mem_append_left _ h)))))) (by decide +kernel))
set_option maxRecDepth 20000 in
theorem gv_k_X10_meanSize_2 : GoodIn vs_k_X10_meanSize (wsV RX10 305 RX9 yX9_sizeOf vs_k_X9_sizeOf) := goodIn_app (goodIn_sub (by decide +kernel) (by decide +kernel)) (goodIn_sub (fun _ h => List.mem_cons_of_mem _ (List.mem_append_right _ (List.mem_append_right _ (List.mem_append_right _ (List.mem_append_right _ (List.mem_append_right _ (List.mem_append_left _ h))))))) (by decide +kernel))
theorem ix_k_X10_meanSize_342 : ∀ w ∈ (vx_atS RX10 342 "java/lang/ArithmeticException" ["java/lang/RuntimeException", "java/lang/Exception"]).filter goodWord, w ∈ vs_k_X10_meanSize := (fun _ h => List.mem_cons_of_mem _ (List.mem_append_right _ (List.mem_append_right _ (List.mem_append_right _ (List.mem_append_right _ (List.mem_append_right _ (List.mem_append_right _ (h))))))))
set_option maxHeartbeats 4000000 in
set_option maxRecDepth 100000 in
theorem k_X10_meanSize (l : Launch) (hl9 : l.stackTraces = false) (D : va_G) (ty : Nat → ClassId) (td mi sz : Nat) (X : Nat → Nat) (hn : Int32) (kn : Int32) (on : Int32) (cu : Int32) (pu : Int32) (gw : Int32) (su : Nat → Int64) (an : Int32) (ch : Int32) (cg : Int32) (fb : Int32) (mh : Int32) (ml : Int32) (ih : Int32) (lb : Int32) (ic : Int32) (nn : Int32) (kp : Int32) (se : Nat → Int32) (TT : r_k_X10_meanSize) (hTT : TT = m_k_X10_meanSize su nn kp se) : vx_Met l yX10_meanSize vs_k_X10_meanSize { frames := 7, cells := 2, slots := 12, locals := 102 } (va_Pc [.ref (X 0)] (wq_P D ty td mi (wW_k_X10_meanSize ty X hn kn on cu pu gw su an ch cg fb mh ml ih lb ic nn kp se) sz)) (va_Qd (fun (r : UInt64) (u : va_W) => (TT.1 = 0 ∧ r = TT.2 ∧ (u = (wW_k_X10_meanSize ty X hn kn on cu pu gw su an ch cg fb mh ml ih lb ic nn kp se)))) (wq_B D (va_A (wW_k_X10_meanSize ty X hn kn on cu pu gw su an ch cg fb mh ml ih lb ic nn kp se) sz)) (va_A (wW_k_X10_meanSize ty X hn kn on cu pu gw su an ch cg fb mh ml ih lb ic nn kp se) sz)) (vx_X (fun u : String × va_W => (TT.1 = 3 ∧ u = ("java/lang/IllegalStateException", (wW_k_X10_meanSize ty X hn kn on cu pu gw su an ch cg fb mh ml ih lb ic nn kp se))) ∨ (TT.1 = 6 ∧ u = ("java/lang/ArithmeticException", (wW_k_X10_meanSize ty X hn kn on cu pu gw su an ch cg fb mh ml ih lb ic nn kp se)))) (wq_BX D (va_A (wW_k_X10_meanSize ty X hn kn on cu pu gw su an ch cg fb mh ml ih lb ic nn kp se) sz)) (va_A (wW_k_X10_meanSize ty X hn kn on cu pu gw su an ch cg fb mh ml ih lb ic nn kp se) sz)) 2 12 (va_A (wW_k_X10_meanSize ty X hn kn on cu pu gw su an ch cg fb mh ml ih lb ic nn kp se) sz) := by
  refine vx_ofW (cc := cX10_meanSize) (maxL := 3) (ret := (some .double)) (by decide) rfl ?_
  intro p e s m args below meth c s₁ B hml hEx hv
  obtain ⟨rfl, hsz, hP, hK, hD0, hE⟩ := hv
  have hx := B.exec
  have hb := B.bytes
  have hr := B.returns
  have hts := atoms_spec (ws := vs_k_X10_meanSize) B.pre
  have hown : s.vm.findClass RX10 = some m.cls := findClass_of_methodNamed B.named
  have hlocks := B.notSynchronized
  subst hsz
  have hD := hD0.self (sz := s.heap.size)
  generalize hAe : va_A (wW_k_X10_meanSize ty X hn kn on cu pu gw su an ch cg fb mh ml ih lb ic nn kp se) s.heap.size = A at hD hE ⊢
  have hA : ∀ q : Nat, s.heap.size ≤ q → A q := fun q h => by rw [← hAe]; exact Or.inr h
  have hS : va_S A s.heap s.heap [] := va_S.rf
  have hP : va_P D vwCl (wW_k_X10_meanSize ty X hn kn on cu pu gw su an ch cg fb mh ml ih lb ic nn kp se) s.heap := hP
  have hl := lv_entry ([.ref (X 0)]) (n := 3) (Nat.le_of_ble_eq_true rfl)
  rw [lg_entry_eq]
  generalize (lg_sl ([.ref (X 0)]) ++ List.replicate (3 - (lg_sl ([.ref (X 0)])).length) Slot.unset).toArray = ls at hl ⊢
  have hl : lv_has ls 3 [(0, .ref (X 0))] := hl
  have END : ∀ (r : UInt64), TT = (0, r) → ∀ (H : Heap) (locs : List Loc), va_P D vwCl (wW_k_X10_meanSize ty X hn kn on cu pu gw su an ch cg fb mh ml ih lb ic nn kp se) H → va_D A (wW_k_X10_meanSize ty X hn kn on cu pu gw su an ch cg fb mh ml ih lb ic nn kp se) → va_S A s.heap H locs → ∀ (ls : Array Slot) (pc : Nat), decode cX10_meanSize pc = .ok (.dreturn, 1) → W p l e (headSpec vs_k_X10_meanSize { frames := 7, cells := 2, slots := 12, locals := 102 }).room s m ([.ref (X 0)] : List Value).toArray below meth c H locs 2 12 (vx_MQ below (va_Qd (fun (r : UInt64) (u : va_W) => (TT.1 = 0 ∧ r = TT.2 ∧ (u = (wW_k_X10_meanSize ty X hn kn on cu pu gw su an ch cg fb mh ml ih lb ic nn kp se)))) (wq_B D A) A) (vx_X (fun u : String × va_W => (TT.1 = 3 ∧ u = ("java/lang/IllegalStateException", (wW_k_X10_meanSize ty X hn kn on cu pu gw su an ch cg fb mh ml ih lb ic nn kp se))) ∨ (TT.1 = 6 ∧ u = ("java/lang/ArithmeticException", (wW_k_X10_meanSize ty X hn kn on cu pu gw su an ch cg fb mh ml ih lb ic nn kp se)))) (wq_BX D A) A) ([.ref (X 0)] : List Value).toArray s 2 12 A) (F0 m pc ls [.double r]) := by
    intro r hT H locs hP hD hS ls pc hd
    have hM : TT = (0, r) := hT
    refine vx_ret ?_
    exact W.dret (v := r) hx hb hr (fun t ht hW => ⟨⟨r, (wW_k_X10_meanSize ty X hn kn on cu pu gw su an ch cg fb mh ml ih lb ic nn kp se), rfl, ⟨(by rw [hM]), (by rw [hM]), rfl⟩, wq_B.of ht hP hD⟩, hS.F ht⟩) hS.2.2 hd
  have hT := hTT
  rw [m_k_X10_meanSize] at hT
  refine lv_aload_n hx hb dX10_meanSize_0 rfl (lv_at hl 0 rfl) ?_
  obtain ⟨t_1, ht_1⟩ : ∃ t, t = m_k_X10_checkWalk kp := ⟨_, rfl⟩
  rw [lE_eq ht_1] at hT
  refine wq_xvW (wc := (wW_k_X10_checkWalk ty X nn kp)) (vx_runV (As := []) (rest := []) ⟨hx, hb, hml, hown, hts⟩ (k_X10_checkWalk l hl9 D ty td mi s.heap.size X nn kp t_1 ht_1) (cwV 0 hts gv_k_X10_meanSize_0 rfl rfl rfl (by decide +kernel) ⟨(Nat.le_of_ble_eq_true rfl), (Nat.le_of_ble_eq_true rfl)⟩) (wm_V (wm_preS hP hD hK hE hS hA [true, false, false, false, false, true] rfl) (va_recv (q0 := 0) (ci := 12) hK hP rfl rfl)) rfl rfl hl.1 rfl (lv_room (Nat.le_of_ble_eq_true rfl)) dX10_meanSize_1 ⟨(Nat.le_of_ble_eq_true rfl), (Nat.le_of_ble_eq_true rfl)⟩) hS hA hP hD [true, false, false, false, false, true] rfl (fun _ h => by rcases h with ⟨-, rfl⟩; rfl) (fun _ _ h => by rcases h with ⟨-, h⟩ <;> (cases h; rfl)) (fun E9 u H locs q9 ce hw hP hD hS hce hcv hcl => ?_) (fun u H locs hw hP hD hS => ?_)
  · obtain ⟨c_1, hEq⟩ := hw
    cases hEq
    rw [if_neg (show ¬ t_1 = 0 by rw [c_1]; decide)] at hT
    have hP : va_P D vwCl (wW_k_X10_meanSize ty X hn kn on cu pu gw su an ch cg fb mh ml ih lb ic nn kp se) H := hP
    have hD : va_D A (wW_k_X10_meanSize ty X hn kn on cu pu gw su an ch cg fb mh ml ih lb ic nn kp se) := hD
    refine vx_widen (k := 2) (n := 12) (Nat.le_of_ble_eq_true rfl) (Nat.le_of_ble_eq_true rfl) ?_
    exact vx_out (E := "java/lang/IllegalStateException") (fun x hx => (hEx x hx).elim) hlocks hce hcv hcl (fun t ht ha => wq_thrW0 (W := (wW_k_X10_meanSize ty X hn kn on cu pu gw su an ch cg fb mh ml ih lb ic nn kp se)) hS hP hD (by exact (Or.inl ⟨(by rw [hT]), (by first | rw [hT] | rfl)⟩)) ht) hS.2.2 (Nat.le_refl _) (Nat.le_refl _)
  · obtain ⟨c_2, rfl⟩ := hw
    rw [if_pos c_2] at hT
    have hP : va_P D vwCl (wW_k_X10_meanSize ty X hn kn on cu pu gw su an ch cg fb mh ml ih lb ic nn kp se) H := hP
    have hD : va_D A (wW_k_X10_meanSize ty X hn kn on cu pu gw su an ch cg fb mh ml ih lb ic nn kp se) := hD
    refine W.widen (k := 1) (n := 6) (Nat.le_of_ble_eq_true rfl) (Nat.le_of_ble_eq_true rfl) ?_
    refine lv_aload_n hx hb dX10_meanSize_4 rfl (lv_at hl 0 rfl) ?_
    refine va_get (D := D) (ci := 12) (v := .ref (X 45)) (C := RX10) (T := TX10) (N := 7) hx hb hts iv_k_X10_meanSize_X10 hown hK hP 0 rfl rfl 6 (by decide) (hts (.fieldLink RX10 56 "AnswerFold" "answers" "LAnswerFold$Answers;") (by decide +kernel)) (fun _ h9 => h9) rfl dX10_meanSize_5 ?_
    refine va_getN (D := D) (ci := 2) (v := .int nn) (C := RX0) (T := TX0) (N := 4) hx hb hts iv_k_X10_meanSize_X0 hown hK hP 5 rfl rfl 2 (by decide) (hE.at (.fieldLinkNest "AnswerFold" 280 "AnswerFold$Answers" "count" "I" "AnswerFold") (by decide +kernel)) (fun _ h9 => h9) rfl dX10_meanSize_8 ?_
    refine lv_if_gt (tgt := 25) hx hb dX10_meanSize_11 (by decide) (fun c_4 => ?_) (fun c_4 => ?_)
    · rw [if_pos c_4] at hT
      refine lv_iconst (v := 0) hx hb dX10_meanSize_25 (by decide) ?_
      refine lv_istore_n (lv' := [(1, .int 0), (0, .ref (X 0))]) hx hb dX10_meanSize_26 rfl hl (by decide) rfl (fun ls hl => ?_)
      refine lv_iconst (v := 0) hx hb dX10_meanSize_27 (by decide) ?_
      refine lv_istore_n (lv' := [(2, .int 0), (1, .int 0), (0, .ref (X 0))]) hx hb dX10_meanSize_28 rfl hl (by decide) rfl (fun ls hl => ?_)
      have L_29 : ∀ (n_29 : Nat) (v1_29 : Int32) (v2_29 : Int32), (2147483648 - v2_29.toInt).toNat < n_29 → TT = m_k_X10_meanSize_29 su nn se n_29 v1_29 v2_29 → 0 ≤ v2_29.toInt → ∀ (H : Heap) (locs : List Loc), va_P D vwCl (wW_k_X10_meanSize ty X hn kn on cu pu gw su an ch cg fb mh ml ih lb ic nn kp se) H → va_D A (wW_k_X10_meanSize ty X hn kn on cu pu gw su an ch cg fb mh ml ih lb ic nn kp se) → va_S A s.heap H locs → ∀ ls : Array Slot, lv_has ls 3 [(0, .ref (X 0)), (1, .int v1_29), (2, .int v2_29)] → W p l e (headSpec vs_k_X10_meanSize { frames := 7, cells := 2, slots := 12, locals := 102 }).room s m ([.ref (X 0)] : List Value).toArray below meth c H locs 1 6 (vx_MQ below (va_Qd (fun (r : UInt64) (u : va_W) => (TT.1 = 0 ∧ r = TT.2 ∧ (u = (wW_k_X10_meanSize ty X hn kn on cu pu gw su an ch cg fb mh ml ih lb ic nn kp se)))) (wq_B D A) A) (vx_X (fun u : String × va_W => (TT.1 = 3 ∧ u = ("java/lang/IllegalStateException", (wW_k_X10_meanSize ty X hn kn on cu pu gw su an ch cg fb mh ml ih lb ic nn kp se))) ∨ (TT.1 = 6 ∧ u = ("java/lang/ArithmeticException", (wW_k_X10_meanSize ty X hn kn on cu pu gw su an ch cg fb mh ml ih lb ic nn kp se)))) (wq_BX D A) A) ([.ref (X 0)] : List Value).toArray s 2 12 A) (F0 m 29 ls []) := by
        intro n_29
        induction n_29 with
        | zero => intro v1_29 v2_29 hu; exact absurd hu (Nat.not_lt_zero _)
        | succ n_29 ih_29 =>
          intro v1_29 v2_29 hu_29 hT hn_29 H locs hP hD hS ls hl
          rw [m_k_X10_meanSize_29_succ, m_k_X10_meanSize_29s] at hT
          refine lv_iload_n hx hb dX10_meanSize_29 rfl (lv_at hl 2 rfl) ?_
          refine lv_aload_n hx hb dX10_meanSize_30 rfl (lv_at hl 0 rfl) ?_
          refine va_get (D := D) (ci := 12) (v := .ref (X 45)) (C := RX10) (T := TX10) (N := 7) hx hb hts iv_k_X10_meanSize_X10 hown hK hP 0 rfl rfl 6 (by decide) (hts (.fieldLink RX10 56 "AnswerFold" "answers" "LAnswerFold$Answers;") (by decide +kernel)) (fun _ h9 => h9) rfl dX10_meanSize_31 ?_
          refine va_getN (D := D) (ci := 2) (v := .int nn) (C := RX0) (T := TX0) (N := 4) hx hb hts iv_k_X10_meanSize_X0 hown hK hP 5 rfl rfl 2 (by decide) (hE.at (.fieldLinkNest "AnswerFold" 280 "AnswerFold$Answers" "count" "I" "AnswerFold") (by decide +kernel)) (fun _ h9 => h9) rfl dX10_meanSize_34 ?_
          refine lv_icmp_ge (tgt := 64) hx hb dX10_meanSize_37 (by decide) (fun c_5 => ?_) (fun c_5 => ?_)
          · rw [if_pos c_5] at hT
            refine lv_iload_n hx hb dX10_meanSize_64 rfl (lv_at hl 1 rfl) ?_
            refine lv_i2d hx hb dX10_meanSize_65 ?_
            refine lv_aload_n hx hb dX10_meanSize_66 rfl (lv_at hl 0 rfl) ?_
            refine va_get (D := D) (ci := 12) (v := .ref (X 45)) (C := RX10) (T := TX10) (N := 7) hx hb hts iv_k_X10_meanSize_X10 hown hK hP 0 rfl rfl 6 (by decide) (hts (.fieldLink RX10 56 "AnswerFold" "answers" "LAnswerFold$Answers;") (by decide +kernel)) (fun _ h9 => h9) rfl dX10_meanSize_67 ?_
            refine va_getN (D := D) (ci := 2) (v := .int nn) (C := RX0) (T := TX0) (N := 4) hx hb hts iv_k_X10_meanSize_X0 hown hK hP 5 rfl rfl 2 (by decide) (hE.at (.fieldLinkNest "AnswerFold" 280 "AnswerFold$Answers" "count" "I" "AnswerFold") (by decide +kernel)) (fun _ h9 => h9) rfl dX10_meanSize_70 ?_
            refine lv_i2d hx hb dX10_meanSize_73 ?_
            refine lv_ddiv hx hb dX10_meanSize_74 (nn_ddiv _ _ (wi_pz (Int32.not_le.mpr c_4))) ?_
            refine W.widen (k := 2) (n := 12) (Nat.le_of_ble_eq_true rfl) (Nat.le_of_ble_eq_true rfl) ?_
            exact END (FP.ddiv (FP.i2d v1_29) (FP.i2d nn)) hT _ _ hP hD hS _ _ dX10_meanSize_75
          · rw [if_neg c_5] at hT
            refine lv_iload_n hx hb dX10_meanSize_40 rfl (lv_at hl 1 rfl) ?_
            refine lv_aload_n hx hb dX10_meanSize_41 rfl (lv_at hl 0 rfl) ?_
            refine va_get (D := D) (ci := 12) (v := .ref (X 20)) (C := RX10) (T := TX10) (N := 7) hx hb hts iv_k_X10_meanSize_X10 hown hK hP 0 rfl rfl 2 (by decide) (hts (.fieldLink RX10 30 "AnswerFold" "solver" "LAnswerFold$Solver;") (by decide +kernel)) (fun _ h9 => h9) rfl dX10_meanSize_42 ?_
            refine lv_aload_n hx hb dX10_meanSize_45 rfl (lv_at hl 0 rfl) ?_
            refine va_get (D := D) (ci := 12) (v := .ref (X 45)) (C := RX10) (T := TX10) (N := 7) hx hb hts iv_k_X10_meanSize_X10 hown hK hP 0 rfl rfl 6 (by decide) (hts (.fieldLink RX10 56 "AnswerFold" "answers" "LAnswerFold$Answers;") (by decide +kernel)) (fun _ h9 => h9) rfl dX10_meanSize_46 ?_
            refine lv_iload_n hx hb dX10_meanSize_49 rfl (lv_at hl 2 rfl) ?_
            obtain ⟨t_50, ht_50⟩ : ∃ t, t = m_k_X0_setAt se v2_29 := ⟨_, rfl⟩
            rw [lE_eq ht_50] at hT
            refine wq_iW (wc := (wW_k_X0_setAt ty (X 45) (X 46) (X 47) nn kp se)) (va_runV (As := [.int v2_29]) (rest := [.ref (X 20), .int v1_29]) ⟨hx, hb, hml, hown, hts⟩ (k_X0_setAt l D ty td mi H.size (X 45) (X 46) (X 47) nn kp se v2_29 t_50 ht_50) (cwV 1 hts gv_k_X10_meanSize_1 rfl rfl rfl (by decide +kernel) ⟨(Nat.le_of_ble_eq_true rfl), (Nat.le_of_ble_eq_true rfl)⟩) (wm_V (wm_preS hP hD hK hE hS hA [false, false, false, false, false, true, true] rfl) (va_recv (q0 := 5) (ci := 2) hK hP rfl rfl)) rfl rfl hl.1 rfl (lv_room (Nat.le_of_ble_eq_true rfl)) dX10_meanSize_50 ⟨(Nat.le_of_ble_eq_true rfl), (Nat.le_of_ble_eq_true rfl)⟩) hS hA hP hD [false, false, false, false, false, true, true] rfl (fun _ _ h => by rcases h with ⟨-, rfl⟩; rfl) (fun r u H locs hw hP hD hS => ?_)
            obtain ⟨hr0, rfl⟩ := hw
            subst r
            have hP : va_P D vwCl (wW_k_X10_meanSize ty X hn kn on cu pu gw su an ch cg fb mh ml ih lb ic nn kp se) H := hP
            have hD : va_D A (wW_k_X10_meanSize ty X hn kn on cu pu gw su an ch cg fb mh ml ih lb ic nn kp se) := hD
            refine W.widen (k := 1) (n := 6) (Nat.le_of_ble_eq_true rfl) (Nat.le_of_ble_eq_true rfl) ?_
            obtain ⟨t_53, ht_53⟩ : ∃ t, t = m_k_X9_sizeOf su t_50 := ⟨_, rfl⟩
            rw [lE_eq ht_53] at hT
            refine wq_iW (wc := (wW_k_X9_sizeOf ty X hn kn on cu pu gw su an ch cg fb mh ml ih lb ic)) (va_runV (As := [.int t_50]) (rest := [.int v1_29]) ⟨hx, hb, hml, hown, hts⟩ (k_X9_sizeOf l D ty td mi H.size X hn kn on cu pu gw su an ch cg fb mh ml ih lb ic t_50 t_53 ht_53) (cwV 1 hts gv_k_X10_meanSize_2 rfl rfl rfl (by decide +kernel) ⟨(Nat.le_of_ble_eq_true rfl), (Nat.le_of_ble_eq_true rfl)⟩) (wm_V (wm_preS hP hD hK hE hS hA [false, true, true, true, true] rfl) (va_recv (q0 := 4) (ci := 11) hK hP rfl rfl)) rfl rfl hl.1 rfl (lv_room (Nat.le_of_ble_eq_true rfl)) dX10_meanSize_53 ⟨(Nat.le_of_ble_eq_true rfl), (Nat.le_of_ble_eq_true rfl)⟩) hS hA hP hD [false, true, true, true, true] rfl (fun _ _ h => by rcases h with ⟨-, rfl⟩; rfl) (fun r u H locs hw hP hD hS => ?_)
            obtain ⟨hr0, rfl⟩ := hw
            subst r
            have hP : va_P D vwCl (wW_k_X10_meanSize ty X hn kn on cu pu gw su an ch cg fb mh ml ih lb ic nn kp se) H := hP
            have hD : va_D A (wW_k_X10_meanSize ty X hn kn on cu pu gw su an ch cg fb mh ml ih lb ic nn kp se) := hD
            refine W.widen (k := 1) (n := 6) (Nat.le_of_ble_eq_true rfl) (Nat.le_of_ble_eq_true rfl) ?_
            refine lv_iadd hx hb dX10_meanSize_56 ?_
            refine lv_istore_n (lv' := [(1, .int (v1_29 + t_53)), (0, .ref (X 0)), (2, .int v2_29)]) hx hb dX10_meanSize_57 rfl hl (by decide) rfl (fun ls hl => ?_)
            refine lv_iinc (v := v2_29 + 1) (lv' := [(2, .int (v2_29 + 1)), (1, .int (v1_29 + t_53)), (0, .ref (X 0))]) hx hb dX10_meanSize_58 hl (k := 2) rfl (by rfl) (by decide) rfl (fun ls hl => ?_)
            refine lv_goto (tgt := 29) hx hb dX10_meanSize_61 (by decide) ?_
            exact ih_29 (v1_29 + t_53) (v2_29 + 1) (wi_up hu_29 (Int32.not_le.mp c_5)) hT (wi_inc hn_29 (Int32.not_le.mp c_5)) _ _ hP hD hS _ (lv_sub hl [2, 1, 0] rfl)
      exact L_29 wF 0 0 (wF_up 0) hT (by decide) _ _ hP hD hS _ (lv_sub hl [2, 1, 0] rfl)
    · rw [if_neg c_4] at hT
      obtain ⟨sa, hsa⟩ := hE.st 340 "no answers" (by decide +kernel)
      exact vx_throwSW (own := RX10) (cls := "java/lang/ArithmeticException") (text := "no answers") (names := ["java/lang/RuntimeException", "java/lang/Exception"]) (ik := 338) (is := 340) (ic := 342) (sa := sa) (A := A) hx hb hl9 hown (by decide +kernel) (by decide +kernel) (hts (.classLink RX10 338 "java/lang/ArithmeticException") (by decide +kernel)) (hts (.initialized "java/lang/ArithmeticException") (by decide +kernel)) hsa (wq_hat hE hts ix_k_X10_meanSize_342 (by decide +kernel) (by decide +kernel)) (by decide +kernel) hE.zu hE.zs hS (hl.1.trans hml.symm) dX10_meanSize_14 dX10_meanSize_17 dX10_meanSize_18 dX10_meanSize_21 dX10_meanSize_24 (fun x hx => (hEx x hx).elim) (Nat.le_of_ble_eq_true rfl) (Nat.le_of_ble_eq_true rfl) (Nat.le_of_ble_eq_true rfl) (Nat.le_of_ble_eq_true rfl) hlocks (fun t ha hz hk => wq_thrW (W := (wW_k_X10_meanSize ty X hn kn on cu pu gw su an ch cg fb mh ml ih lb ic nn kp se)) hS hP hD (by exact (Or.inr ⟨(by rw [hT]), (by first | rw [hT] | rfl)⟩)) hz hk) hS.2.2 (Nat.le_of_ble_eq_true rfl) (Nat.le_of_ble_eq_true rfl)

theorem dL_told_0 : decode cL_told 0 = .ok (.iload_n 0, 1) := by decide +kernel
theorem dL_told_1 : decode cL_told 1 = .ok (.ifCond .eq 7, 3) := by decide +kernel
theorem dL_told_4 : decode cL_told 4 = .ok (.iconst 1, 1) := by decide +kernel
theorem dL_told_5 : decode cL_told 5 = .ok (.goto 4, 3) := by decide +kernel
theorem dL_told_8 : decode cL_told 8 = .ok (.iconst 0, 1) := by decide +kernel
theorem dL_told_9 : decode cL_told 9 = .ok (.ireturn, 1) := by decide +kernel
def vs_k_L_told : List Cond := .code yL_told cL_told 1 (some .int) :: ([])
set_option maxHeartbeats 4000000 in
set_option maxRecDepth 100000 in
theorem k_L_told (l : Launch) (D : va_G) (ty : Nat → ClassId) (td mi sz : Nat) (a1 : Int32) (TT : r_k_L_told) (hTT : TT = m_k_L_told a1) : Met l yL_told vs_k_L_told { frames := 0, cells := 0, slots := 0, locals := 0 } (va_Pc [.int a1] (wq_P D ty td mi [] sz)) (va_Qi (fun (r : Int32) (u : va_W) => (r = TT ∧ (u = []))) (wq_B D (va_A [] sz)) (va_A [] sz)) 0 0 (va_A [] sz) := by
  refine Met.ofW (cc := cL_told) (maxL := 1) (ret := (some .int)) (by decide) rfl ?_
  intro p e s m args below meth c s₁ B hml hv
  obtain ⟨rfl, hsz, hP, hK, hD0, hE⟩ := hv
  have hx := B.exec
  have hb := B.bytes
  have hr := B.returns
  have hts := atoms_spec (ws := vs_k_L_told) B.pre
  have hown : s.vm.findClass RL = some m.cls := findClass_of_methodNamed B.named
  have hlocks := B.notSynchronized
  subst hsz
  have hD := hD0.self (sz := s.heap.size)
  generalize hAe : va_A [] s.heap.size = A at hD hE ⊢
  have hA : ∀ q : Nat, s.heap.size ≤ q → A q := fun q h => by rw [← hAe]; exact Or.inr h
  have hS : va_S A s.heap s.heap [] := va_S.rf
  have hP : va_P D vwCl [] s.heap := hP
  have hl := lv_entry ([.int a1]) (n := 1) (Nat.le_of_ble_eq_true rfl)
  rw [lg_entry_eq]
  generalize (lg_sl ([.int a1]) ++ List.replicate (1 - (lg_sl ([.int a1])).length) Slot.unset).toArray = ls at hl ⊢
  have hl : lv_has ls 1 [(0, .int a1)] := hl
  have END : ∀ (r : Int32), TT = r → ∀ (H : Heap) (locs : List Loc), va_P D vwCl [] H → va_D A [] → va_S A s.heap H locs → ∀ (ls : Array Slot) (pc : Nat), decode cL_told pc = .ok (.ireturn, 1) → W p l e (headSpec vs_k_L_told { frames := 0, cells := 0, slots := 0, locals := 0 }).room s m ([.int a1] : List Value).toArray below meth c H locs 0 0 (MQ below (va_Qi (fun (r : Int32) (u : va_W) => (r = TT ∧ (u = []))) (wq_B D A) A) ([.int a1] : List Value).toArray s 0 0 A) (F0 m pc ls [.int r]) := by
    intro r hT H locs hP hD hS ls pc hd
    have hM : TT = r := hT
    exact W.iret (v := r) hx hb hr (fun t ht hW => ⟨⟨r, [], rfl, ⟨(by rw [hM]), rfl⟩, wq_B.of ht hP hD⟩, hS.F ht⟩) hS.2.2 hd
  have hT := hTT
  rw [m_k_L_told] at hT
  refine lv_iload_n hx hb dL_told_0 rfl (lv_at hl 0 rfl) ?_
  refine lv_if_eq (tgt := 8) hx hb dL_told_1 (by decide) (fun c_1 => ?_) (fun c_1 => ?_)
  · rw [if_pos c_1] at hT
    refine lv_iconst (v := 0) hx hb dL_told_8 (by decide) ?_
    exact END 0 hT _ _ hP hD hS _ _ dL_told_9
  · rw [if_neg c_1] at hT
    refine lv_iconst (v := 1) hx hb dL_told_4 (by decide) ?_
    refine lv_goto (tgt := 9) hx hb dL_told_5 (by decide) ?_
    exact END 1 hT _ _ hP hD hS _ _ dL_told_9
theorem dL_isHeld_0 : decode cL_isHeld 0 = .ok (.iload_n 1, 1) := by decide +kernel
theorem dL_isHeld_1 : decode cL_isHeld 1 = .ok (.aload_n 0, 1) := by decide +kernel
theorem dL_isHeld_2 : decode cL_isHeld 2 = .ok (.iconst 4, 1) := by decide +kernel
theorem dL_isHeld_3 : decode cL_isHeld 3 = .ok (.iaload, 1) := by decide +kernel
theorem dL_isHeld_4 : decode cL_isHeld 4 = .ok (.iand, 1) := by decide +kernel
theorem dL_isHeld_5 : decode cL_isHeld 5 = .ok (.aload_n 0, 1) := by decide +kernel
theorem dL_isHeld_6 : decode cL_isHeld 6 = .ok (.iconst 4, 1) := by decide +kernel
theorem dL_isHeld_7 : decode cL_isHeld 7 = .ok (.iaload, 1) := by decide +kernel
theorem dL_isHeld_8 : decode cL_isHeld 8 = .ok (.if_icmp .ne 15, 3) := by decide +kernel
theorem dL_isHeld_11 : decode cL_isHeld 11 = .ok (.iload_n 1, 1) := by decide +kernel
theorem dL_isHeld_12 : decode cL_isHeld 12 = .ok (.aload_n 0, 1) := by decide +kernel
theorem dL_isHeld_13 : decode cL_isHeld 13 = .ok (.iconst 5, 1) := by decide +kernel
theorem dL_isHeld_14 : decode cL_isHeld 14 = .ok (.iaload, 1) := by decide +kernel
theorem dL_isHeld_15 : decode cL_isHeld 15 = .ok (.iand, 1) := by decide +kernel
theorem dL_isHeld_16 : decode cL_isHeld 16 = .ok (.ifCond .ne 7, 3) := by decide +kernel
theorem dL_isHeld_19 : decode cL_isHeld 19 = .ok (.iconst 1, 1) := by decide +kernel
theorem dL_isHeld_20 : decode cL_isHeld 20 = .ok (.goto 4, 3) := by decide +kernel
theorem dL_isHeld_23 : decode cL_isHeld 23 = .ok (.iconst 0, 1) := by decide +kernel
theorem dL_isHeld_24 : decode cL_isHeld 24 = .ok (.istore_n 2, 1) := by decide +kernel
theorem dL_isHeld_25 : decode cL_isHeld 25 = .ok (.iload_n 2, 1) := by decide +kernel
theorem dL_isHeld_26 : decode cL_isHeld 26 = .ok (.ifCond .eq 30, 3) := by decide +kernel
theorem dL_isHeld_29 : decode cL_isHeld 29 = .ok (.iload_n 1, 1) := by decide +kernel
theorem dL_isHeld_30 : decode cL_isHeld 30 = .ok (.aload_n 0, 1) := by decide +kernel
theorem dL_isHeld_31 : decode cL_isHeld 31 = .ok (.bipush 8, 2) := by decide +kernel
theorem dL_isHeld_33 : decode cL_isHeld 33 = .ok (.iaload, 1) := by decide +kernel
theorem dL_isHeld_34 : decode cL_isHeld 34 = .ok (.iand, 1) := by decide +kernel
theorem dL_isHeld_35 : decode cL_isHeld 35 = .ok (.aload_n 0, 1) := by decide +kernel
theorem dL_isHeld_36 : decode cL_isHeld 36 = .ok (.bipush 6, 2) := by decide +kernel
theorem dL_isHeld_38 : decode cL_isHeld 38 = .ok (.iaload, 1) := by decide +kernel
theorem dL_isHeld_39 : decode cL_isHeld 39 = .ok (.iand, 1) := by decide +kernel
theorem dL_isHeld_40 : decode cL_isHeld 40 = .ok (.aload_n 0, 1) := by decide +kernel
theorem dL_isHeld_41 : decode cL_isHeld 41 = .ok (.bipush 8, 2) := by decide +kernel
theorem dL_isHeld_43 : decode cL_isHeld 43 = .ok (.iaload, 1) := by decide +kernel
theorem dL_isHeld_44 : decode cL_isHeld 44 = .ok (.aload_n 0, 1) := by decide +kernel
theorem dL_isHeld_45 : decode cL_isHeld 45 = .ok (.bipush 6, 2) := by decide +kernel
theorem dL_isHeld_47 : decode cL_isHeld 47 = .ok (.iaload, 1) := by decide +kernel
theorem dL_isHeld_48 : decode cL_isHeld 48 = .ok (.iand, 1) := by decide +kernel
theorem dL_isHeld_49 : decode cL_isHeld 49 = .ok (.if_icmp .ne 7, 3) := by decide +kernel
theorem dL_isHeld_52 : decode cL_isHeld 52 = .ok (.iconst 1, 1) := by decide +kernel
theorem dL_isHeld_53 : decode cL_isHeld 53 = .ok (.goto 4, 3) := by decide +kernel
theorem dL_isHeld_56 : decode cL_isHeld 56 = .ok (.iconst 0, 1) := by decide +kernel
theorem dL_isHeld_57 : decode cL_isHeld 57 = .ok (.istore_n 2, 1) := by decide +kernel
theorem dL_isHeld_58 : decode cL_isHeld 58 = .ok (.iload_n 2, 1) := by decide +kernel
theorem dL_isHeld_59 : decode cL_isHeld 59 = .ok (.ifCond .eq 23, 3) := by decide +kernel
theorem dL_isHeld_62 : decode cL_isHeld 62 = .ok (.iload_n 1, 1) := by decide +kernel
theorem dL_isHeld_63 : decode cL_isHeld 63 = .ok (.aload_n 0, 1) := by decide +kernel
theorem dL_isHeld_64 : decode cL_isHeld 64 = .ok (.bipush 9, 2) := by decide +kernel
theorem dL_isHeld_66 : decode cL_isHeld 66 = .ok (.iaload, 1) := by decide +kernel
theorem dL_isHeld_67 : decode cL_isHeld 67 = .ok (.iand, 1) := by decide +kernel
theorem dL_isHeld_68 : decode cL_isHeld 68 = .ok (.aload_n 0, 1) := by decide +kernel
theorem dL_isHeld_69 : decode cL_isHeld 69 = .ok (.bipush 7, 2) := by decide +kernel
theorem dL_isHeld_71 : decode cL_isHeld 71 = .ok (.iaload, 1) := by decide +kernel
theorem dL_isHeld_72 : decode cL_isHeld 72 = .ok (.iconst (-1), 1) := by decide +kernel
theorem dL_isHeld_73 : decode cL_isHeld 73 = .ok (.ixor, 1) := by decide +kernel
theorem dL_isHeld_74 : decode cL_isHeld 74 = .ok (.iand, 1) := by decide +kernel
theorem dL_isHeld_75 : decode cL_isHeld 75 = .ok (.ifCond .ne 7, 3) := by decide +kernel
theorem dL_isHeld_78 : decode cL_isHeld 78 = .ok (.iconst 1, 1) := by decide +kernel
theorem dL_isHeld_79 : decode cL_isHeld 79 = .ok (.goto 4, 3) := by decide +kernel
theorem dL_isHeld_82 : decode cL_isHeld 82 = .ok (.iconst 0, 1) := by decide +kernel
theorem dL_isHeld_83 : decode cL_isHeld 83 = .ok (.ireturn, 1) := by decide +kernel
def vs_k_L_isHeld : List Cond := .code yL_isHeld cL_isHeld 3 (some .boolean) :: ([])
set_option maxHeartbeats 4000000 in
set_option maxRecDepth 100000 in
theorem k_L_isHeld (l : Launch) (D : va_G) (ty : Nat → ClassId) (td mi sz : Nat) (pp : pT) (a0 : Nat) (a1 : Int32) (hok : pOK pp) (hm_a0 : a0 ∈ pZA pp) (TT : r_k_L_isHeld) (hTT : TT = m_k_L_isHeld pp a0 a1) : Met l yL_isHeld vs_k_L_isHeld { frames := 0, cells := 0, slots := 0, locals := 0 } (va_Pc [.ref a0, .int a1] (wq_P D ty td mi ([] ++ pw ty pp) sz)) (va_Qi (fun (r : Int32) (u : va_W) => (r = TT ∧ (TT = 0 ∨ TT = 1) ∧ (u = ([] ++ pw ty pp)))) (wq_B D (va_A ([] ++ pw ty pp) sz)) (va_A ([] ++ pw ty pp) sz)) 0 0 (va_A ([] ++ pw ty pp) sz) := by
  refine Met.ofW (cc := cL_isHeld) (maxL := 3) (ret := (some .boolean)) (by decide) rfl ?_
  intro p e s m args below meth c s₁ B hml hv
  obtain ⟨rfl, hsz, hP, hK, hD0, hE⟩ := hv
  have hx := B.exec
  have hb := B.bytes
  have hr := B.returns
  have hts := atoms_spec (ws := vs_k_L_isHeld) B.pre
  have hown : s.vm.findClass RL = some m.cls := findClass_of_methodNamed B.named
  have hlocks := B.notSynchronized
  subst hsz
  have hD := hD0.self (sz := s.heap.size)
  generalize hAe : va_A ([] ++ pw ty pp) s.heap.size = A at hD hE ⊢
  have hA : ∀ q : Nat, s.heap.size ≤ q → A q := fun q h => by rw [← hAe]; exact Or.inr h
  have hS : va_S A s.heap s.heap [] := va_S.rf
  have hP : va_P D vwCl ([] ++ pw ty pp) s.heap := hP
  have hl := lv_entry ([.ref a0, .int a1]) (n := 3) (Nat.le_of_ble_eq_true rfl)
  rw [lg_entry_eq]
  generalize (lg_sl ([.ref a0, .int a1]) ++ List.replicate (3 - (lg_sl ([.ref a0, .int a1])).length) Slot.unset).toArray = ls at hl ⊢
  have hl : lv_has ls 3 [(0, .ref a0), (1, .int a1)] := hl
  have END : ∀ (r : Int32), TT = r → (r = 0 ∨ r = 1) → ∀ (H : Heap) (locs : List Loc), va_P D vwCl ([] ++ pw ty pp) H → va_D A ([] ++ pw ty pp) → va_S A s.heap H locs → ∀ (ls : Array Slot) (pc : Nat), decode cL_isHeld pc = .ok (.ireturn, 1) → W p l e (headSpec vs_k_L_isHeld { frames := 0, cells := 0, slots := 0, locals := 0 }).room s m ([.ref a0, .int a1] : List Value).toArray below meth c H locs 0 0 (MQ below (va_Qi (fun (r : Int32) (u : va_W) => (r = TT ∧ (TT = 0 ∨ TT = 1) ∧ (u = ([] ++ pw ty pp)))) (wq_B D A) A) ([.ref a0, .int a1] : List Value).toArray s 0 0 A) (F0 m pc ls [.int r]) := by
    intro r hT hb01 H locs hP hD hS ls pc hd
    have hM : TT = r := hT
    exact W.zret (v := r) hx hb hr (wz_nar hb01) (fun t ht hW => ⟨⟨r, ([] ++ pw ty pp), rfl, ⟨(by rw [hM]), (by rw [hM]; exact hb01), rfl⟩, wq_B.of ht hP hD⟩, hS.F ht⟩) hS.2.2 hd
  have hT := hTT
  rw [m_k_L_isHeld] at hT
  refine lv_iload_n hx hb dL_isHeld_0 rfl (lv_at hl 1 rfl) ?_
  refine lv_aload_n hx hb dL_isHeld_1 rfl (lv_at hl 0 rfl) ?_
  refine lv_iconst (v := 4) hx hb dL_isHeld_2 (by decide) ?_
  obtain ⟨k_1, hk_1⟩ := List.getElem?_of_mem (pw_row (ty := ty) (p := pp) (L := []) hm_a0)
  refine va_iald (D := D) hx hb hK hP k_1 0 hk_1 rfl (vp_in_iff.mpr (by decide)) dL_isHeld_3 ?_
  refine lv_iand hx hb dL_isHeld_4 ?_
  refine lv_aload_n hx hb dL_isHeld_5 rfl (lv_at hl 0 rfl) ?_
  refine lv_iconst (v := 4) hx hb dL_isHeld_6 (by decide) ?_
  obtain ⟨k_2, hk_2⟩ := List.getElem?_of_mem (pw_row (ty := ty) (p := pp) (L := []) hm_a0)
  refine va_iald (D := D) hx hb hK hP k_2 0 hk_2 rfl (vp_in_iff.mpr (by decide)) dL_isHeld_7 ?_
  have J_24 : ∀ (s0_24 : Int32), TT = m_k_L_isHeld_24 pp a0 a1 s0_24 → s0_24 = 0 ∨ s0_24 = 1 → ∀ (H : Heap) (locs : List Loc), va_P D vwCl ([] ++ pw ty pp) H → va_D A ([] ++ pw ty pp) → va_S A s.heap H locs → ∀ ls : Array Slot, lv_has ls 3 [(0, .ref a0), (1, .int a1)] → W p l e (headSpec vs_k_L_isHeld { frames := 0, cells := 0, slots := 0, locals := 0 }).room s m ([.ref a0, .int a1] : List Value).toArray below meth c H locs 0 0 (MQ below (va_Qi (fun (r : Int32) (u : va_W) => (r = TT ∧ (TT = 0 ∨ TT = 1) ∧ (u = ([] ++ pw ty pp)))) (wq_B D A) A) ([.ref a0, .int a1] : List Value).toArray s 0 0 A) (F0 m 24 ls [.int s0_24]) := by
    intro s0_24 hT hb_s0_24 H locs hP hD hS ls hl
    rw [m_k_L_isHeld_24] at hT
    refine lv_istore_n (lv' := [(2, .int s0_24), (0, .ref a0), (1, .int a1)]) hx hb dL_isHeld_24 rfl hl (by decide) rfl (fun ls hl => ?_)
    refine lv_iload_n hx hb dL_isHeld_25 rfl (lv_at hl 0 rfl) ?_
    have J_57 : ∀ (s0_57 : Int32), TT = m_k_L_isHeld_57 pp a0 a1 s0_57 → s0_57 = 0 ∨ s0_57 = 1 → ∀ (H : Heap) (locs : List Loc), va_P D vwCl ([] ++ pw ty pp) H → va_D A ([] ++ pw ty pp) → va_S A s.heap H locs → ∀ ls : Array Slot, lv_has ls 3 [(0, .ref a0), (1, .int a1)] → W p l e (headSpec vs_k_L_isHeld { frames := 0, cells := 0, slots := 0, locals := 0 }).room s m ([.ref a0, .int a1] : List Value).toArray below meth c H locs 0 0 (MQ below (va_Qi (fun (r : Int32) (u : va_W) => (r = TT ∧ (TT = 0 ∨ TT = 1) ∧ (u = ([] ++ pw ty pp)))) (wq_B D A) A) ([.ref a0, .int a1] : List Value).toArray s 0 0 A) (F0 m 57 ls [.int s0_57]) := by
      intro s0_57 hT hb_s0_57 H locs hP hD hS ls hl
      rw [m_k_L_isHeld_57] at hT
      refine lv_istore_n (lv' := [(2, .int s0_57), (0, .ref a0), (1, .int a1)]) hx hb dL_isHeld_57 rfl hl (by decide) rfl (fun ls hl => ?_)
      refine lv_iload_n hx hb dL_isHeld_58 rfl (lv_at hl 0 rfl) ?_
      refine lv_if_eq (tgt := 82) hx hb dL_isHeld_59 (by decide) (fun c_3 => ?_) (fun c_3 => ?_)
      · rw [if_pos c_3] at hT
        refine lv_iconst (v := 0) hx hb dL_isHeld_82 (by decide) ?_
        exact END 0 hT (by decide) _ _ hP hD hS _ _ dL_isHeld_83
      · rw [if_neg c_3] at hT
        refine lv_iload_n hx hb dL_isHeld_62 rfl (lv_at hl 2 rfl) ?_
        refine lv_aload_n hx hb dL_isHeld_63 rfl (lv_at hl 1 rfl) ?_
        refine lv_bipush (v := 9) hx hb dL_isHeld_64 (by decide) ?_
        obtain ⟨k_4, hk_4⟩ := List.getElem?_of_mem (pw_row (ty := ty) (p := pp) (L := []) hm_a0)
        refine va_iald (D := D) hx hb hK hP k_4 0 hk_4 rfl (vp_in_iff.mpr (by decide)) dL_isHeld_66 ?_
        refine lv_iand hx hb dL_isHeld_67 ?_
        refine lv_aload_n hx hb dL_isHeld_68 rfl (lv_at hl 1 rfl) ?_
        refine lv_bipush (v := 7) hx hb dL_isHeld_69 (by decide) ?_
        obtain ⟨k_5, hk_5⟩ := List.getElem?_of_mem (pw_row (ty := ty) (p := pp) (L := []) hm_a0)
        refine va_iald (D := D) hx hb hK hP k_5 0 hk_5 rfl (vp_in_iff.mpr (by decide)) dL_isHeld_71 ?_
        refine lv_iconst (v := (-1)) hx hb dL_isHeld_72 (by decide) ?_
        refine lv_ixor hx hb dL_isHeld_73 ?_
        refine lv_iand hx hb dL_isHeld_74 ?_
        refine lv_if_ne (tgt := 82) hx hb dL_isHeld_75 (by decide) (fun c_6 => ?_) (fun c_6 => ?_)
        · rw [if_neg c_6] at hT
          refine lv_iconst (v := 0) hx hb dL_isHeld_82 (by decide) ?_
          exact END 0 hT (by decide) _ _ hP hD hS _ _ dL_isHeld_83
        · rw [if_pos c_6] at hT
          refine lv_iconst (v := 1) hx hb dL_isHeld_78 (by decide) ?_
          refine lv_goto (tgt := 83) hx hb dL_isHeld_79 (by decide) ?_
          exact END 1 hT (by decide) _ _ hP hD hS _ _ dL_isHeld_83
    have J_56 : ∀ (_ : Unit), TT = m_k_L_isHeld_56 pp a0 a1 → ∀ (H : Heap) (locs : List Loc), va_P D vwCl ([] ++ pw ty pp) H → va_D A ([] ++ pw ty pp) → va_S A s.heap H locs → ∀ ls : Array Slot, lv_has ls 3 [(0, .ref a0), (1, .int a1)] → W p l e (headSpec vs_k_L_isHeld { frames := 0, cells := 0, slots := 0, locals := 0 }).room s m ([.ref a0, .int a1] : List Value).toArray below meth c H locs 0 0 (MQ below (va_Qi (fun (r : Int32) (u : va_W) => (r = TT ∧ (TT = 0 ∨ TT = 1) ∧ (u = ([] ++ pw ty pp)))) (wq_B D A) A) ([.ref a0, .int a1] : List Value).toArray s 0 0 A) (F0 m 56 ls []) := by
      intro _ hT  H locs hP hD hS ls hl
      rw [m_k_L_isHeld_56] at hT
      refine lv_iconst (v := 0) hx hb dL_isHeld_56 (by decide) ?_
      exact J_57 0 hT (by decide) _ _ hP hD hS _ (lv_sub hl [0, 1] rfl)
    refine lv_if_eq (tgt := 56) hx hb dL_isHeld_26 (by decide) (fun c_7 => ?_) (fun c_7 => ?_)
    · rw [if_pos c_7] at hT
      exact J_56 () hT _ _ hP hD hS _ (lv_sub hl [1, 2] rfl)
    · rw [if_neg c_7] at hT
      refine lv_iload_n hx hb dL_isHeld_29 rfl (lv_at hl 2 rfl) ?_
      refine lv_aload_n hx hb dL_isHeld_30 rfl (lv_at hl 1 rfl) ?_
      refine lv_bipush (v := 8) hx hb dL_isHeld_31 (by decide) ?_
      obtain ⟨k_8, hk_8⟩ := List.getElem?_of_mem (pw_row (ty := ty) (p := pp) (L := []) hm_a0)
      refine va_iald (D := D) hx hb hK hP k_8 0 hk_8 rfl (vp_in_iff.mpr (by decide)) dL_isHeld_33 ?_
      refine lv_iand hx hb dL_isHeld_34 ?_
      refine lv_aload_n hx hb dL_isHeld_35 rfl (lv_at hl 1 rfl) ?_
      refine lv_bipush (v := 6) hx hb dL_isHeld_36 (by decide) ?_
      obtain ⟨k_9, hk_9⟩ := List.getElem?_of_mem (pw_row (ty := ty) (p := pp) (L := []) hm_a0)
      refine va_iald (D := D) hx hb hK hP k_9 0 hk_9 rfl (vp_in_iff.mpr (by decide)) dL_isHeld_38 ?_
      refine lv_iand hx hb dL_isHeld_39 ?_
      refine lv_aload_n hx hb dL_isHeld_40 rfl (lv_at hl 1 rfl) ?_
      refine lv_bipush (v := 8) hx hb dL_isHeld_41 (by decide) ?_
      obtain ⟨k_10, hk_10⟩ := List.getElem?_of_mem (pw_row (ty := ty) (p := pp) (L := []) hm_a0)
      refine va_iald (D := D) hx hb hK hP k_10 0 hk_10 rfl (vp_in_iff.mpr (by decide)) dL_isHeld_43 ?_
      refine lv_aload_n hx hb dL_isHeld_44 rfl (lv_at hl 1 rfl) ?_
      refine lv_bipush (v := 6) hx hb dL_isHeld_45 (by decide) ?_
      obtain ⟨k_11, hk_11⟩ := List.getElem?_of_mem (pw_row (ty := ty) (p := pp) (L := []) hm_a0)
      refine va_iald (D := D) hx hb hK hP k_11 0 hk_11 rfl (vp_in_iff.mpr (by decide)) dL_isHeld_47 ?_
      refine lv_iand hx hb dL_isHeld_48 ?_
      refine lv_icmp_ne (tgt := 56) hx hb dL_isHeld_49 (by decide) (fun c_12 => ?_) (fun c_12 => ?_)
      · rw [if_neg c_12] at hT
        exact J_56 () hT _ _ hP hD hS _ (lv_sub hl [1, 2] rfl)
      · rw [if_pos c_12] at hT
        refine lv_iconst (v := 1) hx hb dL_isHeld_52 (by decide) ?_
        refine lv_goto (tgt := 57) hx hb dL_isHeld_53 (by decide) ?_
        exact J_57 1 hT (by decide) _ _ hP hD hS _ (lv_sub hl [1, 2] rfl)
  have J_23 : ∀ (_ : Unit), TT = m_k_L_isHeld_23 pp a0 a1 → ∀ (H : Heap) (locs : List Loc), va_P D vwCl ([] ++ pw ty pp) H → va_D A ([] ++ pw ty pp) → va_S A s.heap H locs → ∀ ls : Array Slot, lv_has ls 3 [(0, .ref a0), (1, .int a1)] → W p l e (headSpec vs_k_L_isHeld { frames := 0, cells := 0, slots := 0, locals := 0 }).room s m ([.ref a0, .int a1] : List Value).toArray below meth c H locs 0 0 (MQ below (va_Qi (fun (r : Int32) (u : va_W) => (r = TT ∧ (TT = 0 ∨ TT = 1) ∧ (u = ([] ++ pw ty pp)))) (wq_B D A) A) ([.ref a0, .int a1] : List Value).toArray s 0 0 A) (F0 m 23 ls []) := by
    intro _ hT  H locs hP hD hS ls hl
    rw [m_k_L_isHeld_23] at hT
    refine lv_iconst (v := 0) hx hb dL_isHeld_23 (by decide) ?_
    exact J_24 0 hT (by decide) _ _ hP hD hS _ (lv_sub hl [0, 1] rfl)
  refine lv_icmp_ne (tgt := 23) hx hb dL_isHeld_8 (by decide) (fun c_13 => ?_) (fun c_13 => ?_)
  · rw [if_neg c_13] at hT
    exact J_23 () hT _ _ hP hD hS _ (lv_sub hl [0, 1] rfl)
  · rw [if_pos c_13] at hT
    refine lv_iload_n hx hb dL_isHeld_11 rfl (lv_at hl 1 rfl) ?_
    refine lv_aload_n hx hb dL_isHeld_12 rfl (lv_at hl 0 rfl) ?_
    refine lv_iconst (v := 5) hx hb dL_isHeld_13 (by decide) ?_
    obtain ⟨k_14, hk_14⟩ := List.getElem?_of_mem (pw_row (ty := ty) (p := pp) (L := []) hm_a0)
    refine va_iald (D := D) hx hb hK hP k_14 0 hk_14 rfl (vp_in_iff.mpr (by decide)) dL_isHeld_14 ?_
    refine lv_iand hx hb dL_isHeld_15 ?_
    refine lv_if_ne (tgt := 23) hx hb dL_isHeld_16 (by decide) (fun c_15 => ?_) (fun c_15 => ?_)
    · rw [if_neg c_15] at hT
      exact J_23 () hT _ _ hP hD hS _ (lv_sub hl [0, 1] rfl)
    · rw [if_pos c_15] at hT
      refine lv_iconst (v := 1) hx hb dL_isHeld_19 (by decide) ?_
      refine lv_goto (tgt := 24) hx hb dL_isHeld_20 (by decide) ?_
      exact J_24 1 hT (by decide) _ _ hP hD hS _ (lv_sub hl [0, 1] rfl)
theorem dL_isClosed_0 : decode cL_isClosed 0 = .ok (.iconst 1, 1) := by decide +kernel
theorem dL_isClosed_1 : decode cL_isClosed 1 = .ok (.istore_n 3, 1) := by decide +kernel
theorem dL_isClosed_2 : decode cL_isClosed 2 = .ok (.iconst 0, 1) := by decide +kernel
theorem dL_isClosed_3 : decode cL_isClosed 3 = .ok (.istore 4, 2) := by decide +kernel
theorem dL_isClosed_5 : decode cL_isClosed 5 = .ok (.iload 4, 2) := by decide +kernel
theorem dL_isClosed_7 : decode cL_isClosed 7 = .ok (.iload_n 1, 1) := by decide +kernel
theorem dL_isClosed_8 : decode cL_isClosed 8 = .ok (.if_icmp .ge 89, 3) := by decide +kernel
theorem dL_isClosed_11 : decode cL_isClosed 11 = .ok (.aload_n 0, 1) := by decide +kernel
theorem dL_isClosed_12 : decode cL_isClosed 12 = .ok (.iload 4, 2) := by decide +kernel
theorem dL_isClosed_14 : decode cL_isClosed 14 = .ok (.aaload, 1) := by decide +kernel
theorem dL_isClosed_15 : decode cL_isClosed 15 = .ok (.astore 5, 2) := by decide +kernel
theorem dL_isClosed_17 : decode cL_isClosed 17 = .ok (.aload 5, 2) := by decide +kernel
theorem dL_isClosed_19 : decode cL_isClosed 19 = .ok (.iconst 1, 1) := by decide +kernel
theorem dL_isClosed_20 : decode cL_isClosed 20 = .ok (.iaload, 1) := by decide +kernel
theorem dL_isClosed_21 : decode cL_isClosed 21 = .ok (.iload_n 2, 1) := by decide +kernel
theorem dL_isClosed_22 : decode cL_isClosed 22 = .ok (.iand, 1) := by decide +kernel
theorem dL_isClosed_23 : decode cL_isClosed 23 = .ok (.invokestatic 135, 3) := by decide +kernel
theorem dL_isClosed_26 : decode cL_isClosed 26 = .ok (.istore 6, 2) := by decide +kernel
theorem dL_isClosed_28 : decode cL_isClosed 28 = .ok (.iload_n 3, 1) := by decide +kernel
theorem dL_isClosed_29 : decode cL_isClosed 29 = .ok (.ifCond .eq 60, 3) := by decide +kernel
theorem dL_isClosed_32 : decode cL_isClosed 32 = .ok (.aload 5, 2) := by decide +kernel
theorem dL_isClosed_34 : decode cL_isClosed 34 = .ok (.iconst 0, 1) := by decide +kernel
theorem dL_isClosed_35 : decode cL_isClosed 35 = .ok (.iaload, 1) := by decide +kernel
theorem dL_isClosed_36 : decode cL_isClosed 36 = .ok (.bipush 119, 2) := by decide +kernel
theorem dL_isClosed_38 : decode cL_isClosed 38 = .ok (.if_icmp .eq 47, 3) := by decide +kernel
theorem dL_isClosed_41 : decode cL_isClosed 41 = .ok (.aload 5, 2) := by decide +kernel
theorem dL_isClosed_43 : decode cL_isClosed 43 = .ok (.iload_n 2, 1) := by decide +kernel
theorem dL_isClosed_44 : decode cL_isClosed 44 = .ok (.invokestatic 140, 3) := by decide +kernel
theorem dL_isClosed_47 : decode cL_isClosed 47 = .ok (.ifCond .eq 38, 3) := by decide +kernel
theorem dL_isClosed_50 : decode cL_isClosed 50 = .ok (.aload 5, 2) := by decide +kernel
theorem dL_isClosed_52 : decode cL_isClosed 52 = .ok (.iconst 0, 1) := by decide +kernel
theorem dL_isClosed_53 : decode cL_isClosed 53 = .ok (.iaload, 1) := by decide +kernel
theorem dL_isClosed_54 : decode cL_isClosed 54 = .ok (.bipush 100, 2) := by decide +kernel
theorem dL_isClosed_56 : decode cL_isClosed 56 = .ok (.if_icmp .ne 11, 3) := by decide +kernel
theorem dL_isClosed_59 : decode cL_isClosed 59 = .ok (.iload 6, 2) := by decide +kernel
theorem dL_isClosed_61 : decode cL_isClosed 61 = .ok (.ifCond .le 28, 3) := by decide +kernel
theorem dL_isClosed_64 : decode cL_isClosed 64 = .ok (.goto 21, 3) := by decide +kernel
theorem dL_isClosed_67 : decode cL_isClosed 67 = .ok (.iload 6, 2) := by decide +kernel
theorem dL_isClosed_69 : decode cL_isClosed 69 = .ok (.aload 5, 2) := by decide +kernel
theorem dL_isClosed_71 : decode cL_isClosed 71 = .ok (.iconst 2, 1) := by decide +kernel
theorem dL_isClosed_72 : decode cL_isClosed 72 = .ok (.iaload, 1) := by decide +kernel
theorem dL_isClosed_73 : decode cL_isClosed 73 = .ok (.if_icmp .lt 16, 3) := by decide +kernel
theorem dL_isClosed_76 : decode cL_isClosed 76 = .ok (.iload 6, 2) := by decide +kernel
theorem dL_isClosed_78 : decode cL_isClosed 78 = .ok (.aload 5, 2) := by decide +kernel
theorem dL_isClosed_80 : decode cL_isClosed 80 = .ok (.iconst 3, 1) := by decide +kernel
theorem dL_isClosed_81 : decode cL_isClosed 81 = .ok (.iaload, 1) := by decide +kernel
theorem dL_isClosed_82 : decode cL_isClosed 82 = .ok (.if_icmp .gt 7, 3) := by decide +kernel
theorem dL_isClosed_85 : decode cL_isClosed 85 = .ok (.iconst 1, 1) := by decide +kernel
theorem dL_isClosed_86 : decode cL_isClosed 86 = .ok (.goto 4, 3) := by decide +kernel
theorem dL_isClosed_89 : decode cL_isClosed 89 = .ok (.iconst 0, 1) := by decide +kernel
theorem dL_isClosed_90 : decode cL_isClosed 90 = .ok (.istore_n 3, 1) := by decide +kernel
theorem dL_isClosed_91 : decode cL_isClosed 91 = .ok (.iinc 4 1, 3) := by decide +kernel
theorem dL_isClosed_94 : decode cL_isClosed 94 = .ok (.goto (-89), 3) := by decide +kernel
theorem dL_isClosed_97 : decode cL_isClosed 97 = .ok (.iload_n 3, 1) := by decide +kernel
theorem dL_isClosed_98 : decode cL_isClosed 98 = .ok (.ireturn, 1) := by decide +kernel
def wW_k_L_isClosed (ty : Nat → ClassId) (g0 : Nat) (z9_0 : Nat) (z9_1 : Nat → Option Nat) : va_W := [(g0, .inl (ty 6, z9_0, .inr (.inr (.inr (.inr z9_1)))))]
def vs_k_L_isClosed : List Cond := .code yL_isClosed cL_isClosed 7 (some .boolean) :: ([.methodLink RL 135 yJ6_bitCount_0f7a4, .static yJ6_bitCount_0f7a4, .initialized RJ6, .methodLink RL 140 yL_isHeld, .static yL_isHeld, .initialized RL] ++ (vs_k_J6_bitCount_0f7a4 ++ (vs_k_L_isHeld)))
set_option maxRecDepth 20000 in
theorem gv_k_L_isClosed_0 : GoodIn vs_k_L_isClosed (va_wsS RL 135 yJ6_bitCount_0f7a4 vs_k_J6_bitCount_0f7a4) := goodIn_app (goodIn_sub (by decide +kernel) (by decide +kernel)) (goodIn_sub (fun _ h => List.mem_cons_of_mem _ (List.mem_append_right _ (List.mem_append_left _ h))) (by decide +kernel))
set_option maxRecDepth 20000 in
theorem gv_k_L_isClosed_1 : GoodIn vs_k_L_isClosed (va_wsS RL 140 yL_isHeld vs_k_L_isHeld) := goodIn_app (goodIn_sub (by decide +kernel) (by decide +kernel)) (goodIn_sub (fun _ h => List.mem_cons_of_mem _ (List.mem_append_right _ (List.mem_append_right _ (h)))) (by decide +kernel))
set_option maxHeartbeats 4000000 in
set_option maxRecDepth 100000 in
theorem k_L_isClosed (l : Launch) (D : va_G) (ty : Nat → ClassId) (td mi sz : Nat) (pp : pT) (g0 : Nat) (gf : Nat → Option Nat) (a1 : Int32) (a2 : Int32) (hok : pOK pp) (hrr : ∀ i : Int32, 0 ≤ i.toInt → i.toInt < a1.toInt → ∃ a, gf i.toNatClampNeg = some a ∧ a ∈ pZA pp) (TT : r_k_L_isClosed) (hTT : TT = m_k_L_isClosed pp gf a1 a2) : Met l yL_isClosed vs_k_L_isClosed { frames := 1, cells := 0, slots := 0, locals := 22 } (va_Pc [.ref g0, .int a1, .int a2] (wq_P D ty td mi ((wW_k_L_isClosed ty g0 a1.toNatClampNeg gf) ++ pw ty pp) sz)) (va_Qi (fun (r : Int32) (u : va_W) => (r = TT ∧ (TT = 0 ∨ TT = 1) ∧ (u = ((wW_k_L_isClosed ty g0 a1.toNatClampNeg gf) ++ pw ty pp)))) (wq_B D (va_A ((wW_k_L_isClosed ty g0 a1.toNatClampNeg gf) ++ pw ty pp) sz)) (va_A ((wW_k_L_isClosed ty g0 a1.toNatClampNeg gf) ++ pw ty pp) sz)) 0 0 (va_A ((wW_k_L_isClosed ty g0 a1.toNatClampNeg gf) ++ pw ty pp) sz) := by
  refine Met.ofW (cc := cL_isClosed) (maxL := 7) (ret := (some .boolean)) (by decide) rfl ?_
  intro p e s m args below meth c s₁ B hml hv
  obtain ⟨rfl, hsz, hP, hK, hD0, hE⟩ := hv
  have hx := B.exec
  have hb := B.bytes
  have hr := B.returns
  have hts := atoms_spec (ws := vs_k_L_isClosed) B.pre
  have hown : s.vm.findClass RL = some m.cls := findClass_of_methodNamed B.named
  have hlocks := B.notSynchronized
  subst hsz
  have hD := hD0.self (sz := s.heap.size)
  generalize hAe : va_A ((wW_k_L_isClosed ty g0 a1.toNatClampNeg gf) ++ pw ty pp) s.heap.size = A at hD hE ⊢
  have hA : ∀ q : Nat, s.heap.size ≤ q → A q := fun q h => by rw [← hAe]; exact Or.inr h
  have hS : va_S A s.heap s.heap [] := va_S.rf
  have hP : va_P D vwCl ((wW_k_L_isClosed ty g0 a1.toNatClampNeg gf) ++ pw ty pp) s.heap := hP
  have hl := lv_entry ([.ref g0, .int a1, .int a2]) (n := 7) (Nat.le_of_ble_eq_true rfl)
  rw [lg_entry_eq]
  generalize (lg_sl ([.ref g0, .int a1, .int a2]) ++ List.replicate (7 - (lg_sl ([.ref g0, .int a1, .int a2])).length) Slot.unset).toArray = ls at hl ⊢
  have hl : lv_has ls 7 [(0, .ref g0), (1, .int a1), (2, .int a2)] := hl
  have END : ∀ (r : Int32), TT = r → (r = 0 ∨ r = 1) → ∀ (H : Heap) (locs : List Loc), va_P D vwCl ((wW_k_L_isClosed ty g0 a1.toNatClampNeg gf) ++ pw ty pp) H → va_D A ((wW_k_L_isClosed ty g0 a1.toNatClampNeg gf) ++ pw ty pp) → va_S A s.heap H locs → ∀ (ls : Array Slot) (pc : Nat), decode cL_isClosed pc = .ok (.ireturn, 1) → W p l e (headSpec vs_k_L_isClosed { frames := 1, cells := 0, slots := 0, locals := 22 }).room s m ([.ref g0, .int a1, .int a2] : List Value).toArray below meth c H locs 0 0 (MQ below (va_Qi (fun (r : Int32) (u : va_W) => (r = TT ∧ (TT = 0 ∨ TT = 1) ∧ (u = ((wW_k_L_isClosed ty g0 a1.toNatClampNeg gf) ++ pw ty pp)))) (wq_B D A) A) ([.ref g0, .int a1, .int a2] : List Value).toArray s 0 0 A) (F0 m pc ls [.int r]) := by
    intro r hT hb01 H locs hP hD hS ls pc hd
    have hM : TT = r := hT
    exact W.zret (v := r) hx hb hr (wz_nar hb01) (fun t ht hW => ⟨⟨r, ((wW_k_L_isClosed ty g0 a1.toNatClampNeg gf) ++ pw ty pp), rfl, ⟨(by rw [hM]), (by rw [hM]; exact hb01), rfl⟩, wq_B.of ht hP hD⟩, hS.F ht⟩) hS.2.2 hd
  have hT := hTT
  rw [m_k_L_isClosed] at hT
  refine lv_iconst (v := 1) hx hb dL_isClosed_0 (by decide) ?_
  refine lv_istore_n (lv' := [(3, .int 1), (0, .ref g0), (1, .int a1), (2, .int a2)]) hx hb dL_isClosed_1 rfl hl (by decide) rfl (fun ls hl => ?_)
  refine lv_iconst (v := 0) hx hb dL_isClosed_2 (by decide) ?_
  refine lv_istore (lv' := [(4, .int 0), (3, .int 1), (0, .ref g0), (1, .int a1), (2, .int a2)]) hx hb dL_isClosed_3 hl (by decide) rfl (fun ls hl => ?_)
  have L_5 : ∀ (n_5 : Nat) (v3_5 : Int32) (v4_5 : Int32), (2147483648 - v4_5.toInt).toNat < n_5 → TT = m_k_L_isClosed_5 pp gf a1 a2 n_5 v3_5 v4_5 → 0 ≤ v4_5.toInt → v3_5 = 0 ∨ v3_5 = 1 → ∀ (H : Heap) (locs : List Loc), va_P D vwCl ((wW_k_L_isClosed ty g0 a1.toNatClampNeg gf) ++ pw ty pp) H → va_D A ((wW_k_L_isClosed ty g0 a1.toNatClampNeg gf) ++ pw ty pp) → va_S A s.heap H locs → ∀ ls : Array Slot, lv_has ls 7 [(0, .ref g0), (1, .int a1), (2, .int a2), (3, .int v3_5), (4, .int v4_5)] → W p l e (headSpec vs_k_L_isClosed { frames := 1, cells := 0, slots := 0, locals := 22 }).room s m ([.ref g0, .int a1, .int a2] : List Value).toArray below meth c H locs 0 0 (MQ below (va_Qi (fun (r : Int32) (u : va_W) => (r = TT ∧ (TT = 0 ∨ TT = 1) ∧ (u = ((wW_k_L_isClosed ty g0 a1.toNatClampNeg gf) ++ pw ty pp)))) (wq_B D A) A) ([.ref g0, .int a1, .int a2] : List Value).toArray s 0 0 A) (F0 m 5 ls []) := by
    intro n_5
    induction n_5 with
    | zero => intro v3_5 v4_5 hu; exact absurd hu (Nat.not_lt_zero _)
    | succ n_5 ih_5 =>
      intro v3_5 v4_5 hu_5 hT hn_5 hb_v3_5 H locs hP hD hS ls hl
      rw [m_k_L_isClosed_5_succ, m_k_L_isClosed_5s] at hT
      refine lv_iload hx hb dL_isClosed_5 (lv_at hl 4 rfl) ?_
      refine lv_iload_n hx hb dL_isClosed_7 rfl (lv_at hl 1 rfl) ?_
      refine lv_icmp_ge (tgt := 97) hx hb dL_isClosed_8 (by decide) (fun c_1 => ?_) (fun c_1 => ?_)
      · rw [if_pos c_1] at hT
        refine lv_iload_n hx hb dL_isClosed_97 rfl (lv_at hl 3 rfl) ?_
        exact END v3_5 hT hb_v3_5 _ _ hP hD hS _ _ dL_isClosed_98
      · rw [if_neg c_1] at hT
        refine lv_aload_n hx hb dL_isClosed_11 rfl (lv_at hl 0 rfl) ?_
        refine lv_iload hx hb dL_isClosed_12 (lv_at hl 4 rfl) ?_
        refine wq_aldA (D := D) hx hb hK hP 0 6 rfl rfl (wi_inN hn_5 (Int32.lt_iff_toInt_lt.mp (Int32.not_le.mp c_1))) dL_isClosed_14 ?_
        obtain ⟨o_14, ho_14, hmo_14⟩ := hrr v4_5 hn_5 (Int32.lt_iff_toInt_lt.mp (Int32.not_le.mp c_1))
        rw [ho_14, oE_some] at hT
        rw [ho_14]
        refine W.eq (g2 := F0 m 15 ls [.ref o_14]) rfl ?_
        refine lv_astore (lv' := [(5, .ref o_14), (0, .ref g0), (1, .int a1), (2, .int a2), (3, .int v3_5), (4, .int v4_5)]) hx hb dL_isClosed_15 hl (by decide) rfl (fun ls hl => ?_)
        refine lv_aload hx hb dL_isClosed_17 (lv_at hl 0 rfl) ?_
        refine lv_iconst (v := 1) hx hb dL_isClosed_19 (by decide) ?_
        obtain ⟨k_2, hk_2⟩ := List.getElem?_of_mem (pw_row (ty := ty) (p := pp) (L := [(g0, .inl (ty 6, a1.toNatClampNeg, .inr (.inr (.inr (.inr gf)))))]) hmo_14)
        refine va_iald (D := D) hx hb hK hP k_2 0 hk_2 rfl (vp_in_iff.mpr (by decide)) dL_isClosed_20 ?_
        refine lv_iload_n hx hb dL_isClosed_21 rfl (lv_at hl 3 rfl) ?_
        refine lv_iand hx hb dL_isClosed_22 ?_
        obtain ⟨t_23, ht_23⟩ : ∃ t, t = m_k_J6_bitCount_0f7a4 (((pI pp o_14) (1 : Int32).toNatClampNeg) &&& a2) := ⟨_, rfl⟩
        rw [lE_eq ht_23] at hT
        refine wq_iQW (wc := []) (pl := pw ty pp) (va_runS (As := [.int (((pI pp o_14) (1 : Int32).toNatClampNeg) &&& a2)]) (rest := []) ⟨hx, hb, hml, hown, hts⟩ (k_J6_bitCount_0f7a4 l D ty td mi H.size (((pI pp o_14) (1 : Int32).toNatClampNeg) &&& a2) t_23 ht_23) (va_cwS 1 hts gv_k_L_isClosed_0 rfl rfl rfl (by decide +kernel) ⟨(Nat.le_of_ble_eq_true rfl), (Nat.le_of_ble_eq_true rfl)⟩) (wm_preS (vP_left hP) (vD_left hD) hK hE hS hA [] rfl) rfl rfl hl.1 rfl (lv_room (Nat.le_of_ble_eq_true rfl)) dL_isClosed_23 ⟨(Nat.le_of_ble_eq_true rfl), (Nat.le_of_ble_eq_true rfl)⟩) hS hA hP hD [] rfl (fun _ _ h => by rcases h with ⟨-, rfl⟩; rfl) (fun r u H locs hw hP hD hS => ?_)
        obtain ⟨hr0, rfl⟩ := hw
        subst r
        have hP : va_P D vwCl ((wW_k_L_isClosed ty g0 a1.toNatClampNeg gf) ++ pw ty pp) H := hP
        have hD : va_D A ((wW_k_L_isClosed ty g0 a1.toNatClampNeg gf) ++ pw ty pp) := hD
        refine W.widen (k := 0) (n := 0) (Nat.le_of_ble_eq_true rfl) (Nat.le_of_ble_eq_true rfl) ?_
        refine lv_istore (lv' := [(6, .int t_23), (5, .ref o_14), (0, .ref g0), (1, .int a1), (2, .int a2), (3, .int v3_5), (4, .int v4_5)]) hx hb dL_isClosed_26 hl (by decide) rfl (fun ls hl => ?_)
        refine lv_iload_n hx hb dL_isClosed_28 rfl (lv_at hl 5 rfl) ?_
        have J_90 : ∀ (s0_90 : Int32), TT = m_k_L_isClosed_90 (m_k_L_isClosed_5 pp gf a1 a2 n_5) v4_5 s0_90 → s0_90 = 0 ∨ s0_90 = 1 → ∀ (H : Heap) (locs : List Loc), va_P D vwCl ((wW_k_L_isClosed ty g0 a1.toNatClampNeg gf) ++ pw ty pp) H → va_D A ((wW_k_L_isClosed ty g0 a1.toNatClampNeg gf) ++ pw ty pp) → va_S A s.heap H locs → ∀ ls : Array Slot, lv_has ls 7 [(0, .ref g0), (1, .int a1), (2, .int a2), (4, .int v4_5)] → W p l e (headSpec vs_k_L_isClosed { frames := 1, cells := 0, slots := 0, locals := 22 }).room s m ([.ref g0, .int a1, .int a2] : List Value).toArray below meth c H locs 0 0 (MQ below (va_Qi (fun (r : Int32) (u : va_W) => (r = TT ∧ (TT = 0 ∨ TT = 1) ∧ (u = ((wW_k_L_isClosed ty g0 a1.toNatClampNeg gf) ++ pw ty pp)))) (wq_B D A) A) ([.ref g0, .int a1, .int a2] : List Value).toArray s 0 0 A) (F0 m 90 ls [.int s0_90]) := by
          intro s0_90 hT hb_s0_90 H locs hP hD hS ls hl
          rw [m_k_L_isClosed_90] at hT
          refine lv_istore_n (lv' := [(3, .int s0_90), (0, .ref g0), (1, .int a1), (2, .int a2), (4, .int v4_5)]) hx hb dL_isClosed_90 rfl hl (by decide) rfl (fun ls hl => ?_)
          refine lv_iinc (v := v4_5 + 1) (lv' := [(4, .int (v4_5 + 1)), (3, .int s0_90), (0, .ref g0), (1, .int a1), (2, .int a2)]) hx hb dL_isClosed_91 hl (k := 4) rfl (by rfl) (by decide) rfl (fun ls hl => ?_)
          refine lv_goto (tgt := 5) hx hb dL_isClosed_94 (by decide) ?_
          exact ih_5 s0_90 (v4_5 + 1) (wi_up hu_5 (Int32.not_le.mp c_1)) hT (wi_inc hn_5 (Int32.not_le.mp c_1)) hb_s0_90 _ _ hP hD hS _ (lv_sub hl [2, 3, 4, 1, 0] rfl)
        have J_89 : ∀ (_ : Unit), TT = m_k_L_isClosed_89 (m_k_L_isClosed_5 pp gf a1 a2 n_5) v4_5 → ∀ (H : Heap) (locs : List Loc), va_P D vwCl ((wW_k_L_isClosed ty g0 a1.toNatClampNeg gf) ++ pw ty pp) H → va_D A ((wW_k_L_isClosed ty g0 a1.toNatClampNeg gf) ++ pw ty pp) → va_S A s.heap H locs → ∀ ls : Array Slot, lv_has ls 7 [(0, .ref g0), (1, .int a1), (2, .int a2), (4, .int v4_5)] → W p l e (headSpec vs_k_L_isClosed { frames := 1, cells := 0, slots := 0, locals := 22 }).room s m ([.ref g0, .int a1, .int a2] : List Value).toArray below meth c H locs 0 0 (MQ below (va_Qi (fun (r : Int32) (u : va_W) => (r = TT ∧ (TT = 0 ∨ TT = 1) ∧ (u = ((wW_k_L_isClosed ty g0 a1.toNatClampNeg gf) ++ pw ty pp)))) (wq_B D A) A) ([.ref g0, .int a1, .int a2] : List Value).toArray s 0 0 A) (F0 m 89 ls []) := by
          intro _ hT  H locs hP hD hS ls hl
          rw [m_k_L_isClosed_89] at hT
          refine lv_iconst (v := 0) hx hb dL_isClosed_89 (by decide) ?_
          exact J_90 0 hT (by decide) _ _ hP hD hS _ (lv_sub hl [0, 1, 2, 3] rfl)
        refine lv_if_eq (tgt := 89) hx hb dL_isClosed_29 (by decide) (fun c_5 => ?_) (fun c_5 => ?_)
        · rw [if_pos c_5] at hT
          exact J_89 () hT _ _ hP hD hS _ (lv_sub hl [2, 3, 4, 6] rfl)
        · rw [if_neg c_5] at hT
          refine lv_aload hx hb dL_isClosed_32 (lv_at hl 1 rfl) ?_
          refine lv_iconst (v := 0) hx hb dL_isClosed_34 (by decide) ?_
          obtain ⟨k_6, hk_6⟩ := List.getElem?_of_mem (pw_row (ty := ty) (p := pp) (L := [(g0, .inl (ty 6, a1.toNatClampNeg, .inr (.inr (.inr (.inr gf)))))]) hmo_14)
          refine va_iald (D := D) hx hb hK hP k_6 0 hk_6 rfl (vp_in_iff.mpr (by decide)) dL_isClosed_35 ?_
          refine lv_bipush (v := 119) hx hb dL_isClosed_36 (by decide) ?_
          have J_85 : ∀ (_ : Unit), TT = m_k_L_isClosed_85 (m_k_L_isClosed_5 pp gf a1 a2 n_5) v4_5 → ∀ (H : Heap) (locs : List Loc), va_P D vwCl ((wW_k_L_isClosed ty g0 a1.toNatClampNeg gf) ++ pw ty pp) H → va_D A ((wW_k_L_isClosed ty g0 a1.toNatClampNeg gf) ++ pw ty pp) → va_S A s.heap H locs → ∀ ls : Array Slot, lv_has ls 7 [(0, .ref g0), (1, .int a1), (2, .int a2), (4, .int v4_5)] → W p l e (headSpec vs_k_L_isClosed { frames := 1, cells := 0, slots := 0, locals := 22 }).room s m ([.ref g0, .int a1, .int a2] : List Value).toArray below meth c H locs 0 0 (MQ below (va_Qi (fun (r : Int32) (u : va_W) => (r = TT ∧ (TT = 0 ∨ TT = 1) ∧ (u = ((wW_k_L_isClosed ty g0 a1.toNatClampNeg gf) ++ pw ty pp)))) (wq_B D A) A) ([.ref g0, .int a1, .int a2] : List Value).toArray s 0 0 A) (F0 m 85 ls []) := by
            intro _ hT  H locs hP hD hS ls hl
            rw [m_k_L_isClosed_85] at hT
            refine lv_iconst (v := 1) hx hb dL_isClosed_85 (by decide) ?_
            refine lv_goto (tgt := 90) hx hb dL_isClosed_86 (by decide) ?_
            exact J_90 1 hT (by decide) _ _ hP hD hS _ (lv_sub hl [0, 1, 2, 3] rfl)
          refine lv_icmp_eq (tgt := 85) hx hb dL_isClosed_38 (by decide) (fun c_7 => ?_) (fun c_7 => ?_)
          · rw [if_pos c_7] at hT
            exact J_85 () hT _ _ hP hD hS _ (lv_sub hl [2, 3, 4, 6] rfl)
          · rw [if_neg c_7] at hT
            refine lv_aload hx hb dL_isClosed_41 (lv_at hl 1 rfl) ?_
            refine lv_iload_n hx hb dL_isClosed_43 rfl (lv_at hl 4 rfl) ?_
            obtain ⟨t_44, ht_44⟩ : ∃ t, t = m_k_L_isHeld pp o_14 a2 := ⟨_, rfl⟩
            rw [lE_eq ht_44] at hT
            refine wq_iPW (wc := []) (pl := pw ty pp) (ux := []) (va_runS (As := [.ref o_14, .int a2]) (rest := []) ⟨hx, hb, hml, hown, hts⟩ (k_L_isHeld l D ty td mi H.size pp o_14 a2 hok hmo_14 t_44 ht_44) (va_cwS 2 hts gv_k_L_isClosed_1 rfl rfl rfl (by decide +kernel) ⟨(Nat.le_of_ble_eq_true rfl), (Nat.le_of_ble_eq_true rfl)⟩) (wm_preSP hP hD hK hE hS hA [] rfl) rfl rfl hl.1 rfl (lv_room (Nat.le_of_ble_eq_true rfl)) dL_isClosed_44 ⟨(Nat.le_of_ble_eq_true rfl), (Nat.le_of_ble_eq_true rfl)⟩) hS hA hP hD [] rfl rfl (fun _ _ h => h.2.2) (fun r H locs hw hP hD hS => ?_)
            obtain ⟨hr0, c_10, -⟩ := hw
            subst r
            have hP : va_P D vwCl ((wW_k_L_isClosed ty g0 a1.toNatClampNeg gf) ++ pw ty pp) H := hP
            have hD : va_D A ((wW_k_L_isClosed ty g0 a1.toNatClampNeg gf) ++ pw ty pp) := hD
            refine W.widen (k := 0) (n := 0) (Nat.le_of_ble_eq_true rfl) (Nat.le_of_ble_eq_true rfl) ?_
            refine lv_if_eq (tgt := 85) hx hb dL_isClosed_47 (by decide) (fun c_11 => ?_) (fun c_11 => ?_)
            · rw [if_pos c_11] at hT
              exact J_85 () hT _ _ hP hD hS _ (lv_sub hl [2, 3, 4, 6] rfl)
            · rw [if_neg c_11] at hT
              refine lv_aload hx hb dL_isClosed_50 (lv_at hl 1 rfl) ?_
              refine lv_iconst (v := 0) hx hb dL_isClosed_52 (by decide) ?_
              obtain ⟨k_12, hk_12⟩ := List.getElem?_of_mem (pw_row (ty := ty) (p := pp) (L := [(g0, .inl (ty 6, a1.toNatClampNeg, .inr (.inr (.inr (.inr gf)))))]) hmo_14)
              refine va_iald (D := D) hx hb hK hP k_12 0 hk_12 rfl (vp_in_iff.mpr (by decide)) dL_isClosed_53 ?_
              refine lv_bipush (v := 100) hx hb dL_isClosed_54 (by decide) ?_
              refine lv_icmp_ne (tgt := 67) hx hb dL_isClosed_56 (by decide) (fun c_13 => ?_) (fun c_13 => ?_)
              · rw [if_neg c_13] at hT
                refine lv_iload hx hb dL_isClosed_67 (lv_at hl 0 rfl) ?_
                refine lv_aload hx hb dL_isClosed_69 (lv_at hl 1 rfl) ?_
                refine lv_iconst (v := 2) hx hb dL_isClosed_71 (by decide) ?_
                obtain ⟨k_14, hk_14⟩ := List.getElem?_of_mem (pw_row (ty := ty) (p := pp) (L := [(g0, .inl (ty 6, a1.toNatClampNeg, .inr (.inr (.inr (.inr gf)))))]) hmo_14)
                refine va_iald (D := D) hx hb hK hP k_14 0 hk_14 rfl (vp_in_iff.mpr (by decide)) dL_isClosed_72 ?_
                refine lv_icmp_lt (tgt := 89) hx hb dL_isClosed_73 (by decide) (fun c_15 => ?_) (fun c_15 => ?_)
                · rw [if_pos c_15] at hT
                  exact J_89 () hT _ _ hP hD hS _ (lv_sub hl [2, 3, 4, 6] rfl)
                · rw [if_neg c_15] at hT
                  refine lv_iload hx hb dL_isClosed_76 (lv_at hl 0 rfl) ?_
                  refine lv_aload hx hb dL_isClosed_78 (lv_at hl 1 rfl) ?_
                  refine lv_iconst (v := 3) hx hb dL_isClosed_80 (by decide) ?_
                  obtain ⟨k_16, hk_16⟩ := List.getElem?_of_mem (pw_row (ty := ty) (p := pp) (L := [(g0, .inl (ty 6, a1.toNatClampNeg, .inr (.inr (.inr (.inr gf)))))]) hmo_14)
                  refine va_iald (D := D) hx hb hK hP k_16 0 hk_16 rfl (vp_in_iff.mpr (by decide)) dL_isClosed_81 ?_
                  refine lv_icmp_gt (tgt := 89) hx hb dL_isClosed_82 (by decide) (fun c_17 => ?_) (fun c_17 => ?_)
                  · rw [if_pos c_17] at hT
                    exact J_89 () hT _ _ hP hD hS _ (lv_sub hl [2, 3, 4, 6] rfl)
                  · rw [if_neg c_17] at hT
                    exact J_85 () hT _ _ hP hD hS _ (lv_sub hl [2, 3, 4, 6] rfl)
              · rw [if_pos c_13] at hT
                refine lv_iload hx hb dL_isClosed_59 (lv_at hl 0 rfl) ?_
                refine lv_if_le (tgt := 89) hx hb dL_isClosed_61 (by decide) (fun c_18 => ?_) (fun c_18 => ?_)
                · rw [if_pos c_18] at hT
                  exact J_89 () hT _ _ hP hD hS _ (lv_sub hl [2, 3, 4, 6] rfl)
                · rw [if_neg c_18] at hT
                  refine lv_goto (tgt := 85) hx hb dL_isClosed_64 (by decide) ?_
                  exact J_85 () hT _ _ hP hD hS _ (lv_sub hl [2, 3, 4, 6] rfl)
  exact L_5 wF 1 0 (wF_up 0) hT (by decide) (by decide) _ _ hP hD hS _ (lv_sub hl [2, 3, 4, 1, 0] rfl)
theorem dL_isEnough_0 : decode cL_isEnough 0 = .ok (.iconst 1, 1) := by decide +kernel
theorem dL_isEnough_1 : decode cL_isEnough 1 = .ok (.istore 4, 2) := by decide +kernel
theorem dL_isEnough_3 : decode cL_isEnough 3 = .ok (.iconst 0, 1) := by decide +kernel
theorem dL_isEnough_4 : decode cL_isEnough 4 = .ok (.istore 5, 2) := by decide +kernel
theorem dL_isEnough_6 : decode cL_isEnough 6 = .ok (.iload 5, 2) := by decide +kernel
theorem dL_isEnough_8 : decode cL_isEnough 8 = .ok (.iload_n 1, 1) := by decide +kernel
theorem dL_isEnough_9 : decode cL_isEnough 9 = .ok (.if_icmp .ge 100, 3) := by decide +kernel
theorem dL_isEnough_12 : decode cL_isEnough 12 = .ok (.aload_n 0, 1) := by decide +kernel
theorem dL_isEnough_13 : decode cL_isEnough 13 = .ok (.iload 5, 2) := by decide +kernel
theorem dL_isEnough_15 : decode cL_isEnough 15 = .ok (.aaload, 1) := by decide +kernel
theorem dL_isEnough_16 : decode cL_isEnough 16 = .ok (.astore 6, 2) := by decide +kernel
theorem dL_isEnough_18 : decode cL_isEnough 18 = .ok (.aload 6, 2) := by decide +kernel
theorem dL_isEnough_20 : decode cL_isEnough 20 = .ok (.iconst 0, 1) := by decide +kernel
theorem dL_isEnough_21 : decode cL_isEnough 21 = .ok (.iaload, 1) := by decide +kernel
theorem dL_isEnough_22 : decode cL_isEnough 22 = .ok (.bipush 119, 2) := by decide +kernel
theorem dL_isEnough_24 : decode cL_isEnough 24 = .ok (.if_icmp .eq 25, 3) := by decide +kernel
theorem dL_isEnough_27 : decode cL_isEnough 27 = .ok (.aload 6, 2) := by decide +kernel
theorem dL_isEnough_29 : decode cL_isEnough 29 = .ok (.iload_n 2, 1) := by decide +kernel
theorem dL_isEnough_30 : decode cL_isEnough 30 = .ok (.invokestatic 140, 3) := by decide +kernel
theorem dL_isEnough_33 : decode cL_isEnough 33 = .ok (.ifCond .eq 16, 3) := by decide +kernel
theorem dL_isEnough_36 : decode cL_isEnough 36 = .ok (.aload 6, 2) := by decide +kernel
theorem dL_isEnough_38 : decode cL_isEnough 38 = .ok (.iload_n 3, 1) := by decide +kernel
theorem dL_isEnough_39 : decode cL_isEnough 39 = .ok (.invokestatic 140, 3) := by decide +kernel
theorem dL_isEnough_42 : decode cL_isEnough 42 = .ok (.ifCond .eq 7, 3) := by decide +kernel
theorem dL_isEnough_45 : decode cL_isEnough 45 = .ok (.iconst 1, 1) := by decide +kernel
theorem dL_isEnough_46 : decode cL_isEnough 46 = .ok (.goto 4, 3) := by decide +kernel
theorem dL_isEnough_49 : decode cL_isEnough 49 = .ok (.iconst 0, 1) := by decide +kernel
theorem dL_isEnough_50 : decode cL_isEnough 50 = .ok (.istore 7, 2) := by decide +kernel
theorem dL_isEnough_52 : decode cL_isEnough 52 = .ok (.iload 4, 2) := by decide +kernel
theorem dL_isEnough_54 : decode cL_isEnough 54 = .ok (.ifCond .eq 46, 3) := by decide +kernel
theorem dL_isEnough_57 : decode cL_isEnough 57 = .ok (.iload 7, 2) := by decide +kernel
theorem dL_isEnough_59 : decode cL_isEnough 59 = .ok (.ifCond .eq 37, 3) := by decide +kernel
theorem dL_isEnough_62 : decode cL_isEnough 62 = .ok (.aload 6, 2) := by decide +kernel
theorem dL_isEnough_64 : decode cL_isEnough 64 = .ok (.iconst 0, 1) := by decide +kernel
theorem dL_isEnough_65 : decode cL_isEnough 65 = .ok (.iaload, 1) := by decide +kernel
theorem dL_isEnough_66 : decode cL_isEnough 66 = .ok (.bipush 100, 2) := by decide +kernel
theorem dL_isEnough_68 : decode cL_isEnough 68 = .ok (.if_icmp .ne 15, 3) := by decide +kernel
theorem dL_isEnough_71 : decode cL_isEnough 71 = .ok (.aload 6, 2) := by decide +kernel
theorem dL_isEnough_73 : decode cL_isEnough 73 = .ok (.iconst 1, 1) := by decide +kernel
theorem dL_isEnough_74 : decode cL_isEnough 74 = .ok (.iaload, 1) := by decide +kernel
theorem dL_isEnough_75 : decode cL_isEnough 75 = .ok (.iload_n 3, 1) := by decide +kernel
theorem dL_isEnough_76 : decode cL_isEnough 76 = .ok (.iand, 1) := by decide +kernel
theorem dL_isEnough_77 : decode cL_isEnough 77 = .ok (.ifCond .eq 23, 3) := by decide +kernel
theorem dL_isEnough_80 : decode cL_isEnough 80 = .ok (.goto 16, 3) := by decide +kernel
theorem dL_isEnough_83 : decode cL_isEnough 83 = .ok (.aload 6, 2) := by decide +kernel
theorem dL_isEnough_85 : decode cL_isEnough 85 = .ok (.iconst 1, 1) := by decide +kernel
theorem dL_isEnough_86 : decode cL_isEnough 86 = .ok (.iaload, 1) := by decide +kernel
theorem dL_isEnough_87 : decode cL_isEnough 87 = .ok (.iload_n 2, 1) := by decide +kernel
theorem dL_isEnough_88 : decode cL_isEnough 88 = .ok (.iand, 1) := by decide +kernel
theorem dL_isEnough_89 : decode cL_isEnough 89 = .ok (.iload_n 3, 1) := by decide +kernel
theorem dL_isEnough_90 : decode cL_isEnough 90 = .ok (.iconst (-1), 1) := by decide +kernel
theorem dL_isEnough_91 : decode cL_isEnough 91 = .ok (.ixor, 1) := by decide +kernel
theorem dL_isEnough_92 : decode cL_isEnough 92 = .ok (.iand, 1) := by decide +kernel
theorem dL_isEnough_93 : decode cL_isEnough 93 = .ok (.ifCond .ne 7, 3) := by decide +kernel
theorem dL_isEnough_96 : decode cL_isEnough 96 = .ok (.iconst 1, 1) := by decide +kernel
theorem dL_isEnough_97 : decode cL_isEnough 97 = .ok (.goto 4, 3) := by decide +kernel
theorem dL_isEnough_100 : decode cL_isEnough 100 = .ok (.iconst 0, 1) := by decide +kernel
theorem dL_isEnough_101 : decode cL_isEnough 101 = .ok (.istore 4, 2) := by decide +kernel
theorem dL_isEnough_103 : decode cL_isEnough 103 = .ok (.iinc 5 1, 3) := by decide +kernel
theorem dL_isEnough_106 : decode cL_isEnough 106 = .ok (.goto (-100), 3) := by decide +kernel
theorem dL_isEnough_109 : decode cL_isEnough 109 = .ok (.iload 4, 2) := by decide +kernel
theorem dL_isEnough_111 : decode cL_isEnough 111 = .ok (.ireturn, 1) := by decide +kernel
def wW_k_L_isEnough (ty : Nat → ClassId) (g0 : Nat) (z9_0 : Nat) (z9_1 : Nat → Option Nat) : va_W := [(g0, .inl (ty 6, z9_0, .inr (.inr (.inr (.inr z9_1)))))]
def vs_k_L_isEnough : List Cond := .code yL_isEnough cL_isEnough 8 (some .boolean) :: ([.methodLink RL 140 yL_isHeld, .static yL_isHeld, .initialized RL] ++ (vs_k_L_isHeld))
set_option maxRecDepth 20000 in
theorem gv_k_L_isEnough_0 : GoodIn vs_k_L_isEnough (va_wsS RL 140 yL_isHeld vs_k_L_isHeld) := goodIn_app (goodIn_sub (by decide +kernel) (by decide +kernel)) (goodIn_sub (fun _ h => List.mem_cons_of_mem _ (List.mem_append_right _ (h))) (by decide +kernel))
set_option maxRecDepth 20000 in
theorem gv_k_L_isEnough_1 : GoodIn vs_k_L_isEnough (va_wsS RL 140 yL_isHeld vs_k_L_isHeld) := goodIn_app (goodIn_sub (by decide +kernel) (by decide +kernel)) (goodIn_sub (fun _ h => List.mem_cons_of_mem _ (List.mem_append_right _ (h))) (by decide +kernel))
set_option maxHeartbeats 4000000 in
set_option maxRecDepth 100000 in
theorem k_L_isEnough (l : Launch) (D : va_G) (ty : Nat → ClassId) (td mi sz : Nat) (pp : pT) (g0 : Nat) (gf : Nat → Option Nat) (a1 : Int32) (a2 : Int32) (a3 : Int32) (hok : pOK pp) (hrr : ∀ i : Int32, 0 ≤ i.toInt → i.toInt < a1.toInt → ∃ a, gf i.toNatClampNeg = some a ∧ a ∈ pZA pp) (TT : r_k_L_isEnough) (hTT : TT = m_k_L_isEnough pp gf a1 a2 a3) : Met l yL_isEnough vs_k_L_isEnough { frames := 1, cells := 0, slots := 0, locals := 22 } (va_Pc [.ref g0, .int a1, .int a2, .int a3] (wq_P D ty td mi ((wW_k_L_isEnough ty g0 a1.toNatClampNeg gf) ++ pw ty pp) sz)) (va_Qi (fun (r : Int32) (u : va_W) => (r = TT ∧ (TT = 0 ∨ TT = 1) ∧ (u = ((wW_k_L_isEnough ty g0 a1.toNatClampNeg gf) ++ pw ty pp)))) (wq_B D (va_A ((wW_k_L_isEnough ty g0 a1.toNatClampNeg gf) ++ pw ty pp) sz)) (va_A ((wW_k_L_isEnough ty g0 a1.toNatClampNeg gf) ++ pw ty pp) sz)) 0 0 (va_A ((wW_k_L_isEnough ty g0 a1.toNatClampNeg gf) ++ pw ty pp) sz) := by
  refine Met.ofW (cc := cL_isEnough) (maxL := 8) (ret := (some .boolean)) (by decide) rfl ?_
  intro p e s m args below meth c s₁ B hml hv
  obtain ⟨rfl, hsz, hP, hK, hD0, hE⟩ := hv
  have hx := B.exec
  have hb := B.bytes
  have hr := B.returns
  have hts := atoms_spec (ws := vs_k_L_isEnough) B.pre
  have hown : s.vm.findClass RL = some m.cls := findClass_of_methodNamed B.named
  have hlocks := B.notSynchronized
  subst hsz
  have hD := hD0.self (sz := s.heap.size)
  generalize hAe : va_A ((wW_k_L_isEnough ty g0 a1.toNatClampNeg gf) ++ pw ty pp) s.heap.size = A at hD hE ⊢
  have hA : ∀ q : Nat, s.heap.size ≤ q → A q := fun q h => by rw [← hAe]; exact Or.inr h
  have hS : va_S A s.heap s.heap [] := va_S.rf
  have hP : va_P D vwCl ((wW_k_L_isEnough ty g0 a1.toNatClampNeg gf) ++ pw ty pp) s.heap := hP
  have hl := lv_entry ([.ref g0, .int a1, .int a2, .int a3]) (n := 8) (Nat.le_of_ble_eq_true rfl)
  rw [lg_entry_eq]
  generalize (lg_sl ([.ref g0, .int a1, .int a2, .int a3]) ++ List.replicate (8 - (lg_sl ([.ref g0, .int a1, .int a2, .int a3])).length) Slot.unset).toArray = ls at hl ⊢
  have hl : lv_has ls 8 [(0, .ref g0), (1, .int a1), (2, .int a2), (3, .int a3)] := hl
  have END : ∀ (r : Int32), TT = r → (r = 0 ∨ r = 1) → ∀ (H : Heap) (locs : List Loc), va_P D vwCl ((wW_k_L_isEnough ty g0 a1.toNatClampNeg gf) ++ pw ty pp) H → va_D A ((wW_k_L_isEnough ty g0 a1.toNatClampNeg gf) ++ pw ty pp) → va_S A s.heap H locs → ∀ (ls : Array Slot) (pc : Nat), decode cL_isEnough pc = .ok (.ireturn, 1) → W p l e (headSpec vs_k_L_isEnough { frames := 1, cells := 0, slots := 0, locals := 22 }).room s m ([.ref g0, .int a1, .int a2, .int a3] : List Value).toArray below meth c H locs 0 0 (MQ below (va_Qi (fun (r : Int32) (u : va_W) => (r = TT ∧ (TT = 0 ∨ TT = 1) ∧ (u = ((wW_k_L_isEnough ty g0 a1.toNatClampNeg gf) ++ pw ty pp)))) (wq_B D A) A) ([.ref g0, .int a1, .int a2, .int a3] : List Value).toArray s 0 0 A) (F0 m pc ls [.int r]) := by
    intro r hT hb01 H locs hP hD hS ls pc hd
    have hM : TT = r := hT
    exact W.zret (v := r) hx hb hr (wz_nar hb01) (fun t ht hW => ⟨⟨r, ((wW_k_L_isEnough ty g0 a1.toNatClampNeg gf) ++ pw ty pp), rfl, ⟨(by rw [hM]), (by rw [hM]; exact hb01), rfl⟩, wq_B.of ht hP hD⟩, hS.F ht⟩) hS.2.2 hd
  have hT := hTT
  rw [m_k_L_isEnough] at hT
  refine lv_iconst (v := 1) hx hb dL_isEnough_0 (by decide) ?_
  refine lv_istore (lv' := [(4, .int 1), (0, .ref g0), (1, .int a1), (2, .int a2), (3, .int a3)]) hx hb dL_isEnough_1 hl (by decide) rfl (fun ls hl => ?_)
  refine lv_iconst (v := 0) hx hb dL_isEnough_3 (by decide) ?_
  refine lv_istore (lv' := [(5, .int 0), (4, .int 1), (0, .ref g0), (1, .int a1), (2, .int a2), (3, .int a3)]) hx hb dL_isEnough_4 hl (by decide) rfl (fun ls hl => ?_)
  have L_6 : ∀ (n_6 : Nat) (v4_6 : Int32) (v5_6 : Int32), (2147483648 - v5_6.toInt).toNat < n_6 → TT = m_k_L_isEnough_6 pp gf a1 a2 a3 n_6 v4_6 v5_6 → 0 ≤ v5_6.toInt → v4_6 = 0 ∨ v4_6 = 1 → ∀ (H : Heap) (locs : List Loc), va_P D vwCl ((wW_k_L_isEnough ty g0 a1.toNatClampNeg gf) ++ pw ty pp) H → va_D A ((wW_k_L_isEnough ty g0 a1.toNatClampNeg gf) ++ pw ty pp) → va_S A s.heap H locs → ∀ ls : Array Slot, lv_has ls 8 [(0, .ref g0), (1, .int a1), (2, .int a2), (3, .int a3), (4, .int v4_6), (5, .int v5_6)] → W p l e (headSpec vs_k_L_isEnough { frames := 1, cells := 0, slots := 0, locals := 22 }).room s m ([.ref g0, .int a1, .int a2, .int a3] : List Value).toArray below meth c H locs 0 0 (MQ below (va_Qi (fun (r : Int32) (u : va_W) => (r = TT ∧ (TT = 0 ∨ TT = 1) ∧ (u = ((wW_k_L_isEnough ty g0 a1.toNatClampNeg gf) ++ pw ty pp)))) (wq_B D A) A) ([.ref g0, .int a1, .int a2, .int a3] : List Value).toArray s 0 0 A) (F0 m 6 ls []) := by
    intro n_6
    induction n_6 with
    | zero => intro v4_6 v5_6 hu; exact absurd hu (Nat.not_lt_zero _)
    | succ n_6 ih_6 =>
      intro v4_6 v5_6 hu_6 hT hn_6 hb_v4_6 H locs hP hD hS ls hl
      rw [m_k_L_isEnough_6_succ, m_k_L_isEnough_6s] at hT
      refine lv_iload hx hb dL_isEnough_6 (lv_at hl 5 rfl) ?_
      refine lv_iload_n hx hb dL_isEnough_8 rfl (lv_at hl 1 rfl) ?_
      refine lv_icmp_ge (tgt := 109) hx hb dL_isEnough_9 (by decide) (fun c_1 => ?_) (fun c_1 => ?_)
      · rw [if_pos c_1] at hT
        refine lv_iload hx hb dL_isEnough_109 (lv_at hl 4 rfl) ?_
        exact END v4_6 hT hb_v4_6 _ _ hP hD hS _ _ dL_isEnough_111
      · rw [if_neg c_1] at hT
        refine lv_aload_n hx hb dL_isEnough_12 rfl (lv_at hl 0 rfl) ?_
        refine lv_iload hx hb dL_isEnough_13 (lv_at hl 5 rfl) ?_
        refine wq_aldA (D := D) hx hb hK hP 0 6 rfl rfl (wi_inN hn_6 (Int32.lt_iff_toInt_lt.mp (Int32.not_le.mp c_1))) dL_isEnough_15 ?_
        obtain ⟨o_15, ho_15, hmo_15⟩ := hrr v5_6 hn_6 (Int32.lt_iff_toInt_lt.mp (Int32.not_le.mp c_1))
        rw [ho_15, oE_some] at hT
        rw [ho_15]
        refine W.eq (g2 := F0 m 16 ls [.ref o_15]) rfl ?_
        refine lv_astore (lv' := [(6, .ref o_15), (0, .ref g0), (1, .int a1), (2, .int a2), (3, .int a3), (4, .int v4_6), (5, .int v5_6)]) hx hb dL_isEnough_16 hl (by decide) rfl (fun ls hl => ?_)
        refine lv_aload hx hb dL_isEnough_18 (lv_at hl 0 rfl) ?_
        refine lv_iconst (v := 0) hx hb dL_isEnough_20 (by decide) ?_
        obtain ⟨k_2, hk_2⟩ := List.getElem?_of_mem (pw_row (ty := ty) (p := pp) (L := [(g0, .inl (ty 6, a1.toNatClampNeg, .inr (.inr (.inr (.inr gf)))))]) hmo_15)
        refine va_iald (D := D) hx hb hK hP k_2 0 hk_2 rfl (vp_in_iff.mpr (by decide)) dL_isEnough_21 ?_
        refine lv_bipush (v := 119) hx hb dL_isEnough_22 (by decide) ?_
        have J_50 : ∀ (s0_50 : Int32), TT = m_k_L_isEnough_50 pp a2 a3 o_15 (m_k_L_isEnough_6 pp gf a1 a2 a3 n_6) v4_6 v5_6 s0_50 → s0_50 = 0 ∨ s0_50 = 1 → ∀ (H : Heap) (locs : List Loc), va_P D vwCl ((wW_k_L_isEnough ty g0 a1.toNatClampNeg gf) ++ pw ty pp) H → va_D A ((wW_k_L_isEnough ty g0 a1.toNatClampNeg gf) ++ pw ty pp) → va_S A s.heap H locs → ∀ ls : Array Slot, lv_has ls 8 [(0, .ref g0), (1, .int a1), (2, .int a2), (3, .int a3), (4, .int v4_6), (5, .int v5_6), (6, .ref o_15)] → W p l e (headSpec vs_k_L_isEnough { frames := 1, cells := 0, slots := 0, locals := 22 }).room s m ([.ref g0, .int a1, .int a2, .int a3] : List Value).toArray below meth c H locs 0 0 (MQ below (va_Qi (fun (r : Int32) (u : va_W) => (r = TT ∧ (TT = 0 ∨ TT = 1) ∧ (u = ((wW_k_L_isEnough ty g0 a1.toNatClampNeg gf) ++ pw ty pp)))) (wq_B D A) A) ([.ref g0, .int a1, .int a2, .int a3] : List Value).toArray s 0 0 A) (F0 m 50 ls [.int s0_50]) := by
          intro s0_50 hT hb_s0_50 H locs hP hD hS ls hl
          rw [m_k_L_isEnough_50] at hT
          refine lv_istore (lv' := [(7, .int s0_50), (0, .ref g0), (1, .int a1), (2, .int a2), (3, .int a3), (4, .int v4_6), (5, .int v5_6), (6, .ref o_15)]) hx hb dL_isEnough_50 hl (by decide) rfl (fun ls hl => ?_)
          refine lv_iload hx hb dL_isEnough_52 (lv_at hl 5 rfl) ?_
          have J_101 : ∀ (s0_101 : Int32), TT = m_k_L_isEnough_101 (m_k_L_isEnough_6 pp gf a1 a2 a3 n_6) v5_6 s0_101 → s0_101 = 0 ∨ s0_101 = 1 → ∀ (H : Heap) (locs : List Loc), va_P D vwCl ((wW_k_L_isEnough ty g0 a1.toNatClampNeg gf) ++ pw ty pp) H → va_D A ((wW_k_L_isEnough ty g0 a1.toNatClampNeg gf) ++ pw ty pp) → va_S A s.heap H locs → ∀ ls : Array Slot, lv_has ls 8 [(0, .ref g0), (1, .int a1), (2, .int a2), (3, .int a3), (5, .int v5_6)] → W p l e (headSpec vs_k_L_isEnough { frames := 1, cells := 0, slots := 0, locals := 22 }).room s m ([.ref g0, .int a1, .int a2, .int a3] : List Value).toArray below meth c H locs 0 0 (MQ below (va_Qi (fun (r : Int32) (u : va_W) => (r = TT ∧ (TT = 0 ∨ TT = 1) ∧ (u = ((wW_k_L_isEnough ty g0 a1.toNatClampNeg gf) ++ pw ty pp)))) (wq_B D A) A) ([.ref g0, .int a1, .int a2, .int a3] : List Value).toArray s 0 0 A) (F0 m 101 ls [.int s0_101]) := by
            intro s0_101 hT hb_s0_101 H locs hP hD hS ls hl
            rw [m_k_L_isEnough_101] at hT
            refine lv_istore (lv' := [(4, .int s0_101), (0, .ref g0), (1, .int a1), (2, .int a2), (3, .int a3), (5, .int v5_6)]) hx hb dL_isEnough_101 hl (by decide) rfl (fun ls hl => ?_)
            refine lv_iinc (v := v5_6 + 1) (lv' := [(5, .int (v5_6 + 1)), (4, .int s0_101), (0, .ref g0), (1, .int a1), (2, .int a2), (3, .int a3)]) hx hb dL_isEnough_103 hl (k := 5) rfl (by rfl) (by decide) rfl (fun ls hl => ?_)
            refine lv_goto (tgt := 6) hx hb dL_isEnough_106 (by decide) ?_
            exact ih_6 s0_101 (v5_6 + 1) (wi_up hu_6 (Int32.not_le.mp c_1)) hT (wi_inc hn_6 (Int32.not_le.mp c_1)) hb_s0_101 _ _ hP hD hS _ (lv_sub hl [2, 3, 4, 5, 1, 0] rfl)
          have J_100 : ∀ (_ : Unit), TT = m_k_L_isEnough_100 (m_k_L_isEnough_6 pp gf a1 a2 a3 n_6) v5_6 → ∀ (H : Heap) (locs : List Loc), va_P D vwCl ((wW_k_L_isEnough ty g0 a1.toNatClampNeg gf) ++ pw ty pp) H → va_D A ((wW_k_L_isEnough ty g0 a1.toNatClampNeg gf) ++ pw ty pp) → va_S A s.heap H locs → ∀ ls : Array Slot, lv_has ls 8 [(0, .ref g0), (1, .int a1), (2, .int a2), (3, .int a3), (5, .int v5_6)] → W p l e (headSpec vs_k_L_isEnough { frames := 1, cells := 0, slots := 0, locals := 22 }).room s m ([.ref g0, .int a1, .int a2, .int a3] : List Value).toArray below meth c H locs 0 0 (MQ below (va_Qi (fun (r : Int32) (u : va_W) => (r = TT ∧ (TT = 0 ∨ TT = 1) ∧ (u = ((wW_k_L_isEnough ty g0 a1.toNatClampNeg gf) ++ pw ty pp)))) (wq_B D A) A) ([.ref g0, .int a1, .int a2, .int a3] : List Value).toArray s 0 0 A) (F0 m 100 ls []) := by
            intro _ hT  H locs hP hD hS ls hl
            rw [m_k_L_isEnough_100] at hT
            refine lv_iconst (v := 0) hx hb dL_isEnough_100 (by decide) ?_
            exact J_101 0 hT (by decide) _ _ hP hD hS _ (lv_sub hl [0, 1, 2, 3, 4] rfl)
          refine lv_if_eq (tgt := 100) hx hb dL_isEnough_54 (by decide) (fun c_3 => ?_) (fun c_3 => ?_)
          · rw [if_pos c_3] at hT
            exact J_100 () hT _ _ hP hD hS _ (lv_sub hl [1, 2, 3, 4, 6] rfl)
          · rw [if_neg c_3] at hT
            refine lv_iload hx hb dL_isEnough_57 (lv_at hl 0 rfl) ?_
            have J_96 : ∀ (_ : Unit), TT = m_k_L_isEnough_96 (m_k_L_isEnough_6 pp gf a1 a2 a3 n_6) v5_6 → ∀ (H : Heap) (locs : List Loc), va_P D vwCl ((wW_k_L_isEnough ty g0 a1.toNatClampNeg gf) ++ pw ty pp) H → va_D A ((wW_k_L_isEnough ty g0 a1.toNatClampNeg gf) ++ pw ty pp) → va_S A s.heap H locs → ∀ ls : Array Slot, lv_has ls 8 [(0, .ref g0), (1, .int a1), (2, .int a2), (3, .int a3), (5, .int v5_6)] → W p l e (headSpec vs_k_L_isEnough { frames := 1, cells := 0, slots := 0, locals := 22 }).room s m ([.ref g0, .int a1, .int a2, .int a3] : List Value).toArray below meth c H locs 0 0 (MQ below (va_Qi (fun (r : Int32) (u : va_W) => (r = TT ∧ (TT = 0 ∨ TT = 1) ∧ (u = ((wW_k_L_isEnough ty g0 a1.toNatClampNeg gf) ++ pw ty pp)))) (wq_B D A) A) ([.ref g0, .int a1, .int a2, .int a3] : List Value).toArray s 0 0 A) (F0 m 96 ls []) := by
              intro _ hT  H locs hP hD hS ls hl
              rw [m_k_L_isEnough_96] at hT
              refine lv_iconst (v := 1) hx hb dL_isEnough_96 (by decide) ?_
              refine lv_goto (tgt := 101) hx hb dL_isEnough_97 (by decide) ?_
              exact J_101 1 hT (by decide) _ _ hP hD hS _ (lv_sub hl [0, 1, 2, 3, 4] rfl)
            refine lv_if_eq (tgt := 96) hx hb dL_isEnough_59 (by decide) (fun c_4 => ?_) (fun c_4 => ?_)
            · rw [if_pos c_4] at hT
              exact J_96 () hT _ _ hP hD hS _ (lv_sub hl [1, 2, 3, 4, 6] rfl)
            · rw [if_neg c_4] at hT
              refine lv_aload hx hb dL_isEnough_62 (lv_at hl 7 rfl) ?_
              refine lv_iconst (v := 0) hx hb dL_isEnough_64 (by decide) ?_
              obtain ⟨k_5, hk_5⟩ := List.getElem?_of_mem (pw_row (ty := ty) (p := pp) (L := [(g0, .inl (ty 6, a1.toNatClampNeg, .inr (.inr (.inr (.inr gf)))))]) hmo_15)
              refine va_iald (D := D) hx hb hK hP k_5 0 hk_5 rfl (vp_in_iff.mpr (by decide)) dL_isEnough_65 ?_
              refine lv_bipush (v := 100) hx hb dL_isEnough_66 (by decide) ?_
              refine lv_icmp_ne (tgt := 83) hx hb dL_isEnough_68 (by decide) (fun c_6 => ?_) (fun c_6 => ?_)
              · rw [if_neg c_6] at hT
                refine lv_aload hx hb dL_isEnough_83 (lv_at hl 7 rfl) ?_
                refine lv_iconst (v := 1) hx hb dL_isEnough_85 (by decide) ?_
                obtain ⟨k_7, hk_7⟩ := List.getElem?_of_mem (pw_row (ty := ty) (p := pp) (L := [(g0, .inl (ty 6, a1.toNatClampNeg, .inr (.inr (.inr (.inr gf)))))]) hmo_15)
                refine va_iald (D := D) hx hb hK hP k_7 0 hk_7 rfl (vp_in_iff.mpr (by decide)) dL_isEnough_86 ?_
                refine lv_iload_n hx hb dL_isEnough_87 rfl (lv_at hl 3 rfl) ?_
                refine lv_iand hx hb dL_isEnough_88 ?_
                refine lv_iload_n hx hb dL_isEnough_89 rfl (lv_at hl 4 rfl) ?_
                refine lv_iconst (v := (-1)) hx hb dL_isEnough_90 (by decide) ?_
                refine lv_ixor hx hb dL_isEnough_91 ?_
                refine lv_iand hx hb dL_isEnough_92 ?_
                refine lv_if_ne (tgt := 100) hx hb dL_isEnough_93 (by decide) (fun c_8 => ?_) (fun c_8 => ?_)
                · rw [if_neg c_8] at hT
                  exact J_100 () hT _ _ hP hD hS _ (lv_sub hl [1, 2, 3, 4, 6] rfl)
                · rw [if_pos c_8] at hT
                  exact J_96 () hT _ _ hP hD hS _ (lv_sub hl [1, 2, 3, 4, 6] rfl)
              · rw [if_pos c_6] at hT
                refine lv_aload hx hb dL_isEnough_71 (lv_at hl 7 rfl) ?_
                refine lv_iconst (v := 1) hx hb dL_isEnough_73 (by decide) ?_
                obtain ⟨k_9, hk_9⟩ := List.getElem?_of_mem (pw_row (ty := ty) (p := pp) (L := [(g0, .inl (ty 6, a1.toNatClampNeg, .inr (.inr (.inr (.inr gf)))))]) hmo_15)
                refine va_iald (D := D) hx hb hK hP k_9 0 hk_9 rfl (vp_in_iff.mpr (by decide)) dL_isEnough_74 ?_
                refine lv_iload_n hx hb dL_isEnough_75 rfl (lv_at hl 4 rfl) ?_
                refine lv_iand hx hb dL_isEnough_76 ?_
                refine lv_if_eq (tgt := 100) hx hb dL_isEnough_77 (by decide) (fun c_10 => ?_) (fun c_10 => ?_)
                · rw [if_pos c_10] at hT
                  exact J_100 () hT _ _ hP hD hS _ (lv_sub hl [1, 2, 3, 4, 6] rfl)
                · rw [if_neg c_10] at hT
                  refine lv_goto (tgt := 96) hx hb dL_isEnough_80 (by decide) ?_
                  exact J_96 () hT _ _ hP hD hS _ (lv_sub hl [1, 2, 3, 4, 6] rfl)
        have J_49 : ∀ (_ : Unit), TT = m_k_L_isEnough_49 pp a2 a3 o_15 (m_k_L_isEnough_6 pp gf a1 a2 a3 n_6) v4_6 v5_6 → ∀ (H : Heap) (locs : List Loc), va_P D vwCl ((wW_k_L_isEnough ty g0 a1.toNatClampNeg gf) ++ pw ty pp) H → va_D A ((wW_k_L_isEnough ty g0 a1.toNatClampNeg gf) ++ pw ty pp) → va_S A s.heap H locs → ∀ ls : Array Slot, lv_has ls 8 [(0, .ref g0), (1, .int a1), (2, .int a2), (3, .int a3), (4, .int v4_6), (5, .int v5_6), (6, .ref o_15)] → W p l e (headSpec vs_k_L_isEnough { frames := 1, cells := 0, slots := 0, locals := 22 }).room s m ([.ref g0, .int a1, .int a2, .int a3] : List Value).toArray below meth c H locs 0 0 (MQ below (va_Qi (fun (r : Int32) (u : va_W) => (r = TT ∧ (TT = 0 ∨ TT = 1) ∧ (u = ((wW_k_L_isEnough ty g0 a1.toNatClampNeg gf) ++ pw ty pp)))) (wq_B D A) A) ([.ref g0, .int a1, .int a2, .int a3] : List Value).toArray s 0 0 A) (F0 m 49 ls []) := by
          intro _ hT  H locs hP hD hS ls hl
          rw [m_k_L_isEnough_49] at hT
          refine lv_iconst (v := 0) hx hb dL_isEnough_49 (by decide) ?_
          exact J_50 0 hT (by decide) _ _ hP hD hS _ (lv_sub hl [0, 1, 2, 3, 4, 5, 6] rfl)
        refine lv_icmp_eq (tgt := 49) hx hb dL_isEnough_24 (by decide) (fun c_11 => ?_) (fun c_11 => ?_)
        · rw [if_pos c_11] at hT
          exact J_49 () hT _ _ hP hD hS _ (lv_sub hl [1, 2, 3, 4, 5, 6, 0] rfl)
        · rw [if_neg c_11] at hT
          refine lv_aload hx hb dL_isEnough_27 (lv_at hl 0 rfl) ?_
          refine lv_iload_n hx hb dL_isEnough_29 rfl (lv_at hl 3 rfl) ?_
          obtain ⟨t_30, ht_30⟩ : ∃ t, t = m_k_L_isHeld pp o_15 a2 := ⟨_, rfl⟩
          rw [lE_eq ht_30] at hT
          refine wq_iPW (wc := []) (pl := pw ty pp) (ux := []) (va_runS (As := [.ref o_15, .int a2]) (rest := []) ⟨hx, hb, hml, hown, hts⟩ (k_L_isHeld l D ty td mi H.size pp o_15 a2 hok hmo_15 t_30 ht_30) (va_cwS 2 hts gv_k_L_isEnough_0 rfl rfl rfl (by decide +kernel) ⟨(Nat.le_of_ble_eq_true rfl), (Nat.le_of_ble_eq_true rfl)⟩) (wm_preSP hP hD hK hE hS hA [] rfl) rfl rfl hl.1 rfl (lv_room (Nat.le_of_ble_eq_true rfl)) dL_isEnough_30 ⟨(Nat.le_of_ble_eq_true rfl), (Nat.le_of_ble_eq_true rfl)⟩) hS hA hP hD [] rfl rfl (fun _ _ h => h.2.2) (fun r H locs hw hP hD hS => ?_)
          obtain ⟨hr0, c_14, -⟩ := hw
          subst r
          have hP : va_P D vwCl ((wW_k_L_isEnough ty g0 a1.toNatClampNeg gf) ++ pw ty pp) H := hP
          have hD : va_D A ((wW_k_L_isEnough ty g0 a1.toNatClampNeg gf) ++ pw ty pp) := hD
          refine W.widen (k := 0) (n := 0) (Nat.le_of_ble_eq_true rfl) (Nat.le_of_ble_eq_true rfl) ?_
          refine lv_if_eq (tgt := 49) hx hb dL_isEnough_33 (by decide) (fun c_15 => ?_) (fun c_15 => ?_)
          · rw [if_pos c_15] at hT
            exact J_49 () hT _ _ hP hD hS _ (lv_sub hl [1, 2, 3, 4, 5, 6, 0] rfl)
          · rw [if_neg c_15] at hT
            refine lv_aload hx hb dL_isEnough_36 (lv_at hl 0 rfl) ?_
            refine lv_iload_n hx hb dL_isEnough_38 rfl (lv_at hl 4 rfl) ?_
            obtain ⟨t_39, ht_39⟩ : ∃ t, t = m_k_L_isHeld pp o_15 a3 := ⟨_, rfl⟩
            rw [lE_eq ht_39] at hT
            refine wq_iPW (wc := []) (pl := pw ty pp) (ux := []) (va_runS (As := [.ref o_15, .int a3]) (rest := []) ⟨hx, hb, hml, hown, hts⟩ (k_L_isHeld l D ty td mi H.size pp o_15 a3 hok hmo_15 t_39 ht_39) (va_cwS 2 hts gv_k_L_isEnough_1 rfl rfl rfl (by decide +kernel) ⟨(Nat.le_of_ble_eq_true rfl), (Nat.le_of_ble_eq_true rfl)⟩) (wm_preSP hP hD hK hE hS hA [] rfl) rfl rfl hl.1 rfl (lv_room (Nat.le_of_ble_eq_true rfl)) dL_isEnough_39 ⟨(Nat.le_of_ble_eq_true rfl), (Nat.le_of_ble_eq_true rfl)⟩) hS hA hP hD [] rfl rfl (fun _ _ h => h.2.2) (fun r H locs hw hP hD hS => ?_)
            obtain ⟨hr0, c_18, -⟩ := hw
            subst r
            have hP : va_P D vwCl ((wW_k_L_isEnough ty g0 a1.toNatClampNeg gf) ++ pw ty pp) H := hP
            have hD : va_D A ((wW_k_L_isEnough ty g0 a1.toNatClampNeg gf) ++ pw ty pp) := hD
            refine W.widen (k := 0) (n := 0) (Nat.le_of_ble_eq_true rfl) (Nat.le_of_ble_eq_true rfl) ?_
            refine lv_if_eq (tgt := 49) hx hb dL_isEnough_42 (by decide) (fun c_19 => ?_) (fun c_19 => ?_)
            · rw [if_pos c_19] at hT
              exact J_49 () hT _ _ hP hD hS _ (lv_sub hl [1, 2, 3, 4, 5, 6, 0] rfl)
            · rw [if_neg c_19] at hT
              refine lv_iconst (v := 1) hx hb dL_isEnough_45 (by decide) ?_
              refine lv_goto (tgt := 50) hx hb dL_isEnough_46 (by decide) ?_
              exact J_50 1 hT (by decide) _ _ hP hD hS _ (lv_sub hl [1, 2, 3, 4, 5, 6, 0] rfl)
  exact L_6 wF 1 0 (wF_up 0) hT (by decide) (by decide) _ _ hP hD hS _ (lv_sub hl [2, 3, 4, 5, 1, 0] rfl)
theorem dL_isAnswer_0 : decode cL_isAnswer 0 = .ok (.iload 4, 2) := by decide +kernel
theorem dL_isAnswer_2 : decode cL_isAnswer 2 = .ok (.iload_n 2, 1) := by decide +kernel
theorem dL_isAnswer_3 : decode cL_isAnswer 3 = .ok (.iand, 1) := by decide +kernel
theorem dL_isAnswer_4 : decode cL_isAnswer 4 = .ok (.iload_n 2, 1) := by decide +kernel
theorem dL_isAnswer_5 : decode cL_isAnswer 5 = .ok (.if_icmp .ne 13, 3) := by decide +kernel
theorem dL_isAnswer_8 : decode cL_isAnswer 8 = .ok (.aload_n 0, 1) := by decide +kernel
theorem dL_isAnswer_9 : decode cL_isAnswer 9 = .ok (.iload_n 1, 1) := by decide +kernel
theorem dL_isAnswer_10 : decode cL_isAnswer 10 = .ok (.iload 4, 2) := by decide +kernel
theorem dL_isAnswer_12 : decode cL_isAnswer 12 = .ok (.invokestatic 144, 3) := by decide +kernel
theorem dL_isAnswer_15 : decode cL_isAnswer 15 = .ok (.ifCond .ne 5, 3) := by decide +kernel
theorem dL_isAnswer_18 : decode cL_isAnswer 18 = .ok (.iconst 0, 1) := by decide +kernel
theorem dL_isAnswer_19 : decode cL_isAnswer 19 = .ok (.ireturn, 1) := by decide +kernel
theorem dL_isAnswer_20 : decode cL_isAnswer 20 = .ok (.iconst 1, 1) := by decide +kernel
theorem dL_isAnswer_21 : decode cL_isAnswer 21 = .ok (.istore 5, 2) := by decide +kernel
theorem dL_isAnswer_23 : decode cL_isAnswer 23 = .ok (.iconst 0, 1) := by decide +kernel
theorem dL_isAnswer_24 : decode cL_isAnswer 24 = .ok (.istore 6, 2) := by decide +kernel
theorem dL_isAnswer_26 : decode cL_isAnswer 26 = .ok (.iload 6, 2) := by decide +kernel
theorem dL_isAnswer_28 : decode cL_isAnswer 28 = .ok (.iload 4, 2) := by decide +kernel
theorem dL_isAnswer_30 : decode cL_isAnswer 30 = .ok (.if_icmp .ge 75, 3) := by decide +kernel
theorem dL_isAnswer_33 : decode cL_isAnswer 33 = .ok (.iload 5, 2) := by decide +kernel
theorem dL_isAnswer_35 : decode cL_isAnswer 35 = .ok (.ifCond .eq 70, 3) := by decide +kernel
theorem dL_isAnswer_38 : decode cL_isAnswer 38 = .ok (.iload 6, 2) := by decide +kernel
theorem dL_isAnswer_40 : decode cL_isAnswer 40 = .ok (.iload 4, 2) := by decide +kernel
theorem dL_isAnswer_42 : decode cL_isAnswer 42 = .ok (.iconst (-1), 1) := by decide +kernel
theorem dL_isAnswer_43 : decode cL_isAnswer 43 = .ok (.ixor, 1) := by decide +kernel
theorem dL_isAnswer_44 : decode cL_isAnswer 44 = .ok (.iand, 1) := by decide +kernel
theorem dL_isAnswer_45 : decode cL_isAnswer 45 = .ok (.ifCond .ne 27, 3) := by decide +kernel
theorem dL_isAnswer_48 : decode cL_isAnswer 48 = .ok (.iload 6, 2) := by decide +kernel
theorem dL_isAnswer_50 : decode cL_isAnswer 50 = .ok (.iload_n 2, 1) := by decide +kernel
theorem dL_isAnswer_51 : decode cL_isAnswer 51 = .ok (.iand, 1) := by decide +kernel
theorem dL_isAnswer_52 : decode cL_isAnswer 52 = .ok (.iload_n 2, 1) := by decide +kernel
theorem dL_isAnswer_53 : decode cL_isAnswer 53 = .ok (.if_icmp .ne 19, 3) := by decide +kernel
theorem dL_isAnswer_56 : decode cL_isAnswer 56 = .ok (.iload 4, 2) := by decide +kernel
theorem dL_isAnswer_58 : decode cL_isAnswer 58 = .ok (.iload_n 3, 1) := by decide +kernel
theorem dL_isAnswer_59 : decode cL_isAnswer 59 = .ok (.iand, 1) := by decide +kernel
theorem dL_isAnswer_60 : decode cL_isAnswer 60 = .ok (.iload 6, 2) := by decide +kernel
theorem dL_isAnswer_62 : decode cL_isAnswer 62 = .ok (.iconst (-1), 1) := by decide +kernel
theorem dL_isAnswer_63 : decode cL_isAnswer 63 = .ok (.ixor, 1) := by decide +kernel
theorem dL_isAnswer_64 : decode cL_isAnswer 64 = .ok (.iand, 1) := by decide +kernel
theorem dL_isAnswer_65 : decode cL_isAnswer 65 = .ok (.ifCond .ne 7, 3) := by decide +kernel
theorem dL_isAnswer_68 : decode cL_isAnswer 68 = .ok (.iconst 1, 1) := by decide +kernel
theorem dL_isAnswer_69 : decode cL_isAnswer 69 = .ok (.goto 4, 3) := by decide +kernel
theorem dL_isAnswer_72 : decode cL_isAnswer 72 = .ok (.iconst 0, 1) := by decide +kernel
theorem dL_isAnswer_73 : decode cL_isAnswer 73 = .ok (.istore 7, 2) := by decide +kernel
theorem dL_isAnswer_75 : decode cL_isAnswer 75 = .ok (.iload 7, 2) := by decide +kernel
theorem dL_isAnswer_77 : decode cL_isAnswer 77 = .ok (.ifCond .eq 15, 3) := by decide +kernel
theorem dL_isAnswer_80 : decode cL_isAnswer 80 = .ok (.aload_n 0, 1) := by decide +kernel
theorem dL_isAnswer_81 : decode cL_isAnswer 81 = .ok (.iload_n 1, 1) := by decide +kernel
theorem dL_isAnswer_82 : decode cL_isAnswer 82 = .ok (.iload 4, 2) := by decide +kernel
theorem dL_isAnswer_84 : decode cL_isAnswer 84 = .ok (.iload 6, 2) := by decide +kernel
theorem dL_isAnswer_86 : decode cL_isAnswer 86 = .ok (.invokestatic 148, 3) := by decide +kernel
theorem dL_isAnswer_89 : decode cL_isAnswer 89 = .ok (.ifCond .ne 7, 3) := by decide +kernel
theorem dL_isAnswer_92 : decode cL_isAnswer 92 = .ok (.iconst 1, 1) := by decide +kernel
theorem dL_isAnswer_93 : decode cL_isAnswer 93 = .ok (.goto 4, 3) := by decide +kernel
theorem dL_isAnswer_96 : decode cL_isAnswer 96 = .ok (.iconst 0, 1) := by decide +kernel
theorem dL_isAnswer_97 : decode cL_isAnswer 97 = .ok (.istore 5, 2) := by decide +kernel
theorem dL_isAnswer_99 : decode cL_isAnswer 99 = .ok (.iinc 6 1, 3) := by decide +kernel
theorem dL_isAnswer_102 : decode cL_isAnswer 102 = .ok (.goto (-76), 3) := by decide +kernel
theorem dL_isAnswer_105 : decode cL_isAnswer 105 = .ok (.iload 5, 2) := by decide +kernel
theorem dL_isAnswer_107 : decode cL_isAnswer 107 = .ok (.ireturn, 1) := by decide +kernel
