theorem dX10_commonest_0 : decode cX10_commonest 0 = .ok (.aload_n 0, 1) := by decide +kernel
theorem dX10_commonest_1 : decode cX10_commonest 1 = .ok (.invokevirtual 312, 3) := by decide +kernel
theorem dX10_commonest_4 : decode cX10_commonest 4 = .ok (.aload_n 0, 1) := by decide +kernel
theorem dX10_commonest_5 : decode cX10_commonest 5 = .ok (.getfield 21, 3) := by decide +kernel
theorem dX10_commonest_8 : decode cX10_commonest 8 = .ok (.getfield 263, 3) := by decide +kernel
theorem dX10_commonest_11 : decode cX10_commonest 11 = .ok (.ifCond .le 13, 3) := by decide +kernel
theorem dX10_commonest_14 : decode cX10_commonest 14 = .ok (.aload_n 0, 1) := by decide +kernel
theorem dX10_commonest_15 : decode cX10_commonest 15 = .ok (.getfield 56, 3) := by decide +kernel
theorem dX10_commonest_18 : decode cX10_commonest 18 = .ok (.getfield 280, 3) := by decide +kernel
theorem dX10_commonest_21 : decode cX10_commonest 21 = .ok (.ifCond .gt 14, 3) := by decide +kernel
theorem dX10_commonest_24 : decode cX10_commonest 24 = .ok (.new 333, 3) := by decide +kernel
theorem dX10_commonest_27 : decode cX10_commonest 27 = .ok (.dup, 1) := by decide +kernel
theorem dX10_commonest_28 : decode cX10_commonest 28 = .ok (.ldc_w 343, 3) := by decide +kernel
theorem dX10_commonest_31 : decode cX10_commonest 31 = .ok (.invokespecial 337, 3) := by decide +kernel
theorem dX10_commonest_34 : decode cX10_commonest 34 = .ok (.athrow, 1) := by decide +kernel
theorem dX10_commonest_35 : decode cX10_commonest 35 = .ok (.iconst (-1), 1) := by decide +kernel
theorem dX10_commonest_36 : decode cX10_commonest 36 = .ok (.istore_n 1, 1) := by decide +kernel
theorem dX10_commonest_37 : decode cX10_commonest 37 = .ok (.iconst 0, 1) := by decide +kernel
theorem dX10_commonest_38 : decode cX10_commonest 38 = .ok (.istore_n 2, 1) := by decide +kernel
theorem dX10_commonest_39 : decode cX10_commonest 39 = .ok (.iconst 0, 1) := by decide +kernel
theorem dX10_commonest_40 : decode cX10_commonest 40 = .ok (.istore_n 3, 1) := by decide +kernel
theorem dX10_commonest_41 : decode cX10_commonest 41 = .ok (.iload_n 3, 1) := by decide +kernel
theorem dX10_commonest_42 : decode cX10_commonest 42 = .ok (.aload_n 0, 1) := by decide +kernel
theorem dX10_commonest_43 : decode cX10_commonest 43 = .ok (.getfield 21, 3) := by decide +kernel
theorem dX10_commonest_46 : decode cX10_commonest 46 = .ok (.getfield 263, 3) := by decide +kernel
theorem dX10_commonest_49 : decode cX10_commonest 49 = .ok (.if_icmp .ge 41, 3) := by decide +kernel
theorem dX10_commonest_52 : decode cX10_commonest 52 = .ok (.aload_n 0, 1) := by decide +kernel
theorem dX10_commonest_53 : decode cX10_commonest 53 = .ok (.aload_n 0, 1) := by decide +kernel
theorem dX10_commonest_54 : decode cX10_commonest 54 = .ok (.getfield 21, 3) := by decide +kernel
theorem dX10_commonest_57 : decode cX10_commonest 57 = .ok (.iload_n 3, 1) := by decide +kernel
theorem dX10_commonest_58 : decode cX10_commonest 58 = .ok (.invokevirtual 345, 3) := by decide +kernel
theorem dX10_commonest_61 : decode cX10_commonest 61 = .ok (.invokevirtual 326, 3) := by decide +kernel
theorem dX10_commonest_64 : decode cX10_commonest 64 = .ok (.istore 4, 2) := by decide +kernel
theorem dX10_commonest_66 : decode cX10_commonest 66 = .ok (.iload 4, 2) := by decide +kernel
theorem dX10_commonest_68 : decode cX10_commonest 68 = .ok (.iload_n 1, 1) := by decide +kernel
theorem dX10_commonest_69 : decode cX10_commonest 69 = .ok (.if_icmp .le 15, 3) := by decide +kernel
theorem dX10_commonest_72 : decode cX10_commonest 72 = .ok (.iload 4, 2) := by decide +kernel
theorem dX10_commonest_74 : decode cX10_commonest 74 = .ok (.istore_n 1, 1) := by decide +kernel
theorem dX10_commonest_75 : decode cX10_commonest 75 = .ok (.aload_n 0, 1) := by decide +kernel
theorem dX10_commonest_76 : decode cX10_commonest 76 = .ok (.getfield 21, 3) := by decide +kernel
theorem dX10_commonest_79 : decode cX10_commonest 79 = .ok (.iload_n 3, 1) := by decide +kernel
theorem dX10_commonest_80 : decode cX10_commonest 80 = .ok (.invokevirtual 345, 3) := by decide +kernel
theorem dX10_commonest_83 : decode cX10_commonest 83 = .ok (.istore_n 2, 1) := by decide +kernel
theorem dX10_commonest_84 : decode cX10_commonest 84 = .ok (.iinc 3 1, 3) := by decide +kernel
theorem dX10_commonest_87 : decode cX10_commonest 87 = .ok (.goto (-46), 3) := by decide +kernel
theorem dX10_commonest_90 : decode cX10_commonest 90 = .ok (.bipush 100, 2) := by decide +kernel
theorem dX10_commonest_92 : decode cX10_commonest 92 = .ok (.iload_n 2, 1) := by decide +kernel
theorem dX10_commonest_93 : decode cX10_commonest 93 = .ok (.bipush 64, 2) := by decide +kernel
theorem dX10_commonest_95 : decode cX10_commonest 95 = .ok (.idiv, 1) := by decide +kernel
theorem dX10_commonest_96 : decode cX10_commonest 96 = .ok (.imul, 1) := by decide +kernel
theorem dX10_commonest_97 : decode cX10_commonest 97 = .ok (.bipush 10, 2) := by decide +kernel
theorem dX10_commonest_99 : decode cX10_commonest 99 = .ok (.iload_n 2, 1) := by decide +kernel
theorem dX10_commonest_100 : decode cX10_commonest 100 = .ok (.bipush 64, 2) := by decide +kernel
theorem dX10_commonest_102 : decode cX10_commonest 102 = .ok (.irem, 1) := by decide +kernel
theorem dX10_commonest_103 : decode cX10_commonest 103 = .ok (.bipush 8, 2) := by decide +kernel
theorem dX10_commonest_105 : decode cX10_commonest 105 = .ok (.idiv, 1) := by decide +kernel
theorem dX10_commonest_106 : decode cX10_commonest 106 = .ok (.imul, 1) := by decide +kernel
theorem dX10_commonest_107 : decode cX10_commonest 107 = .ok (.iadd, 1) := by decide +kernel
theorem dX10_commonest_108 : decode cX10_commonest 108 = .ok (.iload_n 2, 1) := by decide +kernel
theorem dX10_commonest_109 : decode cX10_commonest 109 = .ok (.bipush 8, 2) := by decide +kernel
theorem dX10_commonest_111 : decode cX10_commonest 111 = .ok (.irem, 1) := by decide +kernel
theorem dX10_commonest_112 : decode cX10_commonest 112 = .ok (.iadd, 1) := by decide +kernel
theorem dX10_commonest_113 : decode cX10_commonest 113 = .ok (.ireturn, 1) := by decide +kernel
def wW_k_X10_commonest (ty : Nat → ClassId) (X : Nat → Nat) (z9_0 : Int32) (z9_1 : Int32) (z9_2 : Int32) (z9_3 : Int32) (z9_4 : Int32) (z9_5 : Int32) (z9_6 : Nat → Int64) (z9_7 : Nat → Int32) (z9_8 : Nat → Int32) (z9_9 : Int32) (z9_10 : Int32) (z9_11 : Int32) (z9_12 : Int32) (z9_13 : Int32) (z9_14 : Int32) (z9_15 : Int32) (z9_16 : Int32) (z9_17 : Int32) (z9_18 : Int32) (z9_19 : Int32) (z9_20 : Nat → Int32) : va_W := [((X 0), .inr (12, [.ref (X 1), .ref (X 8), .ref (X 20), .ref (X 39), .ref (X 41), .ref (X 43), .ref (X 45)])), ((X 8), .inr (5, [.ref (X 1), .ref (X 9), .ref (X 10), .ref (X 12), .ref (X 14), .int z9_0, .ref (X 15), .ref (X 16), .ref (X 17), .int z9_1, .ref (X 18), .ref (X 19), .int z9_2, .int z9_3, .int z9_4, .int z9_5])), ((X 10), .inr (3, [.ref (X 11)])), ((X 11), .inl (ty 1, 6, .inr (.inl z9_6))), ((X 18), .inl (ty 0, 384, .inl z9_7)), ((X 19), .inl (ty 0, 384, .inl z9_8)), ((X 20), .inr (11, [.ref (X 1), .ref (X 8), .ref (X 21), .ref (X 28), .ref (X 35), .int z9_9, .ref (X 36), .ref (X 37), .ref (X 38), .int z9_10, .int z9_11, .int z9_12, .int z9_13, .int z9_14, .int z9_15, .int z9_16, .int z9_17])), ((X 45), .inr (2, [.ref (X 46), .ref (X 47), .int z9_18, .int z9_19])), ((X 46), .inl (ty 0, 64, .inl z9_20))]
def vs_k_X10_commonest : List Cond := .code yX10_commonest cX10_commonest 5 (some .int) :: ([.methodLink RX10 312 yX10_checkWalk, .instanceMethod yX10_checkWalk, .selects RX10 yX10_checkWalk yX10_checkWalk, .initialized RX10, .fieldLink RX10 21 "AnswerFold" "grounding" "LAnswerFold$Grounding;", .classLink RX10 333 "java/util/NoSuchElementException", .initialized "java/util/NoSuchElementException", .fieldLink RX10 56 "AnswerFold" "answers" "LAnswerFold$Answers;", .methodLink RX10 345 yX3_openAtomAt, .instanceMethod yX3_openAtomAt, .selects RX3 yX3_openAtomAt yX3_openAtomAt, .initialized RX3, .methodLink RX10 326 yX10_answersWith, .instanceMethod yX10_answersWith, .selects RX10 yX10_answersWith yX10_answersWith] ++ (vs_k_X10_checkWalk ++ (u_ws RX10 TX10 7 ++ (u_ws RX3 TX3 16 ++ ((vx_atSX RX10 337 "java/util/NoSuchElementException" ["java/lang/RuntimeException", "java/lang/Exception"]).filter goodWord ++ (u_ws RX0 TX0 4 ++ (vs_k_X3_openAtomAt ++ (vs_k_X10_answersWith))))))))
theorem iv_k_X10_commonest_X0 : ∀ w ∈ u_ws RX0 TX0 4, w ∈ vs_k_X10_commonest := (fun _ h => List.mem_cons_of_mem _ (List.mem_append_right _ (List.mem_append_right _ (List.mem_append_right _ (List.mem_append_right _ (List.mem_append_right _ (List.mem_append_left _ h)))))))
theorem iv_k_X10_commonest_X10 : ∀ w ∈ u_ws RX10 TX10 7, w ∈ vs_k_X10_commonest := (fun _ h => List.mem_cons_of_mem _ (List.mem_append_right _ (List.mem_append_right _ (List.mem_append_left _ h))))
theorem iv_k_X10_commonest_X3 : ∀ w ∈ u_ws RX3 TX3 16, w ∈ vs_k_X10_commonest := (fun _ h => List.mem_cons_of_mem _ (List.mem_append_right _ (List.mem_append_right _ (List.mem_append_right _ (List.mem_append_left _ h)))))
set_option maxRecDepth 20000 in
theorem gv_k_X10_commonest_0 : GoodIn vs_k_X10_commonest (wsV RX10 312 RX10 yX10_checkWalk vs_k_X10_checkWalk) := goodIn_app (goodIn_sub (by decide +kernel) (by decide +kernel)) (goodIn_sub (fun _ h => List.mem_cons_of_mem _ (List.mem_append_right _ (List.mem_append_left _ h))) (by decide +kernel))
set_option maxRecDepth 20000 in
theorem gv_k_X10_commonest_1 : GoodIn vs_k_X10_commonest (wsV RX10 345 RX3 yX3_openAtomAt vs_k_X3_openAtomAt) := goodIn_app (goodIn_sub (by decide +kernel) (by decide +kernel)) (goodIn_sub (fun _ h => List.mem_cons_of_mem _ (List.mem_append_right _ (List.mem_append_right _ (List.mem_append_right _ (List.mem_append_right _ (List.mem_append_right _ (List.mem_append_right _ (List.mem_append_left _ h)))))))) (by decide +kernel))
set_option maxRecDepth 20000 in
theorem gv_k_X10_commonest_2 : GoodIn vs_k_X10_commonest (wsV RX10 326 RX10 yX10_answersWith vs_k_X10_answersWith) := goodIn_app (goodIn_sub (by decide +kernel) (by decide +kernel)) (goodIn_sub (fun _ h => List.mem_cons_of_mem _ (List.mem_append_right _ (List.mem_append_right _ (List.mem_append_right _ (List.mem_append_right _ (List.mem_append_right _ (List.mem_append_right _ (List.mem_append_right _ (h))))))))) (by decide +kernel))
set_option maxRecDepth 20000 in
theorem gv_k_X10_commonest_3 : GoodIn vs_k_X10_commonest (wsV RX10 345 RX3 yX3_openAtomAt vs_k_X3_openAtomAt) := goodIn_app (goodIn_sub (by decide +kernel) (by decide +kernel)) (goodIn_sub (fun _ h => List.mem_cons_of_mem _ (List.mem_append_right _ (List.mem_append_right _ (List.mem_append_right _ (List.mem_append_right _ (List.mem_append_right _ (List.mem_append_right _ (List.mem_append_left _ h)))))))) (by decide +kernel))
theorem ix_k_X10_commonest_337 : ∀ w ∈ (vx_atSX RX10 337 "java/util/NoSuchElementException" ["java/lang/RuntimeException", "java/lang/Exception"]).filter goodWord, w ∈ vs_k_X10_commonest := (fun _ h => List.mem_cons_of_mem _ (List.mem_append_right _ (List.mem_append_right _ (List.mem_append_right _ (List.mem_append_right _ (List.mem_append_left _ h))))))
set_option maxHeartbeats 4000000 in
set_option maxRecDepth 100000 in
theorem k_X10_commonest (l : Launch) (hl9 : l.stackTraces = false) (D : va_G) (ty : Nat → ClassId) (td mi sz : Nat) (X : Nat → Nat) (hn : Int32) (kn : Int32) (on : Int32) (cu : Int32) (pu : Int32) (gw : Int32) (su : Nat → Int64) (oa : Nat → Int32) (ob : Nat → Int32) (an : Int32) (ch : Int32) (cg : Int32) (fb : Int32) (mh : Int32) (ml : Int32) (ih : Int32) (lb : Int32) (ic : Int32) (nn : Int32) (kp : Int32) (se : Nat → Int32) (TT : r_k_X10_commonest) (hTT : TT = m_k_X10_commonest on su oa ob nn kp se) : vx_Met l yX10_commonest vs_k_X10_commonest { frames := 7, cells := 2, slots := 12, locals := 102 } (va_Pc [.ref (X 0)] (wq_P D ty td mi (wW_k_X10_commonest ty X hn kn on cu pu gw su oa ob an ch cg fb mh ml ih lb ic nn kp se) sz)) (va_Qi (fun (r : Int32) (u : va_W) => (TT.1 = 0 ∧ r = TT.2 ∧ (u = (wW_k_X10_commonest ty X hn kn on cu pu gw su oa ob an ch cg fb mh ml ih lb ic nn kp se)))) (wq_B D (va_A (wW_k_X10_commonest ty X hn kn on cu pu gw su oa ob an ch cg fb mh ml ih lb ic nn kp se) sz)) (va_A (wW_k_X10_commonest ty X hn kn on cu pu gw su oa ob an ch cg fb mh ml ih lb ic nn kp se) sz)) (vx_X (fun u : String × va_W => (TT.1 = 3 ∧ u = ("java/lang/IllegalStateException", (wW_k_X10_commonest ty X hn kn on cu pu gw su oa ob an ch cg fb mh ml ih lb ic nn kp se))) ∨ (TT.1 = 5 ∧ u = ("java/util/NoSuchElementException", (wW_k_X10_commonest ty X hn kn on cu pu gw su oa ob an ch cg fb mh ml ih lb ic nn kp se)))) (wq_BX D (va_A (wW_k_X10_commonest ty X hn kn on cu pu gw su oa ob an ch cg fb mh ml ih lb ic nn kp se) sz)) (va_A (wW_k_X10_commonest ty X hn kn on cu pu gw su oa ob an ch cg fb mh ml ih lb ic nn kp se) sz)) 2 12 (va_A (wW_k_X10_commonest ty X hn kn on cu pu gw su oa ob an ch cg fb mh ml ih lb ic nn kp se) sz) := by
  refine vx_ofW (cc := cX10_commonest) (maxL := 5) (ret := (some .int)) (by decide) rfl ?_
  intro p e s m args below meth c s₁ B hml hEx hv
  obtain ⟨rfl, hsz, hP, hK, hD0, hE⟩ := hv
  have hx := B.exec
  have hb := B.bytes
  have hr := B.returns
  have hts := atoms_spec (ws := vs_k_X10_commonest) B.pre
  have hown : s.vm.findClass RX10 = some m.cls := findClass_of_methodNamed B.named
  have hlocks := B.notSynchronized
  subst hsz
  have hD := hD0.self (sz := s.heap.size)
  generalize hAe : va_A (wW_k_X10_commonest ty X hn kn on cu pu gw su oa ob an ch cg fb mh ml ih lb ic nn kp se) s.heap.size = A at hD hE ⊢
  have hA : ∀ q : Nat, s.heap.size ≤ q → A q := fun q h => by rw [← hAe]; exact Or.inr h
  have hS : va_S A s.heap s.heap [] := va_S.rf
  have hP : va_P D vwCl (wW_k_X10_commonest ty X hn kn on cu pu gw su oa ob an ch cg fb mh ml ih lb ic nn kp se) s.heap := hP
  have hl := lv_entry ([.ref (X 0)]) (n := 5) (Nat.le_of_ble_eq_true rfl)
  rw [lg_entry_eq]
  generalize (lg_sl ([.ref (X 0)]) ++ List.replicate (5 - (lg_sl ([.ref (X 0)])).length) Slot.unset).toArray = ls at hl ⊢
  have hl : lv_has ls 5 [(0, .ref (X 0))] := hl
  have END : ∀ (r : Int32), TT = (0, r) → ∀ (H : Heap) (locs : List Loc), va_P D vwCl (wW_k_X10_commonest ty X hn kn on cu pu gw su oa ob an ch cg fb mh ml ih lb ic nn kp se) H → va_D A (wW_k_X10_commonest ty X hn kn on cu pu gw su oa ob an ch cg fb mh ml ih lb ic nn kp se) → va_S A s.heap H locs → ∀ (ls : Array Slot) (pc : Nat), decode cX10_commonest pc = .ok (.ireturn, 1) → W p l e (headSpec vs_k_X10_commonest { frames := 7, cells := 2, slots := 12, locals := 102 }).room s m ([.ref (X 0)] : List Value).toArray below meth c H locs 2 12 (vx_MQ below (va_Qi (fun (r : Int32) (u : va_W) => (TT.1 = 0 ∧ r = TT.2 ∧ (u = (wW_k_X10_commonest ty X hn kn on cu pu gw su oa ob an ch cg fb mh ml ih lb ic nn kp se)))) (wq_B D A) A) (vx_X (fun u : String × va_W => (TT.1 = 3 ∧ u = ("java/lang/IllegalStateException", (wW_k_X10_commonest ty X hn kn on cu pu gw su oa ob an ch cg fb mh ml ih lb ic nn kp se))) ∨ (TT.1 = 5 ∧ u = ("java/util/NoSuchElementException", (wW_k_X10_commonest ty X hn kn on cu pu gw su oa ob an ch cg fb mh ml ih lb ic nn kp se)))) (wq_BX D A) A) ([.ref (X 0)] : List Value).toArray s 2 12 A) (F0 m pc ls [.int r]) := by
    intro r hT H locs hP hD hS ls pc hd
    have hM : TT = (0, r) := hT
    refine vx_ret ?_
    exact W.iret (v := r) hx hb hr (fun t ht hW => ⟨⟨r, (wW_k_X10_commonest ty X hn kn on cu pu gw su oa ob an ch cg fb mh ml ih lb ic nn kp se), rfl, ⟨(by rw [hM]), (by rw [hM]), rfl⟩, wq_B.of ht hP hD⟩, hS.F ht⟩) hS.2.2 hd
  have hT := hTT
  rw [m_k_X10_commonest] at hT
  refine lv_aload_n hx hb dX10_commonest_0 rfl (lv_at hl 0 rfl) ?_
  obtain ⟨t_1, ht_1⟩ : ∃ t, t = m_k_X10_checkWalk kp := ⟨_, rfl⟩
  rw [lE_eq ht_1] at hT
  refine wq_xvW (wc := (wW_k_X10_checkWalk ty X nn kp)) (vx_runV (As := []) (rest := []) ⟨hx, hb, hml, hown, hts⟩ (k_X10_checkWalk l hl9 D ty td mi s.heap.size X nn kp t_1 ht_1) (cwV 0 hts gv_k_X10_commonest_0 rfl rfl rfl (by decide +kernel) ⟨(Nat.le_of_ble_eq_true rfl), (Nat.le_of_ble_eq_true rfl)⟩) (wm_V (wm_preS hP hD hK hE hS hA [true, false, false, false, false, false, false, true] rfl) (va_recv (q0 := 0) (ci := 12) hK hP rfl rfl)) rfl rfl hl.1 rfl (lv_room (Nat.le_of_ble_eq_true rfl)) dX10_commonest_1 ⟨(Nat.le_of_ble_eq_true rfl), (Nat.le_of_ble_eq_true rfl)⟩) hS hA hP hD [true, false, false, false, false, false, false, true] rfl (fun _ h => by rcases h with ⟨-, rfl⟩; rfl) (fun _ _ h => by rcases h with ⟨-, h⟩ <;> (cases h; rfl)) (fun E9 u H locs q9 ce hw hP hD hS hce hcv hcl => ?_) (fun u H locs hw hP hD hS => ?_)
  · obtain ⟨c_1, hEq⟩ := hw
    cases hEq
    rw [if_neg (show ¬ t_1 = 0 by rw [c_1]; decide)] at hT
    have hP : va_P D vwCl (wW_k_X10_commonest ty X hn kn on cu pu gw su oa ob an ch cg fb mh ml ih lb ic nn kp se) H := hP
    have hD : va_D A (wW_k_X10_commonest ty X hn kn on cu pu gw su oa ob an ch cg fb mh ml ih lb ic nn kp se) := hD
    refine vx_widen (k := 2) (n := 12) (Nat.le_of_ble_eq_true rfl) (Nat.le_of_ble_eq_true rfl) ?_
    exact vx_out (E := "java/lang/IllegalStateException") (fun x hx => (hEx x hx).elim) hlocks hce hcv hcl (fun t ht ha => wq_thrW0 (W := (wW_k_X10_commonest ty X hn kn on cu pu gw su oa ob an ch cg fb mh ml ih lb ic nn kp se)) hS hP hD (by exact (Or.inl ⟨(by rw [hT]), (by first | rw [hT] | rfl)⟩)) ht) hS.2.2 (Nat.le_refl _) (Nat.le_refl _)
  · obtain ⟨c_2, rfl⟩ := hw
    rw [if_pos c_2] at hT
    have hP : va_P D vwCl (wW_k_X10_commonest ty X hn kn on cu pu gw su oa ob an ch cg fb mh ml ih lb ic nn kp se) H := hP
    have hD : va_D A (wW_k_X10_commonest ty X hn kn on cu pu gw su oa ob an ch cg fb mh ml ih lb ic nn kp se) := hD
    refine W.widen (k := 1) (n := 6) (Nat.le_of_ble_eq_true rfl) (Nat.le_of_ble_eq_true rfl) ?_
    refine lv_aload_n hx hb dX10_commonest_4 rfl (lv_at hl 0 rfl) ?_
    refine va_get (D := D) (ci := 12) (v := .ref (X 8)) (C := RX10) (T := TX10) (N := 7) hx hb hts iv_k_X10_commonest_X10 hown hK hP 0 rfl rfl 1 (by decide) (hts (.fieldLink RX10 21 "AnswerFold" "grounding" "LAnswerFold$Grounding;") (by decide +kernel)) (fun _ h9 => h9) rfl dX10_commonest_5 ?_
    refine va_getN (D := D) (ci := 5) (v := .int on) (C := RX3) (T := TX3) (N := 16) hx hb hts iv_k_X10_commonest_X3 hown hK hP 1 rfl rfl 12 (by decide) (hE.at (.fieldLinkNest "AnswerFold" 263 "AnswerFold$Grounding" "openCount" "I" "AnswerFold") (by decide +kernel)) (fun _ h9 => h9) rfl dX10_commonest_8 ?_
    have J_24 : ∀ (_ : Unit), TT = m_k_X10_commonest_24 → ∀ (H : Heap) (locs : List Loc), va_P D vwCl (wW_k_X10_commonest ty X hn kn on cu pu gw su oa ob an ch cg fb mh ml ih lb ic nn kp se) H → va_D A (wW_k_X10_commonest ty X hn kn on cu pu gw su oa ob an ch cg fb mh ml ih lb ic nn kp se) → va_S A s.heap H locs → ∀ ls : Array Slot, lv_has ls 5 [] → W p l e (headSpec vs_k_X10_commonest { frames := 7, cells := 2, slots := 12, locals := 102 }).room s m ([.ref (X 0)] : List Value).toArray below meth c H locs 1 6 (vx_MQ below (va_Qi (fun (r : Int32) (u : va_W) => (TT.1 = 0 ∧ r = TT.2 ∧ (u = (wW_k_X10_commonest ty X hn kn on cu pu gw su oa ob an ch cg fb mh ml ih lb ic nn kp se)))) (wq_B D A) A) (vx_X (fun u : String × va_W => (TT.1 = 3 ∧ u = ("java/lang/IllegalStateException", (wW_k_X10_commonest ty X hn kn on cu pu gw su oa ob an ch cg fb mh ml ih lb ic nn kp se))) ∨ (TT.1 = 5 ∧ u = ("java/util/NoSuchElementException", (wW_k_X10_commonest ty X hn kn on cu pu gw su oa ob an ch cg fb mh ml ih lb ic nn kp se)))) (wq_BX D A) A) ([.ref (X 0)] : List Value).toArray s 2 12 A) (F0 m 24 ls []) := by
      intro _ hT  H locs hP hD hS ls hl
      rw [m_k_X10_commonest_24] at hT
      obtain ⟨sa, hsa⟩ := hE.st 343 "no open atom or no answer" (by decide +kernel)
      exact vx_throwSWX (own := RX10) (cls := "java/util/NoSuchElementException") (text := "no open atom or no answer") (names := ["java/lang/RuntimeException", "java/lang/Exception"]) (ik := 333) (is := 343) (ic := 337) (sa := sa) (A := A) hx hb hl9 hown (by decide +kernel) (by decide +kernel) (hts (.classLink RX10 333 "java/util/NoSuchElementException") (by decide +kernel)) (hts (.initialized "java/util/NoSuchElementException") (by decide +kernel)) hsa (wq_hatX hE hts ix_k_X10_commonest_337 (by decide +kernel) (by decide +kernel)) (by decide +kernel) hE.zu hE.zs hS (hl.1.trans hml.symm) dX10_commonest_24 dX10_commonest_27 dX10_commonest_28 dX10_commonest_31 dX10_commonest_34 (fun x hx => (hEx x hx).elim) (Nat.le_of_ble_eq_true rfl) (Nat.le_of_ble_eq_true rfl) (Nat.le_of_ble_eq_true rfl) (Nat.le_of_ble_eq_true rfl) hlocks (fun t ha hz hk => wq_thrW (W := (wW_k_X10_commonest ty X hn kn on cu pu gw su oa ob an ch cg fb mh ml ih lb ic nn kp se)) hS hP hD (by exact (Or.inr ⟨(by rw [hT]), (by first | rw [hT] | rfl)⟩)) hz hk) hS.2.2 (Nat.le_of_ble_eq_true rfl) (Nat.le_of_ble_eq_true rfl)
    refine lv_if_le (tgt := 24) hx hb dX10_commonest_11 (by decide) (fun c_4 => ?_) (fun c_4 => ?_)
    · rw [if_pos c_4] at hT
      exact J_24 () hT _ _ hP hD hS _ (lv_sub hl [] rfl)
    · rw [if_neg c_4] at hT
      refine lv_aload_n hx hb dX10_commonest_14 rfl (lv_at hl 0 rfl) ?_
      refine va_get (D := D) (ci := 12) (v := .ref (X 45)) (C := RX10) (T := TX10) (N := 7) hx hb hts iv_k_X10_commonest_X10 hown hK hP 0 rfl rfl 6 (by decide) (hts (.fieldLink RX10 56 "AnswerFold" "answers" "LAnswerFold$Answers;") (by decide +kernel)) (fun _ h9 => h9) rfl dX10_commonest_15 ?_
      refine va_getN (D := D) (ci := 2) (v := .int nn) (C := RX0) (T := TX0) (N := 4) hx hb hts iv_k_X10_commonest_X0 hown hK hP 7 rfl rfl 2 (by decide) (hE.at (.fieldLinkNest "AnswerFold" 280 "AnswerFold$Answers" "count" "I" "AnswerFold") (by decide +kernel)) (fun _ h9 => h9) rfl dX10_commonest_18 ?_
      refine lv_if_gt (tgt := 35) hx hb dX10_commonest_21 (by decide) (fun c_5 => ?_) (fun c_5 => ?_)
      · rw [if_pos c_5] at hT
        refine lv_iconst (v := (-1)) hx hb dX10_commonest_35 (by decide) ?_
        refine lv_istore_n (lv' := [(1, .int (-1)), (0, .ref (X 0))]) hx hb dX10_commonest_36 rfl hl (by decide) rfl (fun ls hl => ?_)
        refine lv_iconst (v := 0) hx hb dX10_commonest_37 (by decide) ?_
        refine lv_istore_n (lv' := [(2, .int 0), (1, .int (-1)), (0, .ref (X 0))]) hx hb dX10_commonest_38 rfl hl (by decide) rfl (fun ls hl => ?_)
        refine lv_iconst (v := 0) hx hb dX10_commonest_39 (by decide) ?_
        refine lv_istore_n (lv' := [(3, .int 0), (2, .int 0), (1, .int (-1)), (0, .ref (X 0))]) hx hb dX10_commonest_40 rfl hl (by decide) rfl (fun ls hl => ?_)
        have L_41 : ∀ (n_41 : Nat) (v1_41 : Int32) (v2_41 : Int32) (v3_41 : Int32), (2147483648 - v3_41.toInt).toNat < n_41 → TT = m_k_X10_commonest_41 on su oa ob nn se n_41 v1_41 v2_41 v3_41 → 0 ≤ v3_41.toInt → ∀ (H : Heap) (locs : List Loc), va_P D vwCl (wW_k_X10_commonest ty X hn kn on cu pu gw su oa ob an ch cg fb mh ml ih lb ic nn kp se) H → va_D A (wW_k_X10_commonest ty X hn kn on cu pu gw su oa ob an ch cg fb mh ml ih lb ic nn kp se) → va_S A s.heap H locs → ∀ ls : Array Slot, lv_has ls 5 [(0, .ref (X 0)), (1, .int v1_41), (2, .int v2_41), (3, .int v3_41)] → W p l e (headSpec vs_k_X10_commonest { frames := 7, cells := 2, slots := 12, locals := 102 }).room s m ([.ref (X 0)] : List Value).toArray below meth c H locs 1 6 (vx_MQ below (va_Qi (fun (r : Int32) (u : va_W) => (TT.1 = 0 ∧ r = TT.2 ∧ (u = (wW_k_X10_commonest ty X hn kn on cu pu gw su oa ob an ch cg fb mh ml ih lb ic nn kp se)))) (wq_B D A) A) (vx_X (fun u : String × va_W => (TT.1 = 3 ∧ u = ("java/lang/IllegalStateException", (wW_k_X10_commonest ty X hn kn on cu pu gw su oa ob an ch cg fb mh ml ih lb ic nn kp se))) ∨ (TT.1 = 5 ∧ u = ("java/util/NoSuchElementException", (wW_k_X10_commonest ty X hn kn on cu pu gw su oa ob an ch cg fb mh ml ih lb ic nn kp se)))) (wq_BX D A) A) ([.ref (X 0)] : List Value).toArray s 2 12 A) (F0 m 41 ls []) := by
          intro n_41
          induction n_41 with
          | zero => intro v1_41 v2_41 v3_41 hu; exact absurd hu (Nat.not_lt_zero _)
          | succ n_41 ih_41 =>
            intro v1_41 v2_41 v3_41 hu_41 hT hn_41 H locs hP hD hS ls hl
            rw [m_k_X10_commonest_41_succ, m_k_X10_commonest_41s] at hT
            refine lv_iload_n hx hb dX10_commonest_41 rfl (lv_at hl 3 rfl) ?_
            refine lv_aload_n hx hb dX10_commonest_42 rfl (lv_at hl 0 rfl) ?_
            refine va_get (D := D) (ci := 12) (v := .ref (X 8)) (C := RX10) (T := TX10) (N := 7) hx hb hts iv_k_X10_commonest_X10 hown hK hP 0 rfl rfl 1 (by decide) (hts (.fieldLink RX10 21 "AnswerFold" "grounding" "LAnswerFold$Grounding;") (by decide +kernel)) (fun _ h9 => h9) rfl dX10_commonest_43 ?_
            refine va_getN (D := D) (ci := 5) (v := .int on) (C := RX3) (T := TX3) (N := 16) hx hb hts iv_k_X10_commonest_X3 hown hK hP 1 rfl rfl 12 (by decide) (hE.at (.fieldLinkNest "AnswerFold" 263 "AnswerFold$Grounding" "openCount" "I" "AnswerFold") (by decide +kernel)) (fun _ h9 => h9) rfl dX10_commonest_46 ?_
            refine lv_icmp_ge (tgt := 90) hx hb dX10_commonest_49 (by decide) (fun c_6 => ?_) (fun c_6 => ?_)
            · rw [if_pos c_6] at hT
              refine lv_bipush (v := 100) hx hb dX10_commonest_90 (by decide) ?_
              refine lv_iload_n hx hb dX10_commonest_92 rfl (lv_at hl 2 rfl) ?_
              refine lv_bipush (v := 64) hx hb dX10_commonest_93 (by decide) ?_
              refine lv_idiv hx hb dX10_commonest_95 (by decide) ?_
              refine lv_imul hx hb dX10_commonest_96 ?_
              refine lv_bipush (v := 10) hx hb dX10_commonest_97 (by decide) ?_
              refine lv_iload_n hx hb dX10_commonest_99 rfl (lv_at hl 2 rfl) ?_
              refine lv_bipush (v := 64) hx hb dX10_commonest_100 (by decide) ?_
              refine lv_irem hx hb dX10_commonest_102 (by decide) ?_
              refine lv_bipush (v := 8) hx hb dX10_commonest_103 (by decide) ?_
              refine lv_idiv hx hb dX10_commonest_105 (by decide) ?_
              refine lv_imul hx hb dX10_commonest_106 ?_
              refine lv_iadd hx hb dX10_commonest_107 ?_
              refine lv_iload_n hx hb dX10_commonest_108 rfl (lv_at hl 2 rfl) ?_
              refine lv_bipush (v := 8) hx hb dX10_commonest_109 (by decide) ?_
              refine lv_irem hx hb dX10_commonest_111 (by decide) ?_
              refine lv_iadd hx hb dX10_commonest_112 ?_
              refine W.widen (k := 2) (n := 12) (Nat.le_of_ble_eq_true rfl) (Nat.le_of_ble_eq_true rfl) ?_
              exact END (((100 * (v2_41 / 64)) + (10 * ((v2_41 - v2_41 / 64 * 64) / 8))) + (v2_41 - v2_41 / 8 * 8)) hT _ _ hP hD hS _ _ dX10_commonest_113
            · rw [if_neg c_6] at hT
              refine lv_aload_n hx hb dX10_commonest_52 rfl (lv_at hl 0 rfl) ?_
              refine lv_aload_n hx hb dX10_commonest_53 rfl (lv_at hl 0 rfl) ?_
              refine va_get (D := D) (ci := 12) (v := .ref (X 8)) (C := RX10) (T := TX10) (N := 7) hx hb hts iv_k_X10_commonest_X10 hown hK hP 0 rfl rfl 1 (by decide) (hts (.fieldLink RX10 21 "AnswerFold" "grounding" "LAnswerFold$Grounding;") (by decide +kernel)) (fun _ h9 => h9) rfl dX10_commonest_54 ?_
              refine lv_iload_n hx hb dX10_commonest_57 rfl (lv_at hl 3 rfl) ?_
              obtain ⟨t_58, ht_58⟩ : ∃ t, t = m_k_X3_openAtomAt oa v3_41 := ⟨_, rfl⟩
              rw [lE_eq ht_58] at hT
              refine wq_iW (wc := (wW_k_X3_openAtomAt ty X hn kn on cu pu gw oa)) (va_runV (As := [.int v3_41]) (rest := [.ref (X 0)]) ⟨hx, hb, hml, hown, hts⟩ (k_X3_openAtomAt l D ty td mi H.size X hn kn on cu pu gw oa v3_41 t_58 ht_58) (cwV 1 hts gv_k_X10_commonest_1 rfl rfl rfl (by decide +kernel) ⟨(Nat.le_of_ble_eq_true rfl), (Nat.le_of_ble_eq_true rfl)⟩) (wm_V (wm_preS hP hD hK hE hS hA [false, true, false, false, true] rfl) (va_recv (q0 := 1) (ci := 5) hK hP rfl rfl)) rfl rfl hl.1 rfl (lv_room (Nat.le_of_ble_eq_true rfl)) dX10_commonest_58 ⟨(Nat.le_of_ble_eq_true rfl), (Nat.le_of_ble_eq_true rfl)⟩) hS hA hP hD [false, true, false, false, true] rfl (fun _ _ h => by rcases h with ⟨-, rfl⟩; rfl) (fun r u H locs hw hP hD hS => ?_)
              obtain ⟨hr0, rfl⟩ := hw
              subst r
              have hP : va_P D vwCl (wW_k_X10_commonest ty X hn kn on cu pu gw su oa ob an ch cg fb mh ml ih lb ic nn kp se) H := hP
              have hD : va_D A (wW_k_X10_commonest ty X hn kn on cu pu gw su oa ob an ch cg fb mh ml ih lb ic nn kp se) := hD
              refine W.widen (k := 1) (n := 6) (Nat.le_of_ble_eq_true rfl) (Nat.le_of_ble_eq_true rfl) ?_
              obtain ⟨t_61, ht_61⟩ : ∃ t, t = m_k_X10_answersWith on su ob nn se t_58 := ⟨_, rfl⟩
              rw [lE_eq ht_61] at hT
              refine wq_iW (wc := (wW_k_X10_answersWith ty X hn kn on cu pu gw su ob an ch cg fb mh ml ih lb ic nn kp se)) (va_runV (As := [.int t_58]) (rest := []) ⟨hx, hb, hml, hown, hts⟩ (k_X10_answersWith l D ty td mi H.size X hn kn on cu pu gw su ob an ch cg fb mh ml ih lb ic nn kp se t_58 t_61 ht_61) (cwV 1 hts gv_k_X10_commonest_2 rfl rfl rfl (by decide +kernel) ⟨(Nat.le_of_ble_eq_true rfl), (Nat.le_of_ble_eq_true rfl)⟩) (wm_V (wm_preS hP hD hK hE hS hA [true, true, true, true, false, true, true, true, true] rfl) (va_recv (q0 := 0) (ci := 12) hK hP rfl rfl)) rfl rfl hl.1 rfl (lv_room (Nat.le_of_ble_eq_true rfl)) dX10_commonest_61 ⟨(Nat.le_of_ble_eq_true rfl), (Nat.le_of_ble_eq_true rfl)⟩) hS hA hP hD [true, true, true, true, false, true, true, true, true] rfl (fun _ _ h => by rcases h with ⟨-, rfl⟩; rfl) (fun r u H locs hw hP hD hS => ?_)
              obtain ⟨hr0, rfl⟩ := hw
              subst r
              have hP : va_P D vwCl (wW_k_X10_commonest ty X hn kn on cu pu gw su oa ob an ch cg fb mh ml ih lb ic nn kp se) H := hP
              have hD : va_D A (wW_k_X10_commonest ty X hn kn on cu pu gw su oa ob an ch cg fb mh ml ih lb ic nn kp se) := hD
              refine W.widen (k := 1) (n := 6) (Nat.le_of_ble_eq_true rfl) (Nat.le_of_ble_eq_true rfl) ?_
              refine lv_istore (lv' := [(4, .int t_61), (0, .ref (X 0)), (1, .int v1_41), (2, .int v2_41), (3, .int v3_41)]) hx hb dX10_commonest_64 hl (by decide) rfl (fun ls hl => ?_)
              refine lv_iload hx hb dX10_commonest_66 (lv_at hl 0 rfl) ?_
              refine lv_iload_n hx hb dX10_commonest_68 rfl (lv_at hl 2 rfl) ?_
              have J_84 : ∀ (v1_84 : Int32) (v2_84 : Int32), TT = m_k_X10_commonest_84 (m_k_X10_commonest_41 on su oa ob nn se n_41) v3_41 v1_84 v2_84 → ∀ (H : Heap) (locs : List Loc), va_P D vwCl (wW_k_X10_commonest ty X hn kn on cu pu gw su oa ob an ch cg fb mh ml ih lb ic nn kp se) H → va_D A (wW_k_X10_commonest ty X hn kn on cu pu gw su oa ob an ch cg fb mh ml ih lb ic nn kp se) → va_S A s.heap H locs → ∀ ls : Array Slot, lv_has ls 5 [(0, .ref (X 0)), (1, .int v1_84), (2, .int v2_84), (3, .int v3_41)] → W p l e (headSpec vs_k_X10_commonest { frames := 7, cells := 2, slots := 12, locals := 102 }).room s m ([.ref (X 0)] : List Value).toArray below meth c H locs 1 6 (vx_MQ below (va_Qi (fun (r : Int32) (u : va_W) => (TT.1 = 0 ∧ r = TT.2 ∧ (u = (wW_k_X10_commonest ty X hn kn on cu pu gw su oa ob an ch cg fb mh ml ih lb ic nn kp se)))) (wq_B D A) A) (vx_X (fun u : String × va_W => (TT.1 = 3 ∧ u = ("java/lang/IllegalStateException", (wW_k_X10_commonest ty X hn kn on cu pu gw su oa ob an ch cg fb mh ml ih lb ic nn kp se))) ∨ (TT.1 = 5 ∧ u = ("java/util/NoSuchElementException", (wW_k_X10_commonest ty X hn kn on cu pu gw su oa ob an ch cg fb mh ml ih lb ic nn kp se)))) (wq_BX D A) A) ([.ref (X 0)] : List Value).toArray s 2 12 A) (F0 m 84 ls []) := by
                intro v1_84 v2_84 hT  H locs hP hD hS ls hl
                rw [m_k_X10_commonest_84] at hT
                refine lv_iinc (v := v3_41 + 1) (lv' := [(3, .int (v3_41 + 1)), (0, .ref (X 0)), (1, .int v1_84), (2, .int v2_84)]) hx hb dX10_commonest_84 hl (k := 3) rfl (by rfl) (by decide) rfl (fun ls hl => ?_)
                refine lv_goto (tgt := 41) hx hb dX10_commonest_87 (by decide) ?_
                exact ih_41 v1_84 v2_84 (v3_41 + 1) (wi_up hu_41 (Int32.not_le.mp c_6)) hT (wi_inc hn_41 (Int32.not_le.mp c_6)) _ _ hP hD hS _ (lv_sub hl [1, 2, 3, 0] rfl)
              refine lv_icmp_le (tgt := 84) hx hb dX10_commonest_69 (by decide) (fun c_11 => ?_) (fun c_11 => ?_)
              · rw [if_pos c_11] at hT
                exact J_84 v1_41 v2_41 hT _ _ hP hD hS _ (lv_sub hl [1, 2, 3, 4] rfl)
              · rw [if_neg c_11] at hT
                refine lv_iload hx hb dX10_commonest_72 (lv_at hl 0 rfl) ?_
                refine lv_istore_n (lv' := [(1, .int t_61), (4, .int t_61), (0, .ref (X 0)), (2, .int v2_41), (3, .int v3_41)]) hx hb dX10_commonest_74 rfl hl (by decide) rfl (fun ls hl => ?_)
                refine lv_aload_n hx hb dX10_commonest_75 rfl (lv_at hl 2 rfl) ?_
                refine va_get (D := D) (ci := 12) (v := .ref (X 8)) (C := RX10) (T := TX10) (N := 7) hx hb hts iv_k_X10_commonest_X10 hown hK hP 0 rfl rfl 1 (by decide) (hts (.fieldLink RX10 21 "AnswerFold" "grounding" "LAnswerFold$Grounding;") (by decide +kernel)) (fun _ h9 => h9) rfl dX10_commonest_76 ?_
                refine lv_iload_n hx hb dX10_commonest_79 rfl (lv_at hl 4 rfl) ?_
                obtain ⟨t_80, ht_80⟩ : ∃ t, t = m_k_X3_openAtomAt oa v3_41 := ⟨_, rfl⟩
                rw [lE_eq ht_80] at hT
                refine wq_iW (wc := (wW_k_X3_openAtomAt ty X hn kn on cu pu gw oa)) (va_runV (As := [.int v3_41]) (rest := []) ⟨hx, hb, hml, hown, hts⟩ (k_X3_openAtomAt l D ty td mi H.size X hn kn on cu pu gw oa v3_41 t_80 ht_80) (cwV 1 hts gv_k_X10_commonest_3 rfl rfl rfl (by decide +kernel) ⟨(Nat.le_of_ble_eq_true rfl), (Nat.le_of_ble_eq_true rfl)⟩) (wm_V (wm_preS hP hD hK hE hS hA [false, true, false, false, true] rfl) (va_recv (q0 := 1) (ci := 5) hK hP rfl rfl)) rfl rfl hl.1 rfl (lv_room (Nat.le_of_ble_eq_true rfl)) dX10_commonest_80 ⟨(Nat.le_of_ble_eq_true rfl), (Nat.le_of_ble_eq_true rfl)⟩) hS hA hP hD [false, true, false, false, true] rfl (fun _ _ h => by rcases h with ⟨-, rfl⟩; rfl) (fun r u H locs hw hP hD hS => ?_)
                obtain ⟨hr0, rfl⟩ := hw
                subst r
                have hP : va_P D vwCl (wW_k_X10_commonest ty X hn kn on cu pu gw su oa ob an ch cg fb mh ml ih lb ic nn kp se) H := hP
                have hD : va_D A (wW_k_X10_commonest ty X hn kn on cu pu gw su oa ob an ch cg fb mh ml ih lb ic nn kp se) := hD
                refine W.widen (k := 1) (n := 6) (Nat.le_of_ble_eq_true rfl) (Nat.le_of_ble_eq_true rfl) ?_
                refine lv_istore_n (lv' := [(2, .int t_80), (1, .int t_61), (4, .int t_61), (0, .ref (X 0)), (3, .int v3_41)]) hx hb dX10_commonest_83 rfl hl (by decide) rfl (fun ls hl => ?_)
                exact J_84 t_61 t_80 hT _ _ hP hD hS _ (lv_sub hl [3, 1, 0, 4] rfl)
        exact L_41 wF (-1) 0 0 (wF_up 0) hT (by decide) _ _ hP hD hS _ (lv_sub hl [3, 2, 1, 0] rfl)
      · rw [if_neg c_5] at hT
        exact J_24 () hT _ _ hP hD hS _ (lv_sub hl [] rfl)

theorem dX4_slotOf_0 : decode cX4_slotOf 0 = .ok (.iload_n 0, 1) := by decide +kernel
theorem dX4_slotOf_1 : decode cX4_slotOf 1 = .ok (.bipush 8, 2) := by decide +kernel
theorem dX4_slotOf_3 : decode cX4_slotOf 3 = .ok (.if_icmp .ge 5, 3) := by decide +kernel
theorem dX4_slotOf_6 : decode cX4_slotOf 6 = .ok (.iconst 0, 1) := by decide +kernel
theorem dX4_slotOf_7 : decode cX4_slotOf 7 = .ok (.ireturn, 1) := by decide +kernel
theorem dX4_slotOf_8 : decode cX4_slotOf 8 = .ok (.iload_n 0, 1) := by decide +kernel
theorem dX4_slotOf_9 : decode cX4_slotOf 9 = .ok (.bipush 40, 2) := by decide +kernel
theorem dX4_slotOf_11 : decode cX4_slotOf 11 = .ok (.if_icmp .lt 7, 3) := by decide +kernel
theorem dX4_slotOf_14 : decode cX4_slotOf 14 = .ok (.iconst 4, 1) := by decide +kernel
theorem dX4_slotOf_15 : decode cX4_slotOf 15 = .ok (.goto 9, 3) := by decide +kernel
theorem dX4_slotOf_18 : decode cX4_slotOf 18 = .ok (.iconst 1, 1) := by decide +kernel
theorem dX4_slotOf_19 : decode cX4_slotOf 19 = .ok (.iload_n 0, 1) := by decide +kernel
theorem dX4_slotOf_20 : decode cX4_slotOf 20 = .ok (.bipush 10, 2) := by decide +kernel
theorem dX4_slotOf_22 : decode cX4_slotOf 22 = .ok (.irem, 1) := by decide +kernel
theorem dX4_slotOf_23 : decode cX4_slotOf 23 = .ok (.iadd, 1) := by decide +kernel
theorem dX4_slotOf_24 : decode cX4_slotOf 24 = .ok (.ireturn, 1) := by decide +kernel
def vs_k_X4_slotOf : List Cond := .code yX4_slotOf cX4_slotOf 1 (some .int) :: ([])
set_option maxHeartbeats 4000000 in
set_option maxRecDepth 100000 in
theorem k_X4_slotOf (l : Launch) (D : va_G) (ty : Nat → ClassId) (td mi sz : Nat) (a1 : Int32) (TT : r_k_X4_slotOf) (hTT : TT = m_k_X4_slotOf a1) : Met l yX4_slotOf vs_k_X4_slotOf { frames := 0, cells := 0, slots := 0, locals := 0 } (va_Pc [.int a1] (wq_P D ty td mi [] sz)) (va_Qi (fun (r : Int32) (u : va_W) => (r = TT ∧ (u = []))) (wq_B D (va_A [] sz)) (va_A [] sz)) 0 0 (va_A [] sz) := by
  refine Met.ofW (cc := cX4_slotOf) (maxL := 1) (ret := (some .int)) (by decide) rfl ?_
  intro p e s m args below meth c s₁ B hml hv
  obtain ⟨rfl, hsz, hP, hK, hD0, hE⟩ := hv
  have hx := B.exec
  have hb := B.bytes
  have hr := B.returns
  have hts := atoms_spec (ws := vs_k_X4_slotOf) B.pre
  have hown : s.vm.findClass RX4 = some m.cls := findClass_of_methodNamed B.named
  have hlocks := B.notSynchronized
  subst hsz
  have hD := hD0.self (sz := s.heap.size)
  generalize hAe : va_A [] s.heap.size = A at hD hE ⊢
  have hA : ∀ q : Nat, s.heap.size ≤ q → A q := fun q h => by rw [← hAe]; exact Or.inr h
  have hS : va_S A s.heap s.heap [] := va_S.rf
  have hP : va_P D vwCl [] s.heap := hP
  have hl := lv_entry ([.int a1]) (n := 1) (Nat.le_of_ble_eq_true rfl)
  rw [lg_entry_eq]
  generalize (lg_sl ([.int a1]) ++ List.replicate (1 - (lg_sl ([.int a1])).length) Slot.unset).toArray = ls at hl ⊢
  have hl : lv_has ls 1 [(0, .int a1)] := hl
  have END : ∀ (r : Int32), TT = r → ∀ (H : Heap) (locs : List Loc), va_P D vwCl [] H → va_D A [] → va_S A s.heap H locs → ∀ (ls : Array Slot) (pc : Nat), decode cX4_slotOf pc = .ok (.ireturn, 1) → W p l e (headSpec vs_k_X4_slotOf { frames := 0, cells := 0, slots := 0, locals := 0 }).room s m ([.int a1] : List Value).toArray below meth c H locs 0 0 (MQ below (va_Qi (fun (r : Int32) (u : va_W) => (r = TT ∧ (u = []))) (wq_B D A) A) ([.int a1] : List Value).toArray s 0 0 A) (F0 m pc ls [.int r]) := by
    intro r hT H locs hP hD hS ls pc hd
    have hM : TT = r := hT
    exact W.iret (v := r) hx hb hr (fun t ht hW => ⟨⟨r, [], rfl, ⟨(by rw [hM]), rfl⟩, wq_B.of ht hP hD⟩, hS.F ht⟩) hS.2.2 hd
  have hT := hTT
  rw [m_k_X4_slotOf] at hT
  refine lv_iload_n hx hb dX4_slotOf_0 rfl (lv_at hl 0 rfl) ?_
  refine lv_bipush (v := 8) hx hb dX4_slotOf_1 (by decide) ?_
  refine lv_icmp_ge (tgt := 8) hx hb dX4_slotOf_3 (by decide) (fun c_1 => ?_) (fun c_1 => ?_)
  · rw [if_pos c_1] at hT
    refine lv_iload_n hx hb dX4_slotOf_8 rfl (lv_at hl 0 rfl) ?_
    refine lv_bipush (v := 40) hx hb dX4_slotOf_9 (by decide) ?_
    refine lv_icmp_lt (tgt := 18) hx hb dX4_slotOf_11 (by decide) (fun c_2 => ?_) (fun c_2 => ?_)
    · rw [if_pos c_2] at hT
      refine lv_iconst (v := 1) hx hb dX4_slotOf_18 (by decide) ?_
      refine lv_iload_n hx hb dX4_slotOf_19 rfl (lv_at hl 0 rfl) ?_
      refine lv_bipush (v := 10) hx hb dX4_slotOf_20 (by decide) ?_
      refine lv_irem hx hb dX4_slotOf_22 (by decide) ?_
      refine lv_iadd hx hb dX4_slotOf_23 ?_
      exact END (1 + (a1 - a1 / 10 * 10)) hT _ _ hP hD hS _ _ dX4_slotOf_24
    · rw [if_neg c_2] at hT
      refine lv_iconst (v := 4) hx hb dX4_slotOf_14 (by decide) ?_
      refine lv_goto (tgt := 24) hx hb dX4_slotOf_15 (by decide) ?_
      exact END 4 hT _ _ hP hD hS _ _ dX4_slotOf_24
  · rw [if_neg c_1] at hT
    refine lv_iconst (v := 0) hx hb dX4_slotOf_6 (by decide) ?_
    exact END 0 hT _ _ hP hD hS _ _ dX4_slotOf_7
theorem dX4_shiftOf_0 : decode cX4_shiftOf 0 = .ok (.iload_n 0, 1) := by decide +kernel
theorem dX4_shiftOf_1 : decode cX4_shiftOf 1 = .ok (.bipush 8, 2) := by decide +kernel
theorem dX4_shiftOf_3 : decode cX4_shiftOf 3 = .ok (.if_icmp .ge 5, 3) := by decide +kernel
theorem dX4_shiftOf_6 : decode cX4_shiftOf 6 = .ok (.iload_n 0, 1) := by decide +kernel
theorem dX4_shiftOf_7 : decode cX4_shiftOf 7 = .ok (.ireturn, 1) := by decide +kernel
theorem dX4_shiftOf_8 : decode cX4_shiftOf 8 = .ok (.iload_n 0, 1) := by decide +kernel
theorem dX4_shiftOf_9 : decode cX4_shiftOf 9 = .ok (.bipush 20, 2) := by decide +kernel
theorem dX4_shiftOf_11 : decode cX4_shiftOf 11 = .ok (.if_icmp .lt 11, 3) := by decide +kernel
theorem dX4_shiftOf_14 : decode cX4_shiftOf 14 = .ok (.iload_n 0, 1) := by decide +kernel
theorem dX4_shiftOf_15 : decode cX4_shiftOf 15 = .ok (.bipush 30, 2) := by decide +kernel
theorem dX4_shiftOf_17 : decode cX4_shiftOf 17 = .ok (.if_icmp .ge 5, 3) := by decide +kernel
theorem dX4_shiftOf_20 : decode cX4_shiftOf 20 = .ok (.iconst 1, 1) := by decide +kernel
theorem dX4_shiftOf_21 : decode cX4_shiftOf 21 = .ok (.ireturn, 1) := by decide +kernel
theorem dX4_shiftOf_22 : decode cX4_shiftOf 22 = .ok (.iload_n 0, 1) := by decide +kernel
theorem dX4_shiftOf_23 : decode cX4_shiftOf 23 = .ok (.bipush 30, 2) := by decide +kernel
theorem dX4_shiftOf_25 : decode cX4_shiftOf 25 = .ok (.if_icmp .lt 13, 3) := by decide +kernel
theorem dX4_shiftOf_28 : decode cX4_shiftOf 28 = .ok (.iload_n 0, 1) := by decide +kernel
theorem dX4_shiftOf_29 : decode cX4_shiftOf 29 = .ok (.bipush 40, 2) := by decide +kernel
theorem dX4_shiftOf_31 : decode cX4_shiftOf 31 = .ok (.if_icmp .eq 7, 3) := by decide +kernel
theorem dX4_shiftOf_34 : decode cX4_shiftOf 34 = .ok (.iconst (-1), 1) := by decide +kernel
theorem dX4_shiftOf_35 : decode cX4_shiftOf 35 = .ok (.goto 4, 3) := by decide +kernel
theorem dX4_shiftOf_38 : decode cX4_shiftOf 38 = .ok (.iconst 0, 1) := by decide +kernel
theorem dX4_shiftOf_39 : decode cX4_shiftOf 39 = .ok (.ireturn, 1) := by decide +kernel
def vs_k_X4_shiftOf : List Cond := .code yX4_shiftOf cX4_shiftOf 1 (some .int) :: ([])
set_option maxHeartbeats 4000000 in
set_option maxRecDepth 100000 in
theorem k_X4_shiftOf (l : Launch) (D : va_G) (ty : Nat → ClassId) (td mi sz : Nat) (a1 : Int32) (TT : r_k_X4_shiftOf) (hTT : TT = m_k_X4_shiftOf a1) : Met l yX4_shiftOf vs_k_X4_shiftOf { frames := 0, cells := 0, slots := 0, locals := 0 } (va_Pc [.int a1] (wq_P D ty td mi [] sz)) (va_Qi (fun (r : Int32) (u : va_W) => (r = TT ∧ (u = []))) (wq_B D (va_A [] sz)) (va_A [] sz)) 0 0 (va_A [] sz) := by
  refine Met.ofW (cc := cX4_shiftOf) (maxL := 1) (ret := (some .int)) (by decide) rfl ?_
  intro p e s m args below meth c s₁ B hml hv
  obtain ⟨rfl, hsz, hP, hK, hD0, hE⟩ := hv
  have hx := B.exec
  have hb := B.bytes
  have hr := B.returns
  have hts := atoms_spec (ws := vs_k_X4_shiftOf) B.pre
  have hown : s.vm.findClass RX4 = some m.cls := findClass_of_methodNamed B.named
  have hlocks := B.notSynchronized
  subst hsz
  have hD := hD0.self (sz := s.heap.size)
  generalize hAe : va_A [] s.heap.size = A at hD hE ⊢
  have hA : ∀ q : Nat, s.heap.size ≤ q → A q := fun q h => by rw [← hAe]; exact Or.inr h
  have hS : va_S A s.heap s.heap [] := va_S.rf
  have hP : va_P D vwCl [] s.heap := hP
  have hl := lv_entry ([.int a1]) (n := 1) (Nat.le_of_ble_eq_true rfl)
  rw [lg_entry_eq]
  generalize (lg_sl ([.int a1]) ++ List.replicate (1 - (lg_sl ([.int a1])).length) Slot.unset).toArray = ls at hl ⊢
  have hl : lv_has ls 1 [(0, .int a1)] := hl
  have END : ∀ (r : Int32), TT = r → ∀ (H : Heap) (locs : List Loc), va_P D vwCl [] H → va_D A [] → va_S A s.heap H locs → ∀ (ls : Array Slot) (pc : Nat), decode cX4_shiftOf pc = .ok (.ireturn, 1) → W p l e (headSpec vs_k_X4_shiftOf { frames := 0, cells := 0, slots := 0, locals := 0 }).room s m ([.int a1] : List Value).toArray below meth c H locs 0 0 (MQ below (va_Qi (fun (r : Int32) (u : va_W) => (r = TT ∧ (u = []))) (wq_B D A) A) ([.int a1] : List Value).toArray s 0 0 A) (F0 m pc ls [.int r]) := by
    intro r hT H locs hP hD hS ls pc hd
    have hM : TT = r := hT
    exact W.iret (v := r) hx hb hr (fun t ht hW => ⟨⟨r, [], rfl, ⟨(by rw [hM]), rfl⟩, wq_B.of ht hP hD⟩, hS.F ht⟩) hS.2.2 hd
  have hT := hTT
  rw [m_k_X4_shiftOf] at hT
  refine lv_iload_n hx hb dX4_shiftOf_0 rfl (lv_at hl 0 rfl) ?_
  refine lv_bipush (v := 8) hx hb dX4_shiftOf_1 (by decide) ?_
  refine lv_icmp_ge (tgt := 8) hx hb dX4_shiftOf_3 (by decide) (fun c_1 => ?_) (fun c_1 => ?_)
  · rw [if_pos c_1] at hT
    refine lv_iload_n hx hb dX4_shiftOf_8 rfl (lv_at hl 0 rfl) ?_
    refine lv_bipush (v := 20) hx hb dX4_shiftOf_9 (by decide) ?_
    have J_22 : ∀ (_ : Unit), TT = m_k_X4_shiftOf_22 a1 → ∀ (H : Heap) (locs : List Loc), va_P D vwCl [] H → va_D A [] → va_S A s.heap H locs → ∀ ls : Array Slot, lv_has ls 1 [(0, .int a1)] → W p l e (headSpec vs_k_X4_shiftOf { frames := 0, cells := 0, slots := 0, locals := 0 }).room s m ([.int a1] : List Value).toArray below meth c H locs 0 0 (MQ below (va_Qi (fun (r : Int32) (u : va_W) => (r = TT ∧ (u = []))) (wq_B D A) A) ([.int a1] : List Value).toArray s 0 0 A) (F0 m 22 ls []) := by
      intro _ hT  H locs hP hD hS ls hl
      rw [m_k_X4_shiftOf_22] at hT
      refine lv_iload_n hx hb dX4_shiftOf_22 rfl (lv_at hl 0 rfl) ?_
      refine lv_bipush (v := 30) hx hb dX4_shiftOf_23 (by decide) ?_
      refine lv_icmp_lt (tgt := 38) hx hb dX4_shiftOf_25 (by decide) (fun c_2 => ?_) (fun c_2 => ?_)
      · rw [if_pos c_2] at hT
        refine lv_iconst (v := 0) hx hb dX4_shiftOf_38 (by decide) ?_
        exact END 0 hT _ _ hP hD hS _ _ dX4_shiftOf_39
      · rw [if_neg c_2] at hT
        refine lv_iload_n hx hb dX4_shiftOf_28 rfl (lv_at hl 0 rfl) ?_
        refine lv_bipush (v := 40) hx hb dX4_shiftOf_29 (by decide) ?_
        refine lv_icmp_eq (tgt := 38) hx hb dX4_shiftOf_31 (by decide) (fun c_3 => ?_) (fun c_3 => ?_)
        · rw [if_pos c_3] at hT
          refine lv_iconst (v := 0) hx hb dX4_shiftOf_38 (by decide) ?_
          exact END 0 hT _ _ hP hD hS _ _ dX4_shiftOf_39
        · rw [if_neg c_3] at hT
          refine lv_iconst (v := (-1)) hx hb dX4_shiftOf_34 (by decide) ?_
          refine lv_goto (tgt := 39) hx hb dX4_shiftOf_35 (by decide) ?_
          exact END (-1) hT _ _ hP hD hS _ _ dX4_shiftOf_39
    refine lv_icmp_lt (tgt := 22) hx hb dX4_shiftOf_11 (by decide) (fun c_4 => ?_) (fun c_4 => ?_)
    · rw [if_pos c_4] at hT
      exact J_22 () hT _ _ hP hD hS _ (lv_sub hl [0] rfl)
    · rw [if_neg c_4] at hT
      refine lv_iload_n hx hb dX4_shiftOf_14 rfl (lv_at hl 0 rfl) ?_
      refine lv_bipush (v := 30) hx hb dX4_shiftOf_15 (by decide) ?_
      refine lv_icmp_ge (tgt := 22) hx hb dX4_shiftOf_17 (by decide) (fun c_5 => ?_) (fun c_5 => ?_)
      · rw [if_pos c_5] at hT
        exact J_22 () hT _ _ hP hD hS _ (lv_sub hl [0] rfl)
      · rw [if_neg c_5] at hT
        refine lv_iconst (v := 1) hx hb dX4_shiftOf_20 (by decide) ?_
        exact END 1 hT _ _ hP hD hS _ _ dX4_shiftOf_21
  · rw [if_neg c_1] at hT
    refine lv_iload_n hx hb dX4_shiftOf_6 rfl (lv_at hl 0 rfl) ?_
    exact END a1 hT _ _ hP hD hS _ _ dX4_shiftOf_7
theorem dX4_init_0 : decode cX4_init 0 = .ok (.aload_n 0, 1) := by decide +kernel
theorem dX4_init_1 : decode cX4_init 1 = .ok (.invokespecial 3, 3) := by decide +kernel
theorem dX4_init_4 : decode cX4_init 4 = .ok (.aload_n 0, 1) := by decide +kernel
theorem dX4_init_5 : decode cX4_init 5 = .ok (.iload_n 1, 1) := by decide +kernel
theorem dX4_init_6 : decode cX4_init 6 = .ok (.putfield 9, 3) := by decide +kernel
theorem dX4_init_9 : decode cX4_init 9 = .ok (.aload_n 0, 1) := by decide +kernel
theorem dX4_init_10 : decode cX4_init 10 = .ok (.iload_n 2, 1) := by decide +kernel
theorem dX4_init_11 : decode cX4_init 11 = .ok (.putfield 15, 3) := by decide +kernel
theorem dX4_init_14 : decode cX4_init 14 = .ok (.aload_n 0, 1) := by decide +kernel
theorem dX4_init_15 : decode cX4_init 15 = .ok (.iload_n 3, 1) := by decide +kernel
theorem dX4_init_16 : decode cX4_init 16 = .ok (.putfield 19, 3) := by decide +kernel
theorem dX4_init_19 : decode cX4_init 19 = .ok (.aload_n 0, 1) := by decide +kernel
theorem dX4_init_20 : decode cX4_init 20 = .ok (.iload 4, 2) := by decide +kernel
theorem dX4_init_22 : decode cX4_init 22 = .ok (.invokestatic 22, 3) := by decide +kernel
theorem dX4_init_25 : decode cX4_init 25 = .ok (.putfield 26, 3) := by decide +kernel
theorem dX4_init_28 : decode cX4_init 28 = .ok (.aload_n 0, 1) := by decide +kernel
theorem dX4_init_29 : decode cX4_init 29 = .ok (.iload 4, 2) := by decide +kernel
theorem dX4_init_31 : decode cX4_init 31 = .ok (.invokestatic 29, 3) := by decide +kernel
theorem dX4_init_34 : decode cX4_init 34 = .ok (.putfield 32, 3) := by decide +kernel
theorem dX4_init_37 : decode cX4_init 37 = .ok (.aload_n 0, 1) := by decide +kernel
theorem dX4_init_38 : decode cX4_init 38 = .ok (.iload 5, 2) := by decide +kernel
theorem dX4_init_40 : decode cX4_init 40 = .ok (.invokestatic 22, 3) := by decide +kernel
theorem dX4_init_43 : decode cX4_init 43 = .ok (.putfield 35, 3) := by decide +kernel
theorem dX4_init_46 : decode cX4_init 46 = .ok (.aload_n 0, 1) := by decide +kernel
theorem dX4_init_47 : decode cX4_init 47 = .ok (.iload 5, 2) := by decide +kernel
theorem dX4_init_49 : decode cX4_init 49 = .ok (.invokestatic 29, 3) := by decide +kernel
theorem dX4_init_52 : decode cX4_init 52 = .ok (.putfield 38, 3) := by decide +kernel
theorem dX4_init_55 : decode cX4_init 55 = .ok (.aload_n 0, 1) := by decide +kernel
theorem dX4_init_56 : decode cX4_init 56 = .ok (.aload_n 0, 1) := by decide +kernel
theorem dX4_init_57 : decode cX4_init 57 = .ok (.getfield 26, 3) := by decide +kernel
theorem dX4_init_60 : decode cX4_init 60 = .ok (.iconst 4, 1) := by decide +kernel
theorem dX4_init_61 : decode cX4_init 61 = .ok (.if_icmp .ne 7, 3) := by decide +kernel
theorem dX4_init_64 : decode cX4_init 64 = .ok (.iconst 0, 1) := by decide +kernel
theorem dX4_init_65 : decode cX4_init 65 = .ok (.goto 7, 3) := by decide +kernel
theorem dX4_init_68 : decode cX4_init 68 = .ok (.aload_n 0, 1) := by decide +kernel
theorem dX4_init_69 : decode cX4_init 69 = .ok (.getfield 26, 3) := by decide +kernel
theorem dX4_init_72 : decode cX4_init 72 = .ok (.aload_n 0, 1) := by decide +kernel
theorem dX4_init_73 : decode cX4_init 73 = .ok (.getfield 35, 3) := by decide +kernel
theorem dX4_init_76 : decode cX4_init 76 = .ok (.iconst 4, 1) := by decide +kernel
theorem dX4_init_77 : decode cX4_init 77 = .ok (.if_icmp .ne 7, 3) := by decide +kernel
theorem dX4_init_80 : decode cX4_init 80 = .ok (.iconst 0, 1) := by decide +kernel
theorem dX4_init_81 : decode cX4_init 81 = .ok (.goto 7, 3) := by decide +kernel
theorem dX4_init_84 : decode cX4_init 84 = .ok (.aload_n 0, 1) := by decide +kernel
theorem dX4_init_85 : decode cX4_init 85 = .ok (.getfield 35, 3) := by decide +kernel
theorem dX4_init_88 : decode cX4_init 88 = .ok (.invokestatic 41, 3) := by decide +kernel
theorem dX4_init_91 : decode cX4_init 91 = .ok (.putfield 47, 3) := by decide +kernel
theorem dX4_init_94 : decode cX4_init 94 = .ok (.return_, 1) := by decide +kernel
def wW_k_X4_init (ty : Nat → ClassId) (h0 : Nat) (z9_0 : Int32) (z9_1 : Int32) (z9_2 : Int32) (z9_3 : Int32) (z9_4 : Int32) (z9_5 : Int32) (z9_6 : Int32) (z9_7 : Int32) : va_W := [(h0, .inr (6, [.int z9_0, .int z9_1, .int z9_2, .int z9_3, .int z9_4, .int z9_5, .int z9_6, .int z9_7]))]
def vs_k_X4_init : List Cond := .code yX4_init cX4_init 6 none :: ([.methodLink RX4 3 objectInit, .instanceMethod objectInit, .code objectInit ⟨#[0xb1]⟩ 1 none, .fieldLink RX4 9 "AnswerFold$Literal" "kind" "C", .fieldLink RX4 15 "AnswerFold$Literal" "predicate" "I", .fieldLink RX4 19 "AnswerFold$Literal" "bound" "I", .methodLink RX4 22 yX4_slotOf, .static yX4_slotOf, .initialized RX4, .fieldLink RX4 26 "AnswerFold$Literal" "firstSlot" "I", .methodLink RX4 29 yX4_shiftOf, .static yX4_shiftOf, .fieldLink RX4 32 "AnswerFold$Literal" "firstShift" "I", .fieldLink RX4 35 "AnswerFold$Literal" "secondSlot" "I", .fieldLink RX4 38 "AnswerFold$Literal" "secondShift" "I", .methodLink RX4 41 Lib.Math.max.name, .static Lib.Math.max.name, .initialized "java/lang/Math", .code Lib.Math.max.name Lib.Math.max.code 2 (some .int), .fieldLink RX4 47 "AnswerFold$Literal" "depth" "I"] ++ (u_ws RX4 TX4 8 ++ (vs_k_X4_slotOf ++ (vs_k_X4_shiftOf))))
theorem iv_k_X4_init_X4 : ∀ w ∈ u_ws RX4 TX4 8, w ∈ vs_k_X4_init := (fun _ h => List.mem_cons_of_mem _ (List.mem_append_right _ (List.mem_append_left _ h)))
set_option maxRecDepth 20000 in
theorem gv_k_X4_init_0 : GoodIn vs_k_X4_init (va_wsS RX4 22 yX4_slotOf vs_k_X4_slotOf) := goodIn_app (goodIn_sub (by decide +kernel) (by decide +kernel)) (goodIn_sub (fun _ h => List.mem_cons_of_mem _ (List.mem_append_right _ (List.mem_append_right _ (List.mem_append_left _ h)))) (by decide +kernel))
set_option maxRecDepth 20000 in
theorem gv_k_X4_init_1 : GoodIn vs_k_X4_init (va_wsS RX4 29 yX4_shiftOf vs_k_X4_shiftOf) := goodIn_app (goodIn_sub (by decide +kernel) (by decide +kernel)) (goodIn_sub (fun _ h => List.mem_cons_of_mem _ (List.mem_append_right _ (List.mem_append_right _ (List.mem_append_right _ (h))))) (by decide +kernel))
set_option maxRecDepth 20000 in
theorem gv_k_X4_init_2 : GoodIn vs_k_X4_init (va_wsS RX4 22 yX4_slotOf vs_k_X4_slotOf) := goodIn_app (goodIn_sub (by decide +kernel) (by decide +kernel)) (goodIn_sub (fun _ h => List.mem_cons_of_mem _ (List.mem_append_right _ (List.mem_append_right _ (List.mem_append_left _ h)))) (by decide +kernel))
set_option maxRecDepth 20000 in
theorem gv_k_X4_init_3 : GoodIn vs_k_X4_init (va_wsS RX4 29 yX4_shiftOf vs_k_X4_shiftOf) := goodIn_app (goodIn_sub (by decide +kernel) (by decide +kernel)) (goodIn_sub (fun _ h => List.mem_cons_of_mem _ (List.mem_append_right _ (List.mem_append_right _ (List.mem_append_right _ (h))))) (by decide +kernel))
set_option maxHeartbeats 4000000 in
set_option maxRecDepth 100000 in
theorem k_X4_init (l : Launch) (D : va_G) (ty : Nat → ClassId) (td mi sz : Nat) (h0 : Nat) (a1 : Int32) (a2 : Int32) (a3 : Int32) (a4 : Int32) (a5 : Int32) (hcv_a1 : narrow .char (.int a1) = .int a1 ∧ fits .char (.int a1) = true) (TT : r_k_X4_init) (hTT : TT = m_k_X4_init a1 a2 a3 a4 a5) : Met l yX4_init vs_k_X4_init { frames := 1, cells := 0, slots := 0, locals := 20 } (va_Pc [.ref h0, .int a1, .int a2, .int a3, .int a4, .int a5] (wq_P D ty td mi (wW_k_X4_init ty h0 (0) (0) (0) (0) (0) (0) (0) (0)) sz)) (va_Qv (fun u : va_W => ((u = (wW_k_X4_init ty h0 TT.1 TT.2.1 TT.2.2.1 TT.2.2.2.1 TT.2.2.2.2.1 TT.2.2.2.2.2.1 TT.2.2.2.2.2.2.1 TT.2.2.2.2.2.2.2)))) (wq_B D (va_A (wW_k_X4_init ty h0 (0) (0) (0) (0) (0) (0) (0) (0)) sz)) (va_A (wW_k_X4_init ty h0 (0) (0) (0) (0) (0) (0) (0) (0)) sz)) 0 0 (va_A (wW_k_X4_init ty h0 (0) (0) (0) (0) (0) (0) (0) (0)) sz) := by
  refine Met.ofW (cc := cX4_init) (maxL := 6) (ret := none) (by decide) rfl ?_
  intro p e s m args below meth c s₁ B hml hv
  obtain ⟨rfl, hsz, hP, hK, hD0, hE⟩ := hv
  have hx := B.exec
  have hb := B.bytes
  have hr := B.returns
  have hts := atoms_spec (ws := vs_k_X4_init) B.pre
  have hown : s.vm.findClass RX4 = some m.cls := findClass_of_methodNamed B.named
  have hlocks := B.notSynchronized
  have hin : meth.name = "<init>" := (name_of_methodNamed B.named B.method).1
  subst hsz
  have hD := hD0.self (sz := s.heap.size)
  generalize hAe : va_A (wW_k_X4_init ty h0 (0) (0) (0) (0) (0) (0) (0) (0)) s.heap.size = A at hD hE ⊢
  have hA : ∀ q : Nat, s.heap.size ≤ q → A q := fun q h => by rw [← hAe]; exact Or.inr h
  have hS : va_S A s.heap s.heap [] := va_S.rf
  have hP : va_P D vwCl (wW_k_X4_init ty h0 (0) (0) (0) (0) (0) (0) (0) (0)) s.heap := hP
  have hl := lv_entry ([.ref h0, .int a1, .int a2, .int a3, .int a4, .int a5]) (n := 6) (Nat.le_of_ble_eq_true rfl)
  rw [lg_entry_eq]
  generalize (lg_sl ([.ref h0, .int a1, .int a2, .int a3, .int a4, .int a5]) ++ List.replicate (6 - (lg_sl ([.ref h0, .int a1, .int a2, .int a3, .int a4, .int a5])).length) Slot.unset).toArray = ls at hl ⊢
  have hl : lv_has ls 6 [(0, .ref h0), (1, .int a1), (2, .int a2), (3, .int a3), (4, .int a4), (5, .int a5)] := hl
  have END : ∀ (w9_0 : Int32) (w9_1 : Int32) (w9_2 : Int32) (w9_3 : Int32) (w9_4 : Int32) (w9_5 : Int32) (w9_6 : Int32) (w9_7 : Int32), TT = (w9_0, w9_1, w9_2, w9_3, w9_4, w9_5, w9_6, w9_7) → ∀ (H : Heap) (locs : List Loc), va_P D vwCl (wW_k_X4_init ty h0 w9_0 w9_1 w9_2 w9_3 w9_4 w9_5 w9_6 w9_7) H → va_D A (wW_k_X4_init ty h0 w9_0 w9_1 w9_2 w9_3 w9_4 w9_5 w9_6 w9_7) → va_S A s.heap H locs → ∀ (ls : Array Slot) (pc : Nat), decode cX4_init pc = .ok (.return_, 1) → W p l e (headSpec vs_k_X4_init { frames := 1, cells := 0, slots := 0, locals := 20 }).room s m ([.ref h0, .int a1, .int a2, .int a3, .int a4, .int a5] : List Value).toArray below meth c H locs 0 0 (MQ below (va_Qv (fun u : va_W => ((u = (wW_k_X4_init ty h0 TT.1 TT.2.1 TT.2.2.1 TT.2.2.2.1 TT.2.2.2.2.1 TT.2.2.2.2.2.1 TT.2.2.2.2.2.2.1 TT.2.2.2.2.2.2.2)))) (wq_B D A) A) ([.ref h0, .int a1, .int a2, .int a3, .int a4, .int a5] : List Value).toArray s 0 0 A) (F0 m pc ls []) := by
    intro w9_0 w9_1 w9_2 w9_3 w9_4 w9_5 w9_6 w9_7 hT H locs hP hD hS ls pc hd
    have hM : TT = (w9_0, w9_1, w9_2, w9_3, w9_4, w9_5, w9_6, w9_7) := hT
    exact W.vret hx hb hr (fun t ht hW => ⟨⟨(wW_k_X4_init ty h0 w9_0 w9_1 w9_2 w9_3 w9_4 w9_5 w9_6 w9_7), rfl, (by rw [hM]), wq_B.of ht hP hD⟩, hS.F ht⟩) hS.2.2 hd
  have hT := hTT
  rw [m_k_X4_init] at hT
  refine lv_aload_n hx hb dX4_init_0 rfl (lv_at hl 0 rfl) ?_
  refine W.objInit hx hb hown (hts (.methodLink RX4 3 objectInit) (by decide +kernel)) (hts (.instanceMethod objectInit) (by decide +kernel)) (hts (.code objectInit ⟨#[0xb1]⟩ 1 none) (by decide +kernel)) rfl (by rw [hml]; exact hl.1) rfl dX4_init_1 (Nat.le_of_ble_eq_true rfl) (Nat.le_of_ble_eq_true rfl) ?_
  refine W.eq (g2 := F0 m 4 ls []) rfl ?_
  refine lv_aload_n hx hb dX4_init_4 rfl (lv_at hl 0 rfl) ?_
  refine lv_iload_n hx hb dX4_init_5 rfl (lv_at hl 1 rfl) ?_
  refine va_putF (D := D) (ci := 6) (v := .int a1) (ty := tyX4 0) (C := RX4) (T := TX4) (N := 8) hx hb hts iv_k_X4_init_X4 tyX4 tyX4_ok nmX4 hown hK hP hD hS 0 rfl rfl 0 (by decide) (hts (.fieldLink RX4 9 "AnswerFold$Literal" "kind" "C") (by decide +kernel)) (fun _ h9 => h9) rfl hin rfl (by decide +kernel) hcv_a1.1 hcv_a1.2 (Nat.le_of_ble_eq_true rfl) dX4_init_6 (fun H locs hP hD hS => ?_)
  have hP : va_P D vwCl (wW_k_X4_init ty h0 a1 (0) (0) (0) (0) (0) (0) (0)) H := hP
  have hD : va_D A (wW_k_X4_init ty h0 a1 (0) (0) (0) (0) (0) (0) (0)) := hD
  refine lv_aload_n hx hb dX4_init_9 rfl (lv_at hl 0 rfl) ?_
  refine lv_iload_n hx hb dX4_init_10 rfl (lv_at hl 2 rfl) ?_
  refine va_putF (D := D) (ci := 6) (v := .int a2) (ty := tyX4 1) (C := RX4) (T := TX4) (N := 8) hx hb hts iv_k_X4_init_X4 tyX4 tyX4_ok nmX4 hown hK hP hD hS 0 rfl rfl 1 (by decide) (hts (.fieldLink RX4 15 "AnswerFold$Literal" "predicate" "I") (by decide +kernel)) (fun _ h9 => h9) rfl hin rfl (by decide +kernel) rfl rfl (Nat.le_of_ble_eq_true rfl) dX4_init_11 (fun H locs hP hD hS => ?_)
  have hP : va_P D vwCl (wW_k_X4_init ty h0 a1 a2 (0) (0) (0) (0) (0) (0)) H := hP
  have hD : va_D A (wW_k_X4_init ty h0 a1 a2 (0) (0) (0) (0) (0) (0)) := hD
  refine lv_aload_n hx hb dX4_init_14 rfl (lv_at hl 0 rfl) ?_
  refine lv_iload_n hx hb dX4_init_15 rfl (lv_at hl 3 rfl) ?_
  refine va_putF (D := D) (ci := 6) (v := .int a3) (ty := tyX4 2) (C := RX4) (T := TX4) (N := 8) hx hb hts iv_k_X4_init_X4 tyX4 tyX4_ok nmX4 hown hK hP hD hS 0 rfl rfl 2 (by decide) (hts (.fieldLink RX4 19 "AnswerFold$Literal" "bound" "I") (by decide +kernel)) (fun _ h9 => h9) rfl hin rfl (by decide +kernel) rfl rfl (Nat.le_of_ble_eq_true rfl) dX4_init_16 (fun H locs hP hD hS => ?_)
  have hP : va_P D vwCl (wW_k_X4_init ty h0 a1 a2 a3 (0) (0) (0) (0) (0)) H := hP
  have hD : va_D A (wW_k_X4_init ty h0 a1 a2 a3 (0) (0) (0) (0) (0)) := hD
  refine lv_aload_n hx hb dX4_init_19 rfl (lv_at hl 0 rfl) ?_
  refine lv_iload hx hb dX4_init_20 (lv_at hl 4 rfl) ?_
  obtain ⟨t_22, ht_22⟩ : ∃ t, t = m_k_X4_slotOf a4 := ⟨_, rfl⟩
  rw [lE_eq ht_22] at hT
  refine wq_iW (wc := []) (va_runS (As := [.int a4]) (rest := [.ref h0]) ⟨hx, hb, hml, hown, hts⟩ (k_X4_slotOf l D ty td mi H.size a4 t_22 ht_22) (va_cwS 1 hts gv_k_X4_init_0 rfl rfl rfl (by decide +kernel) ⟨(Nat.le_of_ble_eq_true rfl), (Nat.le_of_ble_eq_true rfl)⟩) (wm_preS hP hD hK hE hS hA [] rfl) rfl rfl hl.1 rfl (lv_room (Nat.le_of_ble_eq_true rfl)) dX4_init_22 ⟨(Nat.le_of_ble_eq_true rfl), (Nat.le_of_ble_eq_true rfl)⟩) hS hA hP hD [] rfl (fun _ _ h => by rcases h with ⟨-, rfl⟩; rfl) (fun r u H locs hw hP hD hS => ?_)
  obtain ⟨hr0, rfl⟩ := hw
  subst r
  have hP : va_P D vwCl (wW_k_X4_init ty h0 a1 a2 a3 (0) (0) (0) (0) (0)) H := hP
  have hD : va_D A (wW_k_X4_init ty h0 a1 a2 a3 (0) (0) (0) (0) (0)) := hD
  refine W.widen (k := 0) (n := 0) (Nat.le_of_ble_eq_true rfl) (Nat.le_of_ble_eq_true rfl) ?_
  refine va_putF (D := D) (ci := 6) (v := .int t_22) (ty := tyX4 3) (C := RX4) (T := TX4) (N := 8) hx hb hts iv_k_X4_init_X4 tyX4 tyX4_ok nmX4 hown hK hP hD hS 0 rfl rfl 3 (by decide) (hts (.fieldLink RX4 26 "AnswerFold$Literal" "firstSlot" "I") (by decide +kernel)) (fun _ h9 => h9) rfl hin rfl (by decide +kernel) rfl rfl (Nat.le_of_ble_eq_true rfl) dX4_init_25 (fun H locs hP hD hS => ?_)
  have hP : va_P D vwCl (wW_k_X4_init ty h0 a1 a2 a3 t_22 (0) (0) (0) (0)) H := hP
  have hD : va_D A (wW_k_X4_init ty h0 a1 a2 a3 t_22 (0) (0) (0) (0)) := hD
  refine lv_aload_n hx hb dX4_init_28 rfl (lv_at hl 0 rfl) ?_
  refine lv_iload hx hb dX4_init_29 (lv_at hl 4 rfl) ?_
  obtain ⟨t_31, ht_31⟩ : ∃ t, t = m_k_X4_shiftOf a4 := ⟨_, rfl⟩
  rw [lE_eq ht_31] at hT
  refine wq_iW (wc := []) (va_runS (As := [.int a4]) (rest := [.ref h0]) ⟨hx, hb, hml, hown, hts⟩ (k_X4_shiftOf l D ty td mi H.size a4 t_31 ht_31) (va_cwS 1 hts gv_k_X4_init_1 rfl rfl rfl (by decide +kernel) ⟨(Nat.le_of_ble_eq_true rfl), (Nat.le_of_ble_eq_true rfl)⟩) (wm_preS hP hD hK hE hS hA [] rfl) rfl rfl hl.1 rfl (lv_room (Nat.le_of_ble_eq_true rfl)) dX4_init_31 ⟨(Nat.le_of_ble_eq_true rfl), (Nat.le_of_ble_eq_true rfl)⟩) hS hA hP hD [] rfl (fun _ _ h => by rcases h with ⟨-, rfl⟩; rfl) (fun r u H locs hw hP hD hS => ?_)
  obtain ⟨hr0, rfl⟩ := hw
  subst r
  have hP : va_P D vwCl (wW_k_X4_init ty h0 a1 a2 a3 t_22 (0) (0) (0) (0)) H := hP
  have hD : va_D A (wW_k_X4_init ty h0 a1 a2 a3 t_22 (0) (0) (0) (0)) := hD
  refine W.widen (k := 0) (n := 0) (Nat.le_of_ble_eq_true rfl) (Nat.le_of_ble_eq_true rfl) ?_
  refine va_putF (D := D) (ci := 6) (v := .int t_31) (ty := tyX4 4) (C := RX4) (T := TX4) (N := 8) hx hb hts iv_k_X4_init_X4 tyX4 tyX4_ok nmX4 hown hK hP hD hS 0 rfl rfl 4 (by decide) (hts (.fieldLink RX4 32 "AnswerFold$Literal" "firstShift" "I") (by decide +kernel)) (fun _ h9 => h9) rfl hin rfl (by decide +kernel) rfl rfl (Nat.le_of_ble_eq_true rfl) dX4_init_34 (fun H locs hP hD hS => ?_)
  have hP : va_P D vwCl (wW_k_X4_init ty h0 a1 a2 a3 t_22 t_31 (0) (0) (0)) H := hP
  have hD : va_D A (wW_k_X4_init ty h0 a1 a2 a3 t_22 t_31 (0) (0) (0)) := hD
  refine lv_aload_n hx hb dX4_init_37 rfl (lv_at hl 0 rfl) ?_
  refine lv_iload hx hb dX4_init_38 (lv_at hl 5 rfl) ?_
  obtain ⟨t_40, ht_40⟩ : ∃ t, t = m_k_X4_slotOf a5 := ⟨_, rfl⟩
  rw [lE_eq ht_40] at hT
  refine wq_iW (wc := []) (va_runS (As := [.int a5]) (rest := [.ref h0]) ⟨hx, hb, hml, hown, hts⟩ (k_X4_slotOf l D ty td mi H.size a5 t_40 ht_40) (va_cwS 1 hts gv_k_X4_init_2 rfl rfl rfl (by decide +kernel) ⟨(Nat.le_of_ble_eq_true rfl), (Nat.le_of_ble_eq_true rfl)⟩) (wm_preS hP hD hK hE hS hA [] rfl) rfl rfl hl.1 rfl (lv_room (Nat.le_of_ble_eq_true rfl)) dX4_init_40 ⟨(Nat.le_of_ble_eq_true rfl), (Nat.le_of_ble_eq_true rfl)⟩) hS hA hP hD [] rfl (fun _ _ h => by rcases h with ⟨-, rfl⟩; rfl) (fun r u H locs hw hP hD hS => ?_)
  obtain ⟨hr0, rfl⟩ := hw
  subst r
  have hP : va_P D vwCl (wW_k_X4_init ty h0 a1 a2 a3 t_22 t_31 (0) (0) (0)) H := hP
  have hD : va_D A (wW_k_X4_init ty h0 a1 a2 a3 t_22 t_31 (0) (0) (0)) := hD
  refine W.widen (k := 0) (n := 0) (Nat.le_of_ble_eq_true rfl) (Nat.le_of_ble_eq_true rfl) ?_
  refine va_putF (D := D) (ci := 6) (v := .int t_40) (ty := tyX4 5) (C := RX4) (T := TX4) (N := 8) hx hb hts iv_k_X4_init_X4 tyX4 tyX4_ok nmX4 hown hK hP hD hS 0 rfl rfl 5 (by decide) (hts (.fieldLink RX4 35 "AnswerFold$Literal" "secondSlot" "I") (by decide +kernel)) (fun _ h9 => h9) rfl hin rfl (by decide +kernel) rfl rfl (Nat.le_of_ble_eq_true rfl) dX4_init_43 (fun H locs hP hD hS => ?_)
  have hP : va_P D vwCl (wW_k_X4_init ty h0 a1 a2 a3 t_22 t_31 t_40 (0) (0)) H := hP
  have hD : va_D A (wW_k_X4_init ty h0 a1 a2 a3 t_22 t_31 t_40 (0) (0)) := hD
  refine lv_aload_n hx hb dX4_init_46 rfl (lv_at hl 0 rfl) ?_
  refine lv_iload hx hb dX4_init_47 (lv_at hl 5 rfl) ?_
  obtain ⟨t_49, ht_49⟩ : ∃ t, t = m_k_X4_shiftOf a5 := ⟨_, rfl⟩
  rw [lE_eq ht_49] at hT
  refine wq_iW (wc := []) (va_runS (As := [.int a5]) (rest := [.ref h0]) ⟨hx, hb, hml, hown, hts⟩ (k_X4_shiftOf l D ty td mi H.size a5 t_49 ht_49) (va_cwS 1 hts gv_k_X4_init_3 rfl rfl rfl (by decide +kernel) ⟨(Nat.le_of_ble_eq_true rfl), (Nat.le_of_ble_eq_true rfl)⟩) (wm_preS hP hD hK hE hS hA [] rfl) rfl rfl hl.1 rfl (lv_room (Nat.le_of_ble_eq_true rfl)) dX4_init_49 ⟨(Nat.le_of_ble_eq_true rfl), (Nat.le_of_ble_eq_true rfl)⟩) hS hA hP hD [] rfl (fun _ _ h => by rcases h with ⟨-, rfl⟩; rfl) (fun r u H locs hw hP hD hS => ?_)
  obtain ⟨hr0, rfl⟩ := hw
  subst r
  have hP : va_P D vwCl (wW_k_X4_init ty h0 a1 a2 a3 t_22 t_31 t_40 (0) (0)) H := hP
  have hD : va_D A (wW_k_X4_init ty h0 a1 a2 a3 t_22 t_31 t_40 (0) (0)) := hD
  refine W.widen (k := 0) (n := 0) (Nat.le_of_ble_eq_true rfl) (Nat.le_of_ble_eq_true rfl) ?_
  refine va_putF (D := D) (ci := 6) (v := .int t_49) (ty := tyX4 6) (C := RX4) (T := TX4) (N := 8) hx hb hts iv_k_X4_init_X4 tyX4 tyX4_ok nmX4 hown hK hP hD hS 0 rfl rfl 6 (by decide) (hts (.fieldLink RX4 38 "AnswerFold$Literal" "secondShift" "I") (by decide +kernel)) (fun _ h9 => h9) rfl hin rfl (by decide +kernel) rfl rfl (Nat.le_of_ble_eq_true rfl) dX4_init_52 (fun H locs hP hD hS => ?_)
  have hP : va_P D vwCl (wW_k_X4_init ty h0 a1 a2 a3 t_22 t_31 t_40 t_49 (0)) H := hP
  have hD : va_D A (wW_k_X4_init ty h0 a1 a2 a3 t_22 t_31 t_40 t_49 (0)) := hD
  refine lv_aload_n hx hb dX4_init_55 rfl (lv_at hl 0 rfl) ?_
  refine lv_aload_n hx hb dX4_init_56 rfl (lv_at hl 0 rfl) ?_
  refine va_get (D := D) (ci := 6) (v := .int t_22) (C := RX4) (T := TX4) (N := 8) hx hb hts iv_k_X4_init_X4 hown hK hP 0 rfl rfl 3 (by decide) (hts (.fieldLink RX4 26 "AnswerFold$Literal" "firstSlot" "I") (by decide +kernel)) (fun _ h9 => h9) rfl dX4_init_57 ?_
  refine lv_iconst (v := 4) hx hb dX4_init_60 (by decide) ?_
  have J_72 : ∀ (s0_72 : Int32), TT = m_k_X4_init_72 a1 a2 a3 t_22 t_31 t_40 t_49 s0_72 → ∀ (H : Heap) (locs : List Loc), va_P D vwCl (wW_k_X4_init ty h0 a1 a2 a3 t_22 t_31 t_40 t_49 (0)) H → va_D A (wW_k_X4_init ty h0 a1 a2 a3 t_22 t_31 t_40 t_49 (0)) → va_S A s.heap H locs → ∀ ls : Array Slot, lv_has ls 6 [(0, .ref h0)] → W p l e (headSpec vs_k_X4_init { frames := 1, cells := 0, slots := 0, locals := 20 }).room s m ([.ref h0, .int a1, .int a2, .int a3, .int a4, .int a5] : List Value).toArray below meth c H locs 0 0 (MQ below (va_Qv (fun u : va_W => ((u = (wW_k_X4_init ty h0 TT.1 TT.2.1 TT.2.2.1 TT.2.2.2.1 TT.2.2.2.2.1 TT.2.2.2.2.2.1 TT.2.2.2.2.2.2.1 TT.2.2.2.2.2.2.2)))) (wq_B D A) A) ([.ref h0, .int a1, .int a2, .int a3, .int a4, .int a5] : List Value).toArray s 0 0 A) (F0 m 72 ls [.int s0_72, .ref h0]) := by
    intro s0_72 hT  H locs hP hD hS ls hl
    rw [m_k_X4_init_72] at hT
    refine lv_aload_n hx hb dX4_init_72 rfl (lv_at hl 0 rfl) ?_
    refine va_get (D := D) (ci := 6) (v := .int t_40) (C := RX4) (T := TX4) (N := 8) hx hb hts iv_k_X4_init_X4 hown hK hP 0 rfl rfl 5 (by decide) (hts (.fieldLink RX4 35 "AnswerFold$Literal" "secondSlot" "I") (by decide +kernel)) (fun _ h9 => h9) rfl dX4_init_73 ?_
    refine lv_iconst (v := 4) hx hb dX4_init_76 (by decide) ?_
    have J_88 : ∀ (s0_88 : Int32), TT = m_k_X4_init_88 a1 a2 a3 s0_72 t_22 t_31 t_40 t_49 s0_88 → ∀ (H : Heap) (locs : List Loc), va_P D vwCl (wW_k_X4_init ty h0 a1 a2 a3 t_22 t_31 t_40 t_49 (0)) H → va_D A (wW_k_X4_init ty h0 a1 a2 a3 t_22 t_31 t_40 t_49 (0)) → va_S A s.heap H locs → ∀ ls : Array Slot, lv_has ls 6 [] → W p l e (headSpec vs_k_X4_init { frames := 1, cells := 0, slots := 0, locals := 20 }).room s m ([.ref h0, .int a1, .int a2, .int a3, .int a4, .int a5] : List Value).toArray below meth c H locs 0 0 (MQ below (va_Qv (fun u : va_W => ((u = (wW_k_X4_init ty h0 TT.1 TT.2.1 TT.2.2.1 TT.2.2.2.1 TT.2.2.2.2.1 TT.2.2.2.2.2.1 TT.2.2.2.2.2.2.1 TT.2.2.2.2.2.2.2)))) (wq_B D A) A) ([.ref h0, .int a1, .int a2, .int a3, .int a4, .int a5] : List Value).toArray s 0 0 A) (F0 m 88 ls [.int s0_88, .int s0_72, .ref h0]) := by
      intro s0_88 hT  H locs hP hD hS ls hl
      rw [m_k_X4_init_88] at hT
      refine va_mmax hx hb (hml.trans hl.1.symm) hown (hts (.methodLink RX4 41 Lib.Math.max.name) (by decide +kernel)) (hts (.static Lib.Math.max.name) (by decide +kernel)) (hts (.initialized "java/lang/Math") (by decide +kernel)) (hts (.code Lib.Math.max.name Lib.Math.max.code 2 (some .int)) (by decide +kernel)) (Nat.le_of_ble_eq_true rfl) (Nat.le_of_ble_eq_true rfl) (Nat.le_of_ble_eq_true rfl) (Nat.le_of_ble_eq_true rfl) dX4_init_88 ?_
      refine va_putF (D := D) (ci := 6) (v := .int (if s0_72 < s0_88 then s0_88 else s0_72)) (ty := tyX4 7) (C := RX4) (T := TX4) (N := 8) hx hb hts iv_k_X4_init_X4 tyX4 tyX4_ok nmX4 hown hK hP hD hS 0 rfl rfl 7 (by decide) (hts (.fieldLink RX4 47 "AnswerFold$Literal" "depth" "I") (by decide +kernel)) (fun _ h9 => h9) rfl hin rfl (by decide +kernel) rfl rfl (Nat.le_of_ble_eq_true rfl) dX4_init_91 (fun H locs hP hD hS => ?_)
      have hP : va_P D vwCl (wW_k_X4_init ty h0 a1 a2 a3 t_22 t_31 t_40 t_49 (if s0_72 < s0_88 then s0_88 else s0_72)) H := hP
      have hD : va_D A (wW_k_X4_init ty h0 a1 a2 a3 t_22 t_31 t_40 t_49 (if s0_72 < s0_88 then s0_88 else s0_72)) := hD
      exact END a1 a2 a3 t_22 t_31 t_40 t_49 (if s0_72 < s0_88 then s0_88 else s0_72) hT _ _ hP hD hS _ _ dX4_init_94
    refine lv_icmp_ne (tgt := 84) hx hb dX4_init_77 (by decide) (fun c_9 => ?_) (fun c_9 => ?_)
    · rw [if_neg c_9] at hT
      refine lv_aload_n hx hb dX4_init_84 rfl (lv_at hl 0 rfl) ?_
      refine va_get (D := D) (ci := 6) (v := .int t_40) (C := RX4) (T := TX4) (N := 8) hx hb hts iv_k_X4_init_X4 hown hK hP 0 rfl rfl 5 (by decide) (hts (.fieldLink RX4 35 "AnswerFold$Literal" "secondSlot" "I") (by decide +kernel)) (fun _ h9 => h9) rfl dX4_init_85 ?_
      exact J_88 t_40 hT _ _ hP hD hS _ (lv_sub hl [] rfl)
    · rw [if_pos c_9] at hT
      refine lv_iconst (v := 0) hx hb dX4_init_80 (by decide) ?_
      refine lv_goto (tgt := 88) hx hb dX4_init_81 (by decide) ?_
      exact J_88 0 hT _ _ hP hD hS _ (lv_sub hl [] rfl)
  refine lv_icmp_ne (tgt := 68) hx hb dX4_init_61 (by decide) (fun c_10 => ?_) (fun c_10 => ?_)
  · rw [if_neg c_10] at hT
    refine lv_aload_n hx hb dX4_init_68 rfl (lv_at hl 0 rfl) ?_
    refine va_get (D := D) (ci := 6) (v := .int t_22) (C := RX4) (T := TX4) (N := 8) hx hb hts iv_k_X4_init_X4 hown hK hP 0 rfl rfl 3 (by decide) (hts (.fieldLink RX4 26 "AnswerFold$Literal" "firstSlot" "I") (by decide +kernel)) (fun _ h9 => h9) rfl dX4_init_69 ?_
    exact J_72 t_22 hT _ _ hP hD hS _ (lv_sub hl [0] rfl)
  · rw [if_pos c_10] at hT
    refine lv_iconst (v := 0) hx hb dX4_init_64 (by decide) ?_
    refine lv_goto (tgt := 72) hx hb dX4_init_65 (by decide) ?_
    exact J_72 0 hT _ _ hP hD hS _ (lv_sub hl [0] rfl)
theorem dX8_init_0 : decode cX8_init 0 = .ok (.aload_n 0, 1) := by decide +kernel
theorem dX8_init_1 : decode cX8_init 1 = .ok (.invokespecial 3, 3) := by decide +kernel
theorem dX8_init_4 : decode cX8_init 4 = .ok (.aload_n 0, 1) := by decide +kernel
theorem dX8_init_5 : decode cX8_init 5 = .ok (.iconst (-1), 1) := by decide +kernel
theorem dX8_init_6 : decode cX8_init 6 = .ok (.putfield 9, 3) := by decide +kernel
theorem dX8_init_9 : decode cX8_init 9 = .ok (.aload_n 0, 1) := by decide +kernel
theorem dX8_init_10 : decode cX8_init 10 = .ok (.iconst 2, 1) := by decide +kernel
theorem dX8_init_11 : decode cX8_init 11 = .ok (.anewarray 15, 3) := by decide +kernel
theorem dX8_init_14 : decode cX8_init 14 = .ok (.putfield 17, 3) := by decide +kernel
theorem dX8_init_17 : decode cX8_init 17 = .ok (.aload_n 0, 1) := by decide +kernel
theorem dX8_init_18 : decode cX8_init 18 = .ok (.iconst 5, 1) := by decide +kernel
theorem dX8_init_19 : decode cX8_init 19 = .ok (.anewarray 15, 3) := by decide +kernel
theorem dX8_init_22 : decode cX8_init 22 = .ok (.putfield 21, 3) := by decide +kernel
theorem dX8_init_25 : decode cX8_init 25 = .ok (.aload_n 0, 1) := by decide +kernel
theorem dX8_init_26 : decode cX8_init 26 = .ok (.iload_n 1, 1) := by decide +kernel
theorem dX8_init_27 : decode cX8_init 27 = .ok (.putfield 24, 3) := by decide +kernel
theorem dX8_init_30 : decode cX8_init 30 = .ok (.aload_n 0, 1) := by decide +kernel
theorem dX8_init_31 : decode cX8_init 31 = .ok (.iload_n 2, 1) := by decide +kernel
theorem dX8_init_32 : decode cX8_init 32 = .ok (.putfield 28, 3) := by decide +kernel
theorem dX8_init_35 : decode cX8_init 35 = .ok (.return_, 1) := by decide +kernel
def vs_k_X8_init_100 : List Cond := .code yX8_init cX8_init 3 none :: ([.methodLink RX8 3 objectInit, .instanceMethod objectInit, .code objectInit ⟨#[0xb1]⟩ 1 none, .fieldLink RX8 9 "AnswerFold$Rule" "span" "I", .classLink RX8 15 RX4, .fieldLink RX8 17 "AnswerFold$Rule" "heads" "[LAnswerFold$Literal;", .fieldLink RX8 21 "AnswerFold$Rule" "conditions" "[LAnswerFold$Literal;", .fieldLink RX8 24 "AnswerFold$Rule" "kind" "C", .fieldLink RX8 28 "AnswerFold$Rule" "part" "I"] ++ (u_ws RX8 TX8 11))
theorem iv_k_X8_init_100_X8 : ∀ w ∈ u_ws RX8 TX8 11, w ∈ vs_k_X8_init_100 := (fun _ h => List.mem_cons_of_mem _ (List.mem_append_right _ (h)))
set_option maxHeartbeats 4000000 in
set_option maxRecDepth 100000 in
theorem k_X8_init_100 (l : Launch) (D : va_G) (ty : Nat → ClassId) (td mi sz : Nat) (h0 : Nat) (a2 : Int32) : Met l yX8_init vs_k_X8_init_100 { frames := 1, cells := 2, slots := 7, locals := 12 } (va_Pc [.ref h0, .int 100, .int a2] (wq_P D ty td mi [(h0, .inr (10, [.int 0, .int 0, .int 0, .int 0, .int 0, .int 0, .int 0, .null, .int 0, .null, .int 0]))] sz)) (va_Qv (fun u : va_W => (∃ (q1 : Nat) (q2 : Nat), (u = [(h0, .inr (10, [.int 100, .int a2, .int 0, .int 0, .int (-1), .int 0, .int 0, .ref q1, .int 0, .ref q2, .int 0])), (q1, .inl (ty 5, 2, .inr (.inr (.inr (.inr (fun _ => none)))))), (q2, .inl (ty 5, 5, .inr (.inr (.inr (.inr (fun _ => none))))))]))) (wq_B D (va_A [(h0, .inr (10, [.int 0, .int 0, .int 0, .int 0, .int 0, .int 0, .int 0, .null, .int 0, .null, .int 0]))] sz)) (va_A [(h0, .inr (10, [.int 0, .int 0, .int 0, .int 0, .int 0, .int 0, .int 0, .null, .int 0, .null, .int 0]))] sz)) 2 7 (va_A [(h0, .inr (10, [.int 0, .int 0, .int 0, .int 0, .int 0, .int 0, .int 0, .null, .int 0, .null, .int 0]))] sz) := by
  refine Met.ofW (cc := cX8_init) (maxL := 3) (ret := none) (by decide) rfl ?_
  intro p e s m args below meth c s₁ B hml hv
  obtain ⟨rfl, hsz, hP, hK, hD0, hE⟩ := hv
  have hx := B.exec
  have hb := B.bytes
  have hr := B.returns
  have hts := atoms_spec (ws := vs_k_X8_init_100) B.pre
  have hown : s.vm.findClass RX8 = some m.cls := findClass_of_methodNamed B.named
  have hlocks := B.notSynchronized
  have hin : meth.name = "<init>" := (name_of_methodNamed B.named B.method).1
  subst hsz
  have hD := hD0.self (sz := s.heap.size)
  generalize hAe : va_A [(h0, .inr (10, [.int 0, .int 0, .int 0, .int 0, .int 0, .int 0, .int 0, .null, .int 0, .null, .int 0]))] s.heap.size = A at hD hE ⊢
  have hA : ∀ q : Nat, s.heap.size ≤ q → A q := fun q h => by rw [← hAe]; exact Or.inr h
  have hS : va_S A s.heap s.heap [] := va_S.rf
  have hP : va_P D vwCl [(h0, .inr (10, [.int 0, .int 0, .int 0, .int 0, .int 0, .int 0, .int 0, .null, .int 0, .null, .int 0]))] s.heap := hP
  have hl := lv_entry ([.ref h0, .int 100, .int a2]) (n := 3) (Nat.le_of_ble_eq_true rfl)
  rw [lg_entry_eq]
  generalize (lg_sl ([.ref h0, .int 100, .int a2]) ++ List.replicate (3 - (lg_sl ([.ref h0, .int 100, .int a2])).length) Slot.unset).toArray = ls at hl ⊢
  have hl : lv_has ls 3 [(0, .ref h0), (1, .int 100), (2, .int a2)] := hl
  refine lv_aload_n hx hb dX8_init_0 rfl (lv_at hl 0 rfl) ?_
  refine W.objInit hx hb hown (hts (.methodLink RX8 3 objectInit) (by decide +kernel)) (hts (.instanceMethod objectInit) (by decide +kernel)) (hts (.code objectInit ⟨#[0xb1]⟩ 1 none) (by decide +kernel)) rfl (by rw [hml]; exact hl.1) rfl dX8_init_1 (Nat.le_of_ble_eq_true rfl) (Nat.le_of_ble_eq_true rfl) ?_
  refine W.eq (g2 := F0 m 4 ls []) rfl ?_
  refine lv_aload_n hx hb dX8_init_4 rfl (lv_at hl 0 rfl) ?_
  refine lv_iconst (v := (-1)) hx hb dX8_init_5 (by decide) ?_
  refine va_put (D := D) (ci := 10) (v := .int (-1)) (ty := tyX8 4) (C := RX8) (T := TX8) (N := 11) hx hb hts iv_k_X8_init_100_X8 tyX8 tyX8_ok nmX8 hown hK hP hD hS 0 rfl rfl 4 (by decide) (hts (.fieldLink RX8 9 "AnswerFold$Rule" "span" "I") (by decide +kernel)) (fun _ h9 => h9) rfl (by decide +kernel) rfl rfl (Nat.le_of_ble_eq_true rfl) dX8_init_6 (fun H locs hP hD hS => ?_)
  have hP : va_P D vwCl [(h0, .inr (10, [.int 0, .int 0, .int 0, .int 0, .int (-1), .int 0, .int 0, .null, .int 0, .null, .int 0]))] H := hP
  have hD : va_D A [(h0, .inr (10, [.int 0, .int 0, .int 0, .int 0, .int (-1), .int 0, .int 0, .null, .int 0, .null, .int 0]))] := hD
  refine lv_aload_n hx hb dX8_init_9 rfl (lv_at hl 0 rfl) ?_
  refine lv_iconst (v := 2) hx hb dX8_init_10 (by decide) ?_
  refine wq_newq (C := RX4) hx hb hown (hts (.classLink RX8 15 RX4) (by decide +kernel)) (hE.ao (by decide +kernel)) hK hP hD hS hA 5 rfl (n := 2) (N' := 2) (by decide) (by decide) (Nat.le_of_ble_eq_true rfl) (Nat.le_of_ble_eq_true rfl) (Nat.le_of_ble_eq_true rfl) dX8_init_11 (fun q1 H hP hD hS => ?_)
  have hP : va_P D vwCl [(h0, .inr (10, [.int 0, .int 0, .int 0, .int 0, .int (-1), .int 0, .int 0, .null, .int 0, .null, .int 0])), (q1, .inl (ty 5, 2, .inr (.inr (.inr (.inr (fun _ => none))))))] H := hP
  have hD : va_D A [(h0, .inr (10, [.int 0, .int 0, .int 0, .int 0, .int (-1), .int 0, .int 0, .null, .int 0, .null, .int 0])), (q1, .inl (ty 5, 2, .inr (.inr (.inr (.inr (fun _ => none))))))] := hD
  refine W.widen (k := 1) (n := 2) (Nat.le_of_ble_eq_true rfl) (Nat.le_of_ble_eq_true rfl) ?_
  refine va_putF (D := D) (ci := 10) (v := .ref q1) (ty := tyX8 7) (C := RX8) (T := TX8) (N := 11) hx hb hts iv_k_X8_init_100_X8 tyX8 tyX8_ok nmX8 hown hK hP hD hS 0 rfl rfl 7 (by decide) (hts (.fieldLink RX8 17 "AnswerFold$Rule" "heads" "[LAnswerFold$Literal;") (by decide +kernel)) (fun _ h9 => h9) rfl hin rfl (by decide +kernel) rfl rfl (Nat.le_of_ble_eq_true rfl) dX8_init_14 (fun H locs hP hD hS => ?_)
  have hP : va_P D vwCl [(h0, .inr (10, [.int 0, .int 0, .int 0, .int 0, .int (-1), .int 0, .int 0, .ref q1, .int 0, .null, .int 0])), (q1, .inl (ty 5, 2, .inr (.inr (.inr (.inr (fun _ => none))))))] H := hP
  have hD : va_D A [(h0, .inr (10, [.int 0, .int 0, .int 0, .int 0, .int (-1), .int 0, .int 0, .ref q1, .int 0, .null, .int 0])), (q1, .inl (ty 5, 2, .inr (.inr (.inr (.inr (fun _ => none))))))] := hD
  refine lv_aload_n hx hb dX8_init_17 rfl (lv_at hl 0 rfl) ?_
  refine lv_iconst (v := 5) hx hb dX8_init_18 (by decide) ?_
  refine wq_newq (C := RX4) hx hb hown (hts (.classLink RX8 15 RX4) (by decide +kernel)) (hE.ao (by decide +kernel)) hK hP hD hS hA 5 rfl (n := 5) (N' := 5) (by decide) (by decide) (Nat.le_of_ble_eq_true rfl) (Nat.le_of_ble_eq_true rfl) (Nat.le_of_ble_eq_true rfl) dX8_init_19 (fun q2 H hP hD hS => ?_)
  have hP : va_P D vwCl [(h0, .inr (10, [.int 0, .int 0, .int 0, .int 0, .int (-1), .int 0, .int 0, .ref q1, .int 0, .null, .int 0])), (q1, .inl (ty 5, 2, .inr (.inr (.inr (.inr (fun _ => none)))))), (q2, .inl (ty 5, 5, .inr (.inr (.inr (.inr (fun _ => none))))))] H := hP
  have hD : va_D A [(h0, .inr (10, [.int 0, .int 0, .int 0, .int 0, .int (-1), .int 0, .int 0, .ref q1, .int 0, .null, .int 0])), (q1, .inl (ty 5, 2, .inr (.inr (.inr (.inr (fun _ => none)))))), (q2, .inl (ty 5, 5, .inr (.inr (.inr (.inr (fun _ => none))))))] := hD
  refine W.widen (k := 2) (n := 7) (Nat.le_of_ble_eq_true rfl) (Nat.le_of_ble_eq_true rfl) ?_
  refine va_putF (D := D) (ci := 10) (v := .ref q2) (ty := tyX8 9) (C := RX8) (T := TX8) (N := 11) hx hb hts iv_k_X8_init_100_X8 tyX8 tyX8_ok nmX8 hown hK hP hD hS 0 rfl rfl 9 (by decide) (hts (.fieldLink RX8 21 "AnswerFold$Rule" "conditions" "[LAnswerFold$Literal;") (by decide +kernel)) (fun _ h9 => h9) rfl hin rfl (by decide +kernel) rfl rfl (Nat.le_of_ble_eq_true rfl) dX8_init_22 (fun H locs hP hD hS => ?_)
  have hP : va_P D vwCl [(h0, .inr (10, [.int 0, .int 0, .int 0, .int 0, .int (-1), .int 0, .int 0, .ref q1, .int 0, .ref q2, .int 0])), (q1, .inl (ty 5, 2, .inr (.inr (.inr (.inr (fun _ => none)))))), (q2, .inl (ty 5, 5, .inr (.inr (.inr (.inr (fun _ => none))))))] H := hP
  have hD : va_D A [(h0, .inr (10, [.int 0, .int 0, .int 0, .int 0, .int (-1), .int 0, .int 0, .ref q1, .int 0, .ref q2, .int 0])), (q1, .inl (ty 5, 2, .inr (.inr (.inr (.inr (fun _ => none)))))), (q2, .inl (ty 5, 5, .inr (.inr (.inr (.inr (fun _ => none))))))] := hD
  refine lv_aload_n hx hb dX8_init_25 rfl (lv_at hl 0 rfl) ?_
  refine lv_iload_n hx hb dX8_init_26 rfl (lv_at hl 1 rfl) ?_
  refine va_putF (D := D) (ci := 10) (v := .int 100) (ty := tyX8 0) (C := RX8) (T := TX8) (N := 11) hx hb hts iv_k_X8_init_100_X8 tyX8 tyX8_ok nmX8 hown hK hP hD hS 0 rfl rfl 0 (by decide) (hts (.fieldLink RX8 24 "AnswerFold$Rule" "kind" "C") (by decide +kernel)) (fun _ h9 => h9) rfl hin rfl (by decide +kernel) rfl rfl (Nat.le_of_ble_eq_true rfl) dX8_init_27 (fun H locs hP hD hS => ?_)
  have hP : va_P D vwCl [(h0, .inr (10, [.int 100, .int 0, .int 0, .int 0, .int (-1), .int 0, .int 0, .ref q1, .int 0, .ref q2, .int 0])), (q1, .inl (ty 5, 2, .inr (.inr (.inr (.inr (fun _ => none)))))), (q2, .inl (ty 5, 5, .inr (.inr (.inr (.inr (fun _ => none))))))] H := hP
  have hD : va_D A [(h0, .inr (10, [.int 100, .int 0, .int 0, .int 0, .int (-1), .int 0, .int 0, .ref q1, .int 0, .ref q2, .int 0])), (q1, .inl (ty 5, 2, .inr (.inr (.inr (.inr (fun _ => none)))))), (q2, .inl (ty 5, 5, .inr (.inr (.inr (.inr (fun _ => none))))))] := hD
  refine lv_aload_n hx hb dX8_init_30 rfl (lv_at hl 0 rfl) ?_
  refine lv_iload_n hx hb dX8_init_31 rfl (lv_at hl 2 rfl) ?_
  refine va_putF (D := D) (ci := 10) (v := .int a2) (ty := tyX8 1) (C := RX8) (T := TX8) (N := 11) hx hb hts iv_k_X8_init_100_X8 tyX8 tyX8_ok nmX8 hown hK hP hD hS 0 rfl rfl 1 (by decide) (hts (.fieldLink RX8 28 "AnswerFold$Rule" "part" "I") (by decide +kernel)) (fun _ h9 => h9) rfl hin rfl (by decide +kernel) rfl rfl (Nat.le_of_ble_eq_true rfl) dX8_init_32 (fun H locs hP hD hS => ?_)
  have hP : va_P D vwCl [(h0, .inr (10, [.int 100, .int a2, .int 0, .int 0, .int (-1), .int 0, .int 0, .ref q1, .int 0, .ref q2, .int 0])), (q1, .inl (ty 5, 2, .inr (.inr (.inr (.inr (fun _ => none)))))), (q2, .inl (ty 5, 5, .inr (.inr (.inr (.inr (fun _ => none))))))] H := hP
  have hD : va_D A [(h0, .inr (10, [.int 100, .int a2, .int 0, .int 0, .int (-1), .int 0, .int 0, .ref q1, .int 0, .ref q2, .int 0])), (q1, .inl (ty 5, 2, .inr (.inr (.inr (.inr (fun _ => none)))))), (q2, .inl (ty 5, 5, .inr (.inr (.inr (.inr (fun _ => none))))))] := hD
  have hP9 := hP.sub (ws' := [(h0, .inr (10, [.int 100, .int a2, .int 0, .int 0, .int (-1), .int 0, .int 0, .ref q1, .int 0, .ref q2, .int 0])), (q1, .inl (ty 5, 2, .inr (.inr (.inr (.inr (fun _ => none)))))), (q2, .inl (ty 5, 5, .inr (.inr (.inr (.inr (fun _ => none))))))]) [0, 1, 2] rfl
  have hD9 := hD.sub (ws' := [(h0, .inr (10, [.int 100, .int a2, .int 0, .int 0, .int (-1), .int 0, .int 0, .ref q1, .int 0, .ref q2, .int 0])), (q1, .inl (ty 5, 2, .inr (.inr (.inr (.inr (fun _ => none)))))), (q2, .inl (ty 5, 5, .inr (.inr (.inr (.inr (fun _ => none))))))]) [0, 1, 2] (by decide) rfl
  refine W.widen (k := 2) (n := 7) (Nat.le_of_ble_eq_true rfl) (Nat.le_of_ble_eq_true rfl) ?_
  exact W.vret hx hb hr (fun t ht hW => ⟨⟨[(h0, .inr (10, [.int 100, .int a2, .int 0, .int 0, .int (-1), .int 0, .int 0, .ref q1, .int 0, .ref q2, .int 0])), (q1, .inl (ty 5, 2, .inr (.inr (.inr (.inr (fun _ => none)))))), (q2, .inl (ty 5, 5, .inr (.inr (.inr (.inr (fun _ => none))))))], rfl, ⟨q1, q2, rfl⟩, wq_B.of ht hP9 hD9⟩, hS.F ht⟩) hS.2.2 dX8_init_35
def vs_k_X8_init_99 : List Cond := .code yX8_init cX8_init 3 none :: ([.methodLink RX8 3 objectInit, .instanceMethod objectInit, .code objectInit ⟨#[0xb1]⟩ 1 none, .fieldLink RX8 9 "AnswerFold$Rule" "span" "I", .classLink RX8 15 RX4, .fieldLink RX8 17 "AnswerFold$Rule" "heads" "[LAnswerFold$Literal;", .fieldLink RX8 21 "AnswerFold$Rule" "conditions" "[LAnswerFold$Literal;", .fieldLink RX8 24 "AnswerFold$Rule" "kind" "C", .fieldLink RX8 28 "AnswerFold$Rule" "part" "I"] ++ (u_ws RX8 TX8 11))
theorem iv_k_X8_init_99_X8 : ∀ w ∈ u_ws RX8 TX8 11, w ∈ vs_k_X8_init_99 := (fun _ h => List.mem_cons_of_mem _ (List.mem_append_right _ (h)))
set_option maxHeartbeats 4000000 in
set_option maxRecDepth 100000 in
theorem k_X8_init_99 (l : Launch) (D : va_G) (ty : Nat → ClassId) (td mi sz : Nat) (h0 : Nat) (a2 : Int32) : Met l yX8_init vs_k_X8_init_99 { frames := 1, cells := 2, slots := 7, locals := 12 } (va_Pc [.ref h0, .int 99, .int a2] (wq_P D ty td mi [(h0, .inr (10, [.int 0, .int 0, .int 0, .int 0, .int 0, .int 0, .int 0, .null, .int 0, .null, .int 0]))] sz)) (va_Qv (fun u : va_W => (∃ (q3 : Nat) (q4 : Nat), (u = [(h0, .inr (10, [.int 99, .int a2, .int 0, .int 0, .int (-1), .int 0, .int 0, .ref q3, .int 0, .ref q4, .int 0])), (q3, .inl (ty 5, 2, .inr (.inr (.inr (.inr (fun _ => none)))))), (q4, .inl (ty 5, 5, .inr (.inr (.inr (.inr (fun _ => none))))))]))) (wq_B D (va_A [(h0, .inr (10, [.int 0, .int 0, .int 0, .int 0, .int 0, .int 0, .int 0, .null, .int 0, .null, .int 0]))] sz)) (va_A [(h0, .inr (10, [.int 0, .int 0, .int 0, .int 0, .int 0, .int 0, .int 0, .null, .int 0, .null, .int 0]))] sz)) 2 7 (va_A [(h0, .inr (10, [.int 0, .int 0, .int 0, .int 0, .int 0, .int 0, .int 0, .null, .int 0, .null, .int 0]))] sz) := by
  refine Met.ofW (cc := cX8_init) (maxL := 3) (ret := none) (by decide) rfl ?_
  intro p e s m args below meth c s₁ B hml hv
  obtain ⟨rfl, hsz, hP, hK, hD0, hE⟩ := hv
  have hx := B.exec
  have hb := B.bytes
  have hr := B.returns
  have hts := atoms_spec (ws := vs_k_X8_init_99) B.pre
  have hown : s.vm.findClass RX8 = some m.cls := findClass_of_methodNamed B.named
  have hlocks := B.notSynchronized
  have hin : meth.name = "<init>" := (name_of_methodNamed B.named B.method).1
  subst hsz
  have hD := hD0.self (sz := s.heap.size)
  generalize hAe : va_A [(h0, .inr (10, [.int 0, .int 0, .int 0, .int 0, .int 0, .int 0, .int 0, .null, .int 0, .null, .int 0]))] s.heap.size = A at hD hE ⊢
  have hA : ∀ q : Nat, s.heap.size ≤ q → A q := fun q h => by rw [← hAe]; exact Or.inr h
  have hS : va_S A s.heap s.heap [] := va_S.rf
  have hP : va_P D vwCl [(h0, .inr (10, [.int 0, .int 0, .int 0, .int 0, .int 0, .int 0, .int 0, .null, .int 0, .null, .int 0]))] s.heap := hP
  have hl := lv_entry ([.ref h0, .int 99, .int a2]) (n := 3) (Nat.le_of_ble_eq_true rfl)
  rw [lg_entry_eq]
  generalize (lg_sl ([.ref h0, .int 99, .int a2]) ++ List.replicate (3 - (lg_sl ([.ref h0, .int 99, .int a2])).length) Slot.unset).toArray = ls at hl ⊢
  have hl : lv_has ls 3 [(0, .ref h0), (1, .int 99), (2, .int a2)] := hl
  refine lv_aload_n hx hb dX8_init_0 rfl (lv_at hl 0 rfl) ?_
  refine W.objInit hx hb hown (hts (.methodLink RX8 3 objectInit) (by decide +kernel)) (hts (.instanceMethod objectInit) (by decide +kernel)) (hts (.code objectInit ⟨#[0xb1]⟩ 1 none) (by decide +kernel)) rfl (by rw [hml]; exact hl.1) rfl dX8_init_1 (Nat.le_of_ble_eq_true rfl) (Nat.le_of_ble_eq_true rfl) ?_
  refine W.eq (g2 := F0 m 4 ls []) rfl ?_
  refine lv_aload_n hx hb dX8_init_4 rfl (lv_at hl 0 rfl) ?_
  refine lv_iconst (v := (-1)) hx hb dX8_init_5 (by decide) ?_
  refine va_put (D := D) (ci := 10) (v := .int (-1)) (ty := tyX8 4) (C := RX8) (T := TX8) (N := 11) hx hb hts iv_k_X8_init_99_X8 tyX8 tyX8_ok nmX8 hown hK hP hD hS 0 rfl rfl 4 (by decide) (hts (.fieldLink RX8 9 "AnswerFold$Rule" "span" "I") (by decide +kernel)) (fun _ h9 => h9) rfl (by decide +kernel) rfl rfl (Nat.le_of_ble_eq_true rfl) dX8_init_6 (fun H locs hP hD hS => ?_)
  have hP : va_P D vwCl [(h0, .inr (10, [.int 0, .int 0, .int 0, .int 0, .int (-1), .int 0, .int 0, .null, .int 0, .null, .int 0]))] H := hP
  have hD : va_D A [(h0, .inr (10, [.int 0, .int 0, .int 0, .int 0, .int (-1), .int 0, .int 0, .null, .int 0, .null, .int 0]))] := hD
  refine lv_aload_n hx hb dX8_init_9 rfl (lv_at hl 0 rfl) ?_
  refine lv_iconst (v := 2) hx hb dX8_init_10 (by decide) ?_
  refine wq_newq (C := RX4) hx hb hown (hts (.classLink RX8 15 RX4) (by decide +kernel)) (hE.ao (by decide +kernel)) hK hP hD hS hA 5 rfl (n := 2) (N' := 2) (by decide) (by decide) (Nat.le_of_ble_eq_true rfl) (Nat.le_of_ble_eq_true rfl) (Nat.le_of_ble_eq_true rfl) dX8_init_11 (fun q3 H hP hD hS => ?_)
  have hP : va_P D vwCl [(h0, .inr (10, [.int 0, .int 0, .int 0, .int 0, .int (-1), .int 0, .int 0, .null, .int 0, .null, .int 0])), (q3, .inl (ty 5, 2, .inr (.inr (.inr (.inr (fun _ => none))))))] H := hP
  have hD : va_D A [(h0, .inr (10, [.int 0, .int 0, .int 0, .int 0, .int (-1), .int 0, .int 0, .null, .int 0, .null, .int 0])), (q3, .inl (ty 5, 2, .inr (.inr (.inr (.inr (fun _ => none))))))] := hD
  refine W.widen (k := 1) (n := 2) (Nat.le_of_ble_eq_true rfl) (Nat.le_of_ble_eq_true rfl) ?_
  refine va_putF (D := D) (ci := 10) (v := .ref q3) (ty := tyX8 7) (C := RX8) (T := TX8) (N := 11) hx hb hts iv_k_X8_init_99_X8 tyX8 tyX8_ok nmX8 hown hK hP hD hS 0 rfl rfl 7 (by decide) (hts (.fieldLink RX8 17 "AnswerFold$Rule" "heads" "[LAnswerFold$Literal;") (by decide +kernel)) (fun _ h9 => h9) rfl hin rfl (by decide +kernel) rfl rfl (Nat.le_of_ble_eq_true rfl) dX8_init_14 (fun H locs hP hD hS => ?_)
  have hP : va_P D vwCl [(h0, .inr (10, [.int 0, .int 0, .int 0, .int 0, .int (-1), .int 0, .int 0, .ref q3, .int 0, .null, .int 0])), (q3, .inl (ty 5, 2, .inr (.inr (.inr (.inr (fun _ => none))))))] H := hP
  have hD : va_D A [(h0, .inr (10, [.int 0, .int 0, .int 0, .int 0, .int (-1), .int 0, .int 0, .ref q3, .int 0, .null, .int 0])), (q3, .inl (ty 5, 2, .inr (.inr (.inr (.inr (fun _ => none))))))] := hD
  refine lv_aload_n hx hb dX8_init_17 rfl (lv_at hl 0 rfl) ?_
  refine lv_iconst (v := 5) hx hb dX8_init_18 (by decide) ?_
  refine wq_newq (C := RX4) hx hb hown (hts (.classLink RX8 15 RX4) (by decide +kernel)) (hE.ao (by decide +kernel)) hK hP hD hS hA 5 rfl (n := 5) (N' := 5) (by decide) (by decide) (Nat.le_of_ble_eq_true rfl) (Nat.le_of_ble_eq_true rfl) (Nat.le_of_ble_eq_true rfl) dX8_init_19 (fun q4 H hP hD hS => ?_)
  have hP : va_P D vwCl [(h0, .inr (10, [.int 0, .int 0, .int 0, .int 0, .int (-1), .int 0, .int 0, .ref q3, .int 0, .null, .int 0])), (q3, .inl (ty 5, 2, .inr (.inr (.inr (.inr (fun _ => none)))))), (q4, .inl (ty 5, 5, .inr (.inr (.inr (.inr (fun _ => none))))))] H := hP
  have hD : va_D A [(h0, .inr (10, [.int 0, .int 0, .int 0, .int 0, .int (-1), .int 0, .int 0, .ref q3, .int 0, .null, .int 0])), (q3, .inl (ty 5, 2, .inr (.inr (.inr (.inr (fun _ => none)))))), (q4, .inl (ty 5, 5, .inr (.inr (.inr (.inr (fun _ => none))))))] := hD
  refine W.widen (k := 2) (n := 7) (Nat.le_of_ble_eq_true rfl) (Nat.le_of_ble_eq_true rfl) ?_
  refine va_putF (D := D) (ci := 10) (v := .ref q4) (ty := tyX8 9) (C := RX8) (T := TX8) (N := 11) hx hb hts iv_k_X8_init_99_X8 tyX8 tyX8_ok nmX8 hown hK hP hD hS 0 rfl rfl 9 (by decide) (hts (.fieldLink RX8 21 "AnswerFold$Rule" "conditions" "[LAnswerFold$Literal;") (by decide +kernel)) (fun _ h9 => h9) rfl hin rfl (by decide +kernel) rfl rfl (Nat.le_of_ble_eq_true rfl) dX8_init_22 (fun H locs hP hD hS => ?_)
  have hP : va_P D vwCl [(h0, .inr (10, [.int 0, .int 0, .int 0, .int 0, .int (-1), .int 0, .int 0, .ref q3, .int 0, .ref q4, .int 0])), (q3, .inl (ty 5, 2, .inr (.inr (.inr (.inr (fun _ => none)))))), (q4, .inl (ty 5, 5, .inr (.inr (.inr (.inr (fun _ => none))))))] H := hP
  have hD : va_D A [(h0, .inr (10, [.int 0, .int 0, .int 0, .int 0, .int (-1), .int 0, .int 0, .ref q3, .int 0, .ref q4, .int 0])), (q3, .inl (ty 5, 2, .inr (.inr (.inr (.inr (fun _ => none)))))), (q4, .inl (ty 5, 5, .inr (.inr (.inr (.inr (fun _ => none))))))] := hD
  refine lv_aload_n hx hb dX8_init_25 rfl (lv_at hl 0 rfl) ?_
  refine lv_iload_n hx hb dX8_init_26 rfl (lv_at hl 1 rfl) ?_
  refine va_putF (D := D) (ci := 10) (v := .int 99) (ty := tyX8 0) (C := RX8) (T := TX8) (N := 11) hx hb hts iv_k_X8_init_99_X8 tyX8 tyX8_ok nmX8 hown hK hP hD hS 0 rfl rfl 0 (by decide) (hts (.fieldLink RX8 24 "AnswerFold$Rule" "kind" "C") (by decide +kernel)) (fun _ h9 => h9) rfl hin rfl (by decide +kernel) rfl rfl (Nat.le_of_ble_eq_true rfl) dX8_init_27 (fun H locs hP hD hS => ?_)
  have hP : va_P D vwCl [(h0, .inr (10, [.int 99, .int 0, .int 0, .int 0, .int (-1), .int 0, .int 0, .ref q3, .int 0, .ref q4, .int 0])), (q3, .inl (ty 5, 2, .inr (.inr (.inr (.inr (fun _ => none)))))), (q4, .inl (ty 5, 5, .inr (.inr (.inr (.inr (fun _ => none))))))] H := hP
  have hD : va_D A [(h0, .inr (10, [.int 99, .int 0, .int 0, .int 0, .int (-1), .int 0, .int 0, .ref q3, .int 0, .ref q4, .int 0])), (q3, .inl (ty 5, 2, .inr (.inr (.inr (.inr (fun _ => none)))))), (q4, .inl (ty 5, 5, .inr (.inr (.inr (.inr (fun _ => none))))))] := hD
  refine lv_aload_n hx hb dX8_init_30 rfl (lv_at hl 0 rfl) ?_
  refine lv_iload_n hx hb dX8_init_31 rfl (lv_at hl 2 rfl) ?_
  refine va_putF (D := D) (ci := 10) (v := .int a2) (ty := tyX8 1) (C := RX8) (T := TX8) (N := 11) hx hb hts iv_k_X8_init_99_X8 tyX8 tyX8_ok nmX8 hown hK hP hD hS 0 rfl rfl 1 (by decide) (hts (.fieldLink RX8 28 "AnswerFold$Rule" "part" "I") (by decide +kernel)) (fun _ h9 => h9) rfl hin rfl (by decide +kernel) rfl rfl (Nat.le_of_ble_eq_true rfl) dX8_init_32 (fun H locs hP hD hS => ?_)
  have hP : va_P D vwCl [(h0, .inr (10, [.int 99, .int a2, .int 0, .int 0, .int (-1), .int 0, .int 0, .ref q3, .int 0, .ref q4, .int 0])), (q3, .inl (ty 5, 2, .inr (.inr (.inr (.inr (fun _ => none)))))), (q4, .inl (ty 5, 5, .inr (.inr (.inr (.inr (fun _ => none))))))] H := hP
  have hD : va_D A [(h0, .inr (10, [.int 99, .int a2, .int 0, .int 0, .int (-1), .int 0, .int 0, .ref q3, .int 0, .ref q4, .int 0])), (q3, .inl (ty 5, 2, .inr (.inr (.inr (.inr (fun _ => none)))))), (q4, .inl (ty 5, 5, .inr (.inr (.inr (.inr (fun _ => none))))))] := hD
  have hP9 := hP.sub (ws' := [(h0, .inr (10, [.int 99, .int a2, .int 0, .int 0, .int (-1), .int 0, .int 0, .ref q3, .int 0, .ref q4, .int 0])), (q3, .inl (ty 5, 2, .inr (.inr (.inr (.inr (fun _ => none)))))), (q4, .inl (ty 5, 5, .inr (.inr (.inr (.inr (fun _ => none))))))]) [0, 1, 2] rfl
  have hD9 := hD.sub (ws' := [(h0, .inr (10, [.int 99, .int a2, .int 0, .int 0, .int (-1), .int 0, .int 0, .ref q3, .int 0, .ref q4, .int 0])), (q3, .inl (ty 5, 2, .inr (.inr (.inr (.inr (fun _ => none)))))), (q4, .inl (ty 5, 5, .inr (.inr (.inr (.inr (fun _ => none))))))]) [0, 1, 2] (by decide) rfl
  refine W.widen (k := 2) (n := 7) (Nat.le_of_ble_eq_true rfl) (Nat.le_of_ble_eq_true rfl) ?_
  exact W.vret hx hb hr (fun t ht hW => ⟨⟨[(h0, .inr (10, [.int 99, .int a2, .int 0, .int 0, .int (-1), .int 0, .int 0, .ref q3, .int 0, .ref q4, .int 0])), (q3, .inl (ty 5, 2, .inr (.inr (.inr (.inr (fun _ => none)))))), (q4, .inl (ty 5, 5, .inr (.inr (.inr (.inr (fun _ => none))))))], rfl, ⟨q3, q4, rfl⟩, wq_B.of ht hP9 hD9⟩, hS.F ht⟩) hS.2.2 dX8_init_35
def vs_k_X8_init_119 : List Cond := .code yX8_init cX8_init 3 none :: ([.methodLink RX8 3 objectInit, .instanceMethod objectInit, .code objectInit ⟨#[0xb1]⟩ 1 none, .fieldLink RX8 9 "AnswerFold$Rule" "span" "I", .classLink RX8 15 RX4, .fieldLink RX8 17 "AnswerFold$Rule" "heads" "[LAnswerFold$Literal;", .fieldLink RX8 21 "AnswerFold$Rule" "conditions" "[LAnswerFold$Literal;", .fieldLink RX8 24 "AnswerFold$Rule" "kind" "C", .fieldLink RX8 28 "AnswerFold$Rule" "part" "I"] ++ (u_ws RX8 TX8 11))
theorem iv_k_X8_init_119_X8 : ∀ w ∈ u_ws RX8 TX8 11, w ∈ vs_k_X8_init_119 := (fun _ h => List.mem_cons_of_mem _ (List.mem_append_right _ (h)))
set_option maxHeartbeats 4000000 in
set_option maxRecDepth 100000 in
theorem k_X8_init_119 (l : Launch) (D : va_G) (ty : Nat → ClassId) (td mi sz : Nat) (h0 : Nat) (a2 : Int32) : Met l yX8_init vs_k_X8_init_119 { frames := 1, cells := 2, slots := 7, locals := 12 } (va_Pc [.ref h0, .int 119, .int a2] (wq_P D ty td mi [(h0, .inr (10, [.int 0, .int 0, .int 0, .int 0, .int 0, .int 0, .int 0, .null, .int 0, .null, .int 0]))] sz)) (va_Qv (fun u : va_W => (∃ (q5 : Nat) (q6 : Nat), (u = [(h0, .inr (10, [.int 119, .int a2, .int 0, .int 0, .int (-1), .int 0, .int 0, .ref q5, .int 0, .ref q6, .int 0])), (q5, .inl (ty 5, 2, .inr (.inr (.inr (.inr (fun _ => none)))))), (q6, .inl (ty 5, 5, .inr (.inr (.inr (.inr (fun _ => none))))))]))) (wq_B D (va_A [(h0, .inr (10, [.int 0, .int 0, .int 0, .int 0, .int 0, .int 0, .int 0, .null, .int 0, .null, .int 0]))] sz)) (va_A [(h0, .inr (10, [.int 0, .int 0, .int 0, .int 0, .int 0, .int 0, .int 0, .null, .int 0, .null, .int 0]))] sz)) 2 7 (va_A [(h0, .inr (10, [.int 0, .int 0, .int 0, .int 0, .int 0, .int 0, .int 0, .null, .int 0, .null, .int 0]))] sz) := by
  refine Met.ofW (cc := cX8_init) (maxL := 3) (ret := none) (by decide) rfl ?_
  intro p e s m args below meth c s₁ B hml hv
  obtain ⟨rfl, hsz, hP, hK, hD0, hE⟩ := hv
  have hx := B.exec
  have hb := B.bytes
  have hr := B.returns
  have hts := atoms_spec (ws := vs_k_X8_init_119) B.pre
  have hown : s.vm.findClass RX8 = some m.cls := findClass_of_methodNamed B.named
  have hlocks := B.notSynchronized
  have hin : meth.name = "<init>" := (name_of_methodNamed B.named B.method).1
  subst hsz
  have hD := hD0.self (sz := s.heap.size)
  generalize hAe : va_A [(h0, .inr (10, [.int 0, .int 0, .int 0, .int 0, .int 0, .int 0, .int 0, .null, .int 0, .null, .int 0]))] s.heap.size = A at hD hE ⊢
  have hA : ∀ q : Nat, s.heap.size ≤ q → A q := fun q h => by rw [← hAe]; exact Or.inr h
  have hS : va_S A s.heap s.heap [] := va_S.rf
  have hP : va_P D vwCl [(h0, .inr (10, [.int 0, .int 0, .int 0, .int 0, .int 0, .int 0, .int 0, .null, .int 0, .null, .int 0]))] s.heap := hP
  have hl := lv_entry ([.ref h0, .int 119, .int a2]) (n := 3) (Nat.le_of_ble_eq_true rfl)
  rw [lg_entry_eq]
  generalize (lg_sl ([.ref h0, .int 119, .int a2]) ++ List.replicate (3 - (lg_sl ([.ref h0, .int 119, .int a2])).length) Slot.unset).toArray = ls at hl ⊢
  have hl : lv_has ls 3 [(0, .ref h0), (1, .int 119), (2, .int a2)] := hl
  refine lv_aload_n hx hb dX8_init_0 rfl (lv_at hl 0 rfl) ?_
  refine W.objInit hx hb hown (hts (.methodLink RX8 3 objectInit) (by decide +kernel)) (hts (.instanceMethod objectInit) (by decide +kernel)) (hts (.code objectInit ⟨#[0xb1]⟩ 1 none) (by decide +kernel)) rfl (by rw [hml]; exact hl.1) rfl dX8_init_1 (Nat.le_of_ble_eq_true rfl) (Nat.le_of_ble_eq_true rfl) ?_
  refine W.eq (g2 := F0 m 4 ls []) rfl ?_
  refine lv_aload_n hx hb dX8_init_4 rfl (lv_at hl 0 rfl) ?_
  refine lv_iconst (v := (-1)) hx hb dX8_init_5 (by decide) ?_
  refine va_put (D := D) (ci := 10) (v := .int (-1)) (ty := tyX8 4) (C := RX8) (T := TX8) (N := 11) hx hb hts iv_k_X8_init_119_X8 tyX8 tyX8_ok nmX8 hown hK hP hD hS 0 rfl rfl 4 (by decide) (hts (.fieldLink RX8 9 "AnswerFold$Rule" "span" "I") (by decide +kernel)) (fun _ h9 => h9) rfl (by decide +kernel) rfl rfl (Nat.le_of_ble_eq_true rfl) dX8_init_6 (fun H locs hP hD hS => ?_)
  have hP : va_P D vwCl [(h0, .inr (10, [.int 0, .int 0, .int 0, .int 0, .int (-1), .int 0, .int 0, .null, .int 0, .null, .int 0]))] H := hP
  have hD : va_D A [(h0, .inr (10, [.int 0, .int 0, .int 0, .int 0, .int (-1), .int 0, .int 0, .null, .int 0, .null, .int 0]))] := hD
  refine lv_aload_n hx hb dX8_init_9 rfl (lv_at hl 0 rfl) ?_
  refine lv_iconst (v := 2) hx hb dX8_init_10 (by decide) ?_
  refine wq_newq (C := RX4) hx hb hown (hts (.classLink RX8 15 RX4) (by decide +kernel)) (hE.ao (by decide +kernel)) hK hP hD hS hA 5 rfl (n := 2) (N' := 2) (by decide) (by decide) (Nat.le_of_ble_eq_true rfl) (Nat.le_of_ble_eq_true rfl) (Nat.le_of_ble_eq_true rfl) dX8_init_11 (fun q5 H hP hD hS => ?_)
  have hP : va_P D vwCl [(h0, .inr (10, [.int 0, .int 0, .int 0, .int 0, .int (-1), .int 0, .int 0, .null, .int 0, .null, .int 0])), (q5, .inl (ty 5, 2, .inr (.inr (.inr (.inr (fun _ => none))))))] H := hP
  have hD : va_D A [(h0, .inr (10, [.int 0, .int 0, .int 0, .int 0, .int (-1), .int 0, .int 0, .null, .int 0, .null, .int 0])), (q5, .inl (ty 5, 2, .inr (.inr (.inr (.inr (fun _ => none))))))] := hD
  refine W.widen (k := 1) (n := 2) (Nat.le_of_ble_eq_true rfl) (Nat.le_of_ble_eq_true rfl) ?_
  refine va_putF (D := D) (ci := 10) (v := .ref q5) (ty := tyX8 7) (C := RX8) (T := TX8) (N := 11) hx hb hts iv_k_X8_init_119_X8 tyX8 tyX8_ok nmX8 hown hK hP hD hS 0 rfl rfl 7 (by decide) (hts (.fieldLink RX8 17 "AnswerFold$Rule" "heads" "[LAnswerFold$Literal;") (by decide +kernel)) (fun _ h9 => h9) rfl hin rfl (by decide +kernel) rfl rfl (Nat.le_of_ble_eq_true rfl) dX8_init_14 (fun H locs hP hD hS => ?_)
  have hP : va_P D vwCl [(h0, .inr (10, [.int 0, .int 0, .int 0, .int 0, .int (-1), .int 0, .int 0, .ref q5, .int 0, .null, .int 0])), (q5, .inl (ty 5, 2, .inr (.inr (.inr (.inr (fun _ => none))))))] H := hP
  have hD : va_D A [(h0, .inr (10, [.int 0, .int 0, .int 0, .int 0, .int (-1), .int 0, .int 0, .ref q5, .int 0, .null, .int 0])), (q5, .inl (ty 5, 2, .inr (.inr (.inr (.inr (fun _ => none))))))] := hD
  refine lv_aload_n hx hb dX8_init_17 rfl (lv_at hl 0 rfl) ?_
  refine lv_iconst (v := 5) hx hb dX8_init_18 (by decide) ?_
  refine wq_newq (C := RX4) hx hb hown (hts (.classLink RX8 15 RX4) (by decide +kernel)) (hE.ao (by decide +kernel)) hK hP hD hS hA 5 rfl (n := 5) (N' := 5) (by decide) (by decide) (Nat.le_of_ble_eq_true rfl) (Nat.le_of_ble_eq_true rfl) (Nat.le_of_ble_eq_true rfl) dX8_init_19 (fun q6 H hP hD hS => ?_)
  have hP : va_P D vwCl [(h0, .inr (10, [.int 0, .int 0, .int 0, .int 0, .int (-1), .int 0, .int 0, .ref q5, .int 0, .null, .int 0])), (q5, .inl (ty 5, 2, .inr (.inr (.inr (.inr (fun _ => none)))))), (q6, .inl (ty 5, 5, .inr (.inr (.inr (.inr (fun _ => none))))))] H := hP
  have hD : va_D A [(h0, .inr (10, [.int 0, .int 0, .int 0, .int 0, .int (-1), .int 0, .int 0, .ref q5, .int 0, .null, .int 0])), (q5, .inl (ty 5, 2, .inr (.inr (.inr (.inr (fun _ => none)))))), (q6, .inl (ty 5, 5, .inr (.inr (.inr (.inr (fun _ => none))))))] := hD
  refine W.widen (k := 2) (n := 7) (Nat.le_of_ble_eq_true rfl) (Nat.le_of_ble_eq_true rfl) ?_
  refine va_putF (D := D) (ci := 10) (v := .ref q6) (ty := tyX8 9) (C := RX8) (T := TX8) (N := 11) hx hb hts iv_k_X8_init_119_X8 tyX8 tyX8_ok nmX8 hown hK hP hD hS 0 rfl rfl 9 (by decide) (hts (.fieldLink RX8 21 "AnswerFold$Rule" "conditions" "[LAnswerFold$Literal;") (by decide +kernel)) (fun _ h9 => h9) rfl hin rfl (by decide +kernel) rfl rfl (Nat.le_of_ble_eq_true rfl) dX8_init_22 (fun H locs hP hD hS => ?_)
  have hP : va_P D vwCl [(h0, .inr (10, [.int 0, .int 0, .int 0, .int 0, .int (-1), .int 0, .int 0, .ref q5, .int 0, .ref q6, .int 0])), (q5, .inl (ty 5, 2, .inr (.inr (.inr (.inr (fun _ => none)))))), (q6, .inl (ty 5, 5, .inr (.inr (.inr (.inr (fun _ => none))))))] H := hP
  have hD : va_D A [(h0, .inr (10, [.int 0, .int 0, .int 0, .int 0, .int (-1), .int 0, .int 0, .ref q5, .int 0, .ref q6, .int 0])), (q5, .inl (ty 5, 2, .inr (.inr (.inr (.inr (fun _ => none)))))), (q6, .inl (ty 5, 5, .inr (.inr (.inr (.inr (fun _ => none))))))] := hD
  refine lv_aload_n hx hb dX8_init_25 rfl (lv_at hl 0 rfl) ?_
  refine lv_iload_n hx hb dX8_init_26 rfl (lv_at hl 1 rfl) ?_
  refine va_putF (D := D) (ci := 10) (v := .int 119) (ty := tyX8 0) (C := RX8) (T := TX8) (N := 11) hx hb hts iv_k_X8_init_119_X8 tyX8 tyX8_ok nmX8 hown hK hP hD hS 0 rfl rfl 0 (by decide) (hts (.fieldLink RX8 24 "AnswerFold$Rule" "kind" "C") (by decide +kernel)) (fun _ h9 => h9) rfl hin rfl (by decide +kernel) rfl rfl (Nat.le_of_ble_eq_true rfl) dX8_init_27 (fun H locs hP hD hS => ?_)
  have hP : va_P D vwCl [(h0, .inr (10, [.int 119, .int 0, .int 0, .int 0, .int (-1), .int 0, .int 0, .ref q5, .int 0, .ref q6, .int 0])), (q5, .inl (ty 5, 2, .inr (.inr (.inr (.inr (fun _ => none)))))), (q6, .inl (ty 5, 5, .inr (.inr (.inr (.inr (fun _ => none))))))] H := hP
  have hD : va_D A [(h0, .inr (10, [.int 119, .int 0, .int 0, .int 0, .int (-1), .int 0, .int 0, .ref q5, .int 0, .ref q6, .int 0])), (q5, .inl (ty 5, 2, .inr (.inr (.inr (.inr (fun _ => none)))))), (q6, .inl (ty 5, 5, .inr (.inr (.inr (.inr (fun _ => none))))))] := hD
  refine lv_aload_n hx hb dX8_init_30 rfl (lv_at hl 0 rfl) ?_
  refine lv_iload_n hx hb dX8_init_31 rfl (lv_at hl 2 rfl) ?_
  refine va_putF (D := D) (ci := 10) (v := .int a2) (ty := tyX8 1) (C := RX8) (T := TX8) (N := 11) hx hb hts iv_k_X8_init_119_X8 tyX8 tyX8_ok nmX8 hown hK hP hD hS 0 rfl rfl 1 (by decide) (hts (.fieldLink RX8 28 "AnswerFold$Rule" "part" "I") (by decide +kernel)) (fun _ h9 => h9) rfl hin rfl (by decide +kernel) rfl rfl (Nat.le_of_ble_eq_true rfl) dX8_init_32 (fun H locs hP hD hS => ?_)
  have hP : va_P D vwCl [(h0, .inr (10, [.int 119, .int a2, .int 0, .int 0, .int (-1), .int 0, .int 0, .ref q5, .int 0, .ref q6, .int 0])), (q5, .inl (ty 5, 2, .inr (.inr (.inr (.inr (fun _ => none)))))), (q6, .inl (ty 5, 5, .inr (.inr (.inr (.inr (fun _ => none))))))] H := hP
  have hD : va_D A [(h0, .inr (10, [.int 119, .int a2, .int 0, .int 0, .int (-1), .int 0, .int 0, .ref q5, .int 0, .ref q6, .int 0])), (q5, .inl (ty 5, 2, .inr (.inr (.inr (.inr (fun _ => none)))))), (q6, .inl (ty 5, 5, .inr (.inr (.inr (.inr (fun _ => none))))))] := hD
  have hP9 := hP.sub (ws' := [(h0, .inr (10, [.int 119, .int a2, .int 0, .int 0, .int (-1), .int 0, .int 0, .ref q5, .int 0, .ref q6, .int 0])), (q5, .inl (ty 5, 2, .inr (.inr (.inr (.inr (fun _ => none)))))), (q6, .inl (ty 5, 5, .inr (.inr (.inr (.inr (fun _ => none))))))]) [0, 1, 2] rfl
  have hD9 := hD.sub (ws' := [(h0, .inr (10, [.int 119, .int a2, .int 0, .int 0, .int (-1), .int 0, .int 0, .ref q5, .int 0, .ref q6, .int 0])), (q5, .inl (ty 5, 2, .inr (.inr (.inr (.inr (fun _ => none)))))), (q6, .inl (ty 5, 5, .inr (.inr (.inr (.inr (fun _ => none))))))]) [0, 1, 2] (by decide) rfl
  refine W.widen (k := 2) (n := 7) (Nat.le_of_ble_eq_true rfl) (Nat.le_of_ble_eq_true rfl) ?_
  exact W.vret hx hb hr (fun t ht hW => ⟨⟨[(h0, .inr (10, [.int 119, .int a2, .int 0, .int 0, .int (-1), .int 0, .int 0, .ref q5, .int 0, .ref q6, .int 0])), (q5, .inl (ty 5, 2, .inr (.inr (.inr (.inr (fun _ => none)))))), (q6, .inl (ty 5, 5, .inr (.inr (.inr (.inr (fun _ => none))))))], rfl, ⟨q5, q6, rfl⟩, wq_B.of ht hP9 hD9⟩, hS.F ht⟩) hS.2.2 dX8_init_35
theorem dX8_tellHead_0 : decode cX8_tellHead 0 = .ok (.aload_n 0, 1) := by decide +kernel
theorem dX8_tellHead_1 : decode cX8_tellHead 1 = .ok (.getfield 31, 3) := by decide +kernel
theorem dX8_tellHead_4 : decode cX8_tellHead 4 = .ok (.ifCond .lt 31, 3) := by decide +kernel
theorem dX8_tellHead_7 : decode cX8_tellHead 7 = .ok (.aload_n 0, 1) := by decide +kernel
theorem dX8_tellHead_8 : decode cX8_tellHead 8 = .ok (.getfield 31, 3) := by decide +kernel
theorem dX8_tellHead_11 : decode cX8_tellHead 11 = .ok (.iconst 2, 1) := by decide +kernel
theorem dX8_tellHead_12 : decode cX8_tellHead 12 = .ok (.if_icmp .ge 23, 3) := by decide +kernel
theorem dX8_tellHead_15 : decode cX8_tellHead 15 = .ok (.aload_n 0, 1) := by decide +kernel
theorem dX8_tellHead_16 : decode cX8_tellHead 16 = .ok (.getfield 17, 3) := by decide +kernel
theorem dX8_tellHead_19 : decode cX8_tellHead 19 = .ok (.aload_n 0, 1) := by decide +kernel
theorem dX8_tellHead_20 : decode cX8_tellHead 20 = .ok (.getfield 31, 3) := by decide +kernel
theorem dX8_tellHead_23 : decode cX8_tellHead 23 = .ok (.aload_n 1, 1) := by decide +kernel
theorem dX8_tellHead_24 : decode cX8_tellHead 24 = .ok (.aastore, 1) := by decide +kernel
theorem dX8_tellHead_25 : decode cX8_tellHead 25 = .ok (.aload_n 0, 1) := by decide +kernel
theorem dX8_tellHead_26 : decode cX8_tellHead 26 = .ok (.dup, 1) := by decide +kernel
theorem dX8_tellHead_27 : decode cX8_tellHead 27 = .ok (.getfield 31, 3) := by decide +kernel
theorem dX8_tellHead_30 : decode cX8_tellHead 30 = .ok (.iconst 1, 1) := by decide +kernel
theorem dX8_tellHead_31 : decode cX8_tellHead 31 = .ok (.iadd, 1) := by decide +kernel
theorem dX8_tellHead_32 : decode cX8_tellHead 32 = .ok (.putfield 31, 3) := by decide +kernel
theorem dX8_tellHead_35 : decode cX8_tellHead 35 = .ok (.aload_n 0, 1) := by decide +kernel
theorem dX8_tellHead_36 : decode cX8_tellHead 36 = .ok (.getfield 31, 3) := by decide +kernel
theorem dX8_tellHead_39 : decode cX8_tellHead 39 = .ok (.ireturn, 1) := by decide +kernel
def wW_k_X8_tellHead (ty : Nat → ClassId) (y0 : Nat) (y1 : Nat) (y2 : Nat) (z0 : Nat) (z9_0 : Int32) (z9_1 : Int32) (z9_2 : Int32) (z9_3 : Int32) (z9_4 : Int32) (z9_5 : Int32) (z9_6 : Int32) (z9_7 : Int32) (z9_8 : Int32) (z9_9 : Nat → Option Nat) (z9_10 : Int32) (z9_11 : Int32) (z9_12 : Int32) (z9_13 : Int32) (z9_14 : Int32) (z9_15 : Int32) (z9_16 : Int32) (z9_17 : Int32) : va_W := [(y0, .inr (10, [.int z9_0, .int z9_1, .int z9_2, .int z9_3, .int z9_4, .int z9_5, .int z9_6, .ref y1, .int z9_7, .ref y2, .int z9_8])), (y1, .inl (ty 5, 2, .inr (.inr (.inr (.inr z9_9))))), (z0, .inr (6, [.int z9_10, .int z9_11, .int z9_12, .int z9_13, .int z9_14, .int z9_15, .int z9_16, .int z9_17]))]
def vs_k_X8_tellHead : List Cond := .code yX8_tellHead cX8_tellHead 2 (some .int) :: ([.fieldLink RX8 31 "AnswerFold$Rule" "headCount" "I", .fieldLink RX8 17 "AnswerFold$Rule" "heads" "[LAnswerFold$Literal;"] ++ (u_ws RX8 TX8 11))
theorem iv_k_X8_tellHead_X8 : ∀ w ∈ u_ws RX8 TX8 11, w ∈ vs_k_X8_tellHead := (fun _ h => List.mem_cons_of_mem _ (List.mem_append_right _ (h)))
set_option maxHeartbeats 4000000 in
set_option maxRecDepth 100000 in
theorem k_X8_tellHead (l : Launch) (D : va_G) (ty : Nat → ClassId) (td mi sz : Nat) (y0 : Nat) (y_k : Int32) (y_p : Int32) (y_lo : Int32) (y_up : Int32) (y_sp : Int32) (y_we : Int32) (y_le : Int32) (y1 : Nat) (y_hc : Int32) (y2 : Nat) (y_cc : Int32) (yh : Nat → Option Nat) (z0 : Nat) (z1 : Int32) (z2 : Int32) (z3 : Int32) (z4 : Int32) (z5 : Int32) (z6 : Int32) (z7 : Int32) (z8 : Int32) (TT : r_k_X8_tellHead) (hTT : TT = m_k_X8_tellHead y_hc) : Met l yX8_tellHead vs_k_X8_tellHead { frames := 0, cells := 0, slots := 0, locals := 0 } (va_Pc [.ref y0, .ref z0] (wq_P D ty td mi (wW_k_X8_tellHead ty y0 y1 y2 z0 y_k y_p y_lo y_up y_sp y_we y_le y_hc y_cc yh z1 z2 z3 z4 z5 z6 z7 z8) sz)) (va_Qi (fun (r : Int32) (u : va_W) => (TT.1 = 0 ∧ r = TT.2.1 ∧ (u = (wW_k_X8_tellHead ty y0 y1 y2 z0 y_k y_p y_lo y_up y_sp y_we y_le TT.2.2 y_cc yh z1 z2 z3 z4 z5 z6 z7 z8))) ∨ (TT.1 = 1 ∧ r = TT.2.1 ∧ (u = (wW_k_X8_tellHead ty y0 y1 y2 z0 y_k y_p y_lo y_up y_sp y_we y_le TT.2.2 y_cc (va_up yh y_hc.toNatClampNeg (some z0)) z1 z2 z3 z4 z5 z6 z7 z8)))) (wq_B D (va_A (wW_k_X8_tellHead ty y0 y1 y2 z0 y_k y_p y_lo y_up y_sp y_we y_le y_hc y_cc yh z1 z2 z3 z4 z5 z6 z7 z8) sz)) (va_A (wW_k_X8_tellHead ty y0 y1 y2 z0 y_k y_p y_lo y_up y_sp y_we y_le y_hc y_cc yh z1 z2 z3 z4 z5 z6 z7 z8) sz)) 0 0 (va_A (wW_k_X8_tellHead ty y0 y1 y2 z0 y_k y_p y_lo y_up y_sp y_we y_le y_hc y_cc yh z1 z2 z3 z4 z5 z6 z7 z8) sz) := by
  refine Met.ofW (cc := cX8_tellHead) (maxL := 2) (ret := (some .int)) (by decide) rfl ?_
  intro p e s m args below meth c s₁ B hml hv
  obtain ⟨rfl, hsz, hP, hK, hD0, hE⟩ := hv
  have hx := B.exec
  have hb := B.bytes
  have hr := B.returns
  have hts := atoms_spec (ws := vs_k_X8_tellHead) B.pre
  have hown : s.vm.findClass RX8 = some m.cls := findClass_of_methodNamed B.named
  have hlocks := B.notSynchronized
  subst hsz
  have hD := hD0.self (sz := s.heap.size)
  generalize hAe : va_A (wW_k_X8_tellHead ty y0 y1 y2 z0 y_k y_p y_lo y_up y_sp y_we y_le y_hc y_cc yh z1 z2 z3 z4 z5 z6 z7 z8) s.heap.size = A at hD hE ⊢
  have hA : ∀ q : Nat, s.heap.size ≤ q → A q := fun q h => by rw [← hAe]; exact Or.inr h
  have hS : va_S A s.heap s.heap [] := va_S.rf
  have hP : va_P D vwCl (wW_k_X8_tellHead ty y0 y1 y2 z0 y_k y_p y_lo y_up y_sp y_we y_le y_hc y_cc yh z1 z2 z3 z4 z5 z6 z7 z8) s.heap := hP
  have hl := lv_entry ([.ref y0, .ref z0]) (n := 2) (Nat.le_of_ble_eq_true rfl)
  rw [lg_entry_eq]
  generalize (lg_sl ([.ref y0, .ref z0]) ++ List.replicate (2 - (lg_sl ([.ref y0, .ref z0])).length) Slot.unset).toArray = ls at hl ⊢
  have hl : lv_has ls 2 [(0, .ref y0), (1, .ref z0)] := hl
  have END_0 : ∀ (r : Int32) (w9_0 : Int32), TT = (0, r, w9_0) → ∀ (H : Heap) (locs : List Loc), va_P D vwCl (wW_k_X8_tellHead ty y0 y1 y2 z0 y_k y_p y_lo y_up y_sp y_we y_le w9_0 y_cc yh z1 z2 z3 z4 z5 z6 z7 z8) H → va_D A (wW_k_X8_tellHead ty y0 y1 y2 z0 y_k y_p y_lo y_up y_sp y_we y_le w9_0 y_cc yh z1 z2 z3 z4 z5 z6 z7 z8) → va_S A s.heap H locs → ∀ (ls : Array Slot) (pc : Nat), decode cX8_tellHead pc = .ok (.ireturn, 1) → W p l e (headSpec vs_k_X8_tellHead { frames := 0, cells := 0, slots := 0, locals := 0 }).room s m ([.ref y0, .ref z0] : List Value).toArray below meth c H locs 0 0 (MQ below (va_Qi (fun (r : Int32) (u : va_W) => (TT.1 = 0 ∧ r = TT.2.1 ∧ (u = (wW_k_X8_tellHead ty y0 y1 y2 z0 y_k y_p y_lo y_up y_sp y_we y_le TT.2.2 y_cc yh z1 z2 z3 z4 z5 z6 z7 z8))) ∨ (TT.1 = 1 ∧ r = TT.2.1 ∧ (u = (wW_k_X8_tellHead ty y0 y1 y2 z0 y_k y_p y_lo y_up y_sp y_we y_le TT.2.2 y_cc (va_up yh y_hc.toNatClampNeg (some z0)) z1 z2 z3 z4 z5 z6 z7 z8)))) (wq_B D A) A) ([.ref y0, .ref z0] : List Value).toArray s 0 0 A) (F0 m pc ls [.int r]) := by
    intro r w9_0 hT H locs hP hD hS ls pc hd
    have hM : TT = (0, r, w9_0) := hT
    exact W.iret (v := r) hx hb hr (fun t ht hW => ⟨⟨r, (wW_k_X8_tellHead ty y0 y1 y2 z0 y_k y_p y_lo y_up y_sp y_we y_le w9_0 y_cc yh z1 z2 z3 z4 z5 z6 z7 z8), rfl, (Or.inl ⟨(by rw [hM]), (by rw [hM]), (by rw [hM])⟩), wq_B.of ht hP hD⟩, hS.F ht⟩) hS.2.2 hd
  have END_1 : ∀ (r : Int32) (w9_0 : Int32), TT = (1, r, w9_0) → ∀ (H : Heap) (locs : List Loc), va_P D vwCl (wW_k_X8_tellHead ty y0 y1 y2 z0 y_k y_p y_lo y_up y_sp y_we y_le w9_0 y_cc (va_up yh y_hc.toNatClampNeg (some z0)) z1 z2 z3 z4 z5 z6 z7 z8) H → va_D A (wW_k_X8_tellHead ty y0 y1 y2 z0 y_k y_p y_lo y_up y_sp y_we y_le w9_0 y_cc (va_up yh y_hc.toNatClampNeg (some z0)) z1 z2 z3 z4 z5 z6 z7 z8) → va_S A s.heap H locs → ∀ (ls : Array Slot) (pc : Nat), decode cX8_tellHead pc = .ok (.ireturn, 1) → W p l e (headSpec vs_k_X8_tellHead { frames := 0, cells := 0, slots := 0, locals := 0 }).room s m ([.ref y0, .ref z0] : List Value).toArray below meth c H locs 0 0 (MQ below (va_Qi (fun (r : Int32) (u : va_W) => (TT.1 = 0 ∧ r = TT.2.1 ∧ (u = (wW_k_X8_tellHead ty y0 y1 y2 z0 y_k y_p y_lo y_up y_sp y_we y_le TT.2.2 y_cc yh z1 z2 z3 z4 z5 z6 z7 z8))) ∨ (TT.1 = 1 ∧ r = TT.2.1 ∧ (u = (wW_k_X8_tellHead ty y0 y1 y2 z0 y_k y_p y_lo y_up y_sp y_we y_le TT.2.2 y_cc (va_up yh y_hc.toNatClampNeg (some z0)) z1 z2 z3 z4 z5 z6 z7 z8)))) (wq_B D A) A) ([.ref y0, .ref z0] : List Value).toArray s 0 0 A) (F0 m pc ls [.int r]) := by
    intro r w9_0 hT H locs hP hD hS ls pc hd
    have hM : TT = (1, r, w9_0) := hT
    exact W.iret (v := r) hx hb hr (fun t ht hW => ⟨⟨r, (wW_k_X8_tellHead ty y0 y1 y2 z0 y_k y_p y_lo y_up y_sp y_we y_le w9_0 y_cc (va_up yh y_hc.toNatClampNeg (some z0)) z1 z2 z3 z4 z5 z6 z7 z8), rfl, (Or.inr ⟨(by rw [hM]), (by rw [hM]), (by rw [hM])⟩), wq_B.of ht hP hD⟩, hS.F ht⟩) hS.2.2 hd
  have hT := hTT
  rw [m_k_X8_tellHead] at hT
  refine lv_aload_n hx hb dX8_tellHead_0 rfl (lv_at hl 0 rfl) ?_
  refine va_get (D := D) (ci := 10) (v := .int y_hc) (C := RX8) (T := TX8) (N := 11) hx hb hts iv_k_X8_tellHead_X8 hown hK hP 0 rfl rfl 8 (by decide) (hts (.fieldLink RX8 31 "AnswerFold$Rule" "headCount" "I") (by decide +kernel)) (fun _ h9 => h9) rfl dX8_tellHead_1 ?_
  refine lv_if_lt (tgt := 35) hx hb dX8_tellHead_4 (by decide) (fun c_1 => ?_) (fun c_1 => ?_)
  · rw [if_pos c_1] at hT
    refine lv_aload_n hx hb dX8_tellHead_35 rfl (lv_at hl 0 rfl) ?_
    refine va_get (D := D) (ci := 10) (v := .int y_hc) (C := RX8) (T := TX8) (N := 11) hx hb hts iv_k_X8_tellHead_X8 hown hK hP 0 rfl rfl 8 (by decide) (hts (.fieldLink RX8 31 "AnswerFold$Rule" "headCount" "I") (by decide +kernel)) (fun _ h9 => h9) rfl dX8_tellHead_36 ?_
    exact END_0 y_hc y_hc hT _ _ hP hD hS _ _ dX8_tellHead_39
  · rw [if_neg c_1] at hT
    refine lv_aload_n hx hb dX8_tellHead_7 rfl (lv_at hl 0 rfl) ?_
    refine va_get (D := D) (ci := 10) (v := .int y_hc) (C := RX8) (T := TX8) (N := 11) hx hb hts iv_k_X8_tellHead_X8 hown hK hP 0 rfl rfl 8 (by decide) (hts (.fieldLink RX8 31 "AnswerFold$Rule" "headCount" "I") (by decide +kernel)) (fun _ h9 => h9) rfl dX8_tellHead_8 ?_
    refine lv_iconst (v := 2) hx hb dX8_tellHead_11 (by decide) ?_
    refine lv_icmp_ge (tgt := 35) hx hb dX8_tellHead_12 (by decide) (fun c_2 => ?_) (fun c_2 => ?_)
    · rw [if_pos c_2] at hT
      refine lv_aload_n hx hb dX8_tellHead_35 rfl (lv_at hl 0 rfl) ?_
      refine va_get (D := D) (ci := 10) (v := .int y_hc) (C := RX8) (T := TX8) (N := 11) hx hb hts iv_k_X8_tellHead_X8 hown hK hP 0 rfl rfl 8 (by decide) (hts (.fieldLink RX8 31 "AnswerFold$Rule" "headCount" "I") (by decide +kernel)) (fun _ h9 => h9) rfl dX8_tellHead_36 ?_
      exact END_0 y_hc y_hc hT _ _ hP hD hS _ _ dX8_tellHead_39
    · rw [if_neg c_2] at hT
      refine lv_aload_n hx hb dX8_tellHead_15 rfl (lv_at hl 0 rfl) ?_
      refine va_get (D := D) (ci := 10) (v := .ref y1) (C := RX8) (T := TX8) (N := 11) hx hb hts iv_k_X8_tellHead_X8 hown hK hP 0 rfl rfl 7 (by decide) (hts (.fieldLink RX8 17 "AnswerFold$Rule" "heads" "[LAnswerFold$Literal;") (by decide +kernel)) (fun _ h9 => h9) rfl dX8_tellHead_16 ?_
      refine lv_aload_n hx hb dX8_tellHead_19 rfl (lv_at hl 0 rfl) ?_
      refine va_get (D := D) (ci := 10) (v := .int y_hc) (C := RX8) (T := TX8) (N := 11) hx hb hts iv_k_X8_tellHead_X8 hown hK hP 0 rfl rfl 8 (by decide) (hts (.fieldLink RX8 31 "AnswerFold$Rule" "headCount" "I") (by decide +kernel)) (fun _ h9 => h9) rfl dX8_tellHead_20 ?_
      refine lv_aload_n hx hb dX8_tellHead_23 rfl (lv_at hl 1 rfl) ?_
      refine va_astq (D := D) hx hb hK hP hD hS 1 5 2 6 rfl rfl rfl rfl (wi_in (wi_lo c_1) (wi_hi c_2 (by decide))) dX8_tellHead_24 (fun H locs hP hD hS => ?_)
      have hP : va_P D vwCl (wW_k_X8_tellHead ty y0 y1 y2 z0 y_k y_p y_lo y_up y_sp y_we y_le y_hc y_cc (va_up yh y_hc.toNatClampNeg (some z0)) z1 z2 z3 z4 z5 z6 z7 z8) H := hP
      have hD : va_D A (wW_k_X8_tellHead ty y0 y1 y2 z0 y_k y_p y_lo y_up y_sp y_we y_le y_hc y_cc (va_up yh y_hc.toNatClampNeg (some z0)) z1 z2 z3 z4 z5 z6 z7 z8) := hD
      refine lv_aload_n hx hb dX8_tellHead_25 rfl (lv_at hl 0 rfl) ?_
      refine lv_dup hx hb dX8_tellHead_26 rfl ?_
      refine va_get (D := D) (ci := 10) (v := .int y_hc) (C := RX8) (T := TX8) (N := 11) hx hb hts iv_k_X8_tellHead_X8 hown hK hP 0 rfl rfl 8 (by decide) (hts (.fieldLink RX8 31 "AnswerFold$Rule" "headCount" "I") (by decide +kernel)) (fun _ h9 => h9) rfl dX8_tellHead_27 ?_
      refine lv_iconst (v := 1) hx hb dX8_tellHead_30 (by decide) ?_
      refine lv_iadd hx hb dX8_tellHead_31 ?_
      refine va_put (D := D) (ci := 10) (v := .int (y_hc + 1)) (ty := tyX8 8) (C := RX8) (T := TX8) (N := 11) hx hb hts iv_k_X8_tellHead_X8 tyX8 tyX8_ok nmX8 hown hK hP hD hS 0 rfl rfl 8 (by decide) (hts (.fieldLink RX8 31 "AnswerFold$Rule" "headCount" "I") (by decide +kernel)) (fun _ h9 => h9) rfl (by decide +kernel) rfl rfl (Nat.le_of_ble_eq_true rfl) dX8_tellHead_32 (fun H locs hP hD hS => ?_)
      have hP : va_P D vwCl (wW_k_X8_tellHead ty y0 y1 y2 z0 y_k y_p y_lo y_up y_sp y_we y_le (y_hc + 1) y_cc (va_up yh y_hc.toNatClampNeg (some z0)) z1 z2 z3 z4 z5 z6 z7 z8) H := hP
      have hD : va_D A (wW_k_X8_tellHead ty y0 y1 y2 z0 y_k y_p y_lo y_up y_sp y_we y_le (y_hc + 1) y_cc (va_up yh y_hc.toNatClampNeg (some z0)) z1 z2 z3 z4 z5 z6 z7 z8) := hD
      refine lv_aload_n hx hb dX8_tellHead_35 rfl (lv_at hl 0 rfl) ?_
      refine va_get (D := D) (ci := 10) (v := .int (y_hc + 1)) (C := RX8) (T := TX8) (N := 11) hx hb hts iv_k_X8_tellHead_X8 hown hK hP 0 rfl rfl 8 (by decide) (hts (.fieldLink RX8 31 "AnswerFold$Rule" "headCount" "I") (by decide +kernel)) (fun _ h9 => h9) rfl dX8_tellHead_36 ?_
      exact END_1 (y_hc + 1) (y_hc + 1) hT _ _ hP hD hS _ _ dX8_tellHead_39
theorem dX8_tellCondition_0 : decode cX8_tellCondition 0 = .ok (.aload_n 0, 1) := by decide +kernel
theorem dX8_tellCondition_1 : decode cX8_tellCondition 1 = .ok (.getfield 34, 3) := by decide +kernel
theorem dX8_tellCondition_4 : decode cX8_tellCondition 4 = .ok (.ifCond .lt 31, 3) := by decide +kernel
theorem dX8_tellCondition_7 : decode cX8_tellCondition 7 = .ok (.aload_n 0, 1) := by decide +kernel
theorem dX8_tellCondition_8 : decode cX8_tellCondition 8 = .ok (.getfield 34, 3) := by decide +kernel
theorem dX8_tellCondition_11 : decode cX8_tellCondition 11 = .ok (.iconst 5, 1) := by decide +kernel
theorem dX8_tellCondition_12 : decode cX8_tellCondition 12 = .ok (.if_icmp .ge 23, 3) := by decide +kernel
theorem dX8_tellCondition_15 : decode cX8_tellCondition 15 = .ok (.aload_n 0, 1) := by decide +kernel
theorem dX8_tellCondition_16 : decode cX8_tellCondition 16 = .ok (.getfield 21, 3) := by decide +kernel
theorem dX8_tellCondition_19 : decode cX8_tellCondition 19 = .ok (.aload_n 0, 1) := by decide +kernel
theorem dX8_tellCondition_20 : decode cX8_tellCondition 20 = .ok (.getfield 34, 3) := by decide +kernel
theorem dX8_tellCondition_23 : decode cX8_tellCondition 23 = .ok (.aload_n 1, 1) := by decide +kernel
theorem dX8_tellCondition_24 : decode cX8_tellCondition 24 = .ok (.aastore, 1) := by decide +kernel
theorem dX8_tellCondition_25 : decode cX8_tellCondition 25 = .ok (.aload_n 0, 1) := by decide +kernel
theorem dX8_tellCondition_26 : decode cX8_tellCondition 26 = .ok (.dup, 1) := by decide +kernel
theorem dX8_tellCondition_27 : decode cX8_tellCondition 27 = .ok (.getfield 34, 3) := by decide +kernel
theorem dX8_tellCondition_30 : decode cX8_tellCondition 30 = .ok (.iconst 1, 1) := by decide +kernel
theorem dX8_tellCondition_31 : decode cX8_tellCondition 31 = .ok (.iadd, 1) := by decide +kernel
theorem dX8_tellCondition_32 : decode cX8_tellCondition 32 = .ok (.putfield 34, 3) := by decide +kernel
theorem dX8_tellCondition_35 : decode cX8_tellCondition 35 = .ok (.aload_n 0, 1) := by decide +kernel
theorem dX8_tellCondition_36 : decode cX8_tellCondition 36 = .ok (.getfield 34, 3) := by decide +kernel
theorem dX8_tellCondition_39 : decode cX8_tellCondition 39 = .ok (.ireturn, 1) := by decide +kernel
def wW_k_X8_tellCondition (ty : Nat → ClassId) (y0 : Nat) (y1 : Nat) (y2 : Nat) (z0 : Nat) (z9_0 : Int32) (z9_1 : Int32) (z9_2 : Int32) (z9_3 : Int32) (z9_4 : Int32) (z9_5 : Int32) (z9_6 : Int32) (z9_7 : Int32) (z9_8 : Int32) (z9_9 : Nat → Option Nat) (z9_10 : Int32) (z9_11 : Int32) (z9_12 : Int32) (z9_13 : Int32) (z9_14 : Int32) (z9_15 : Int32) (z9_16 : Int32) (z9_17 : Int32) : va_W := [(y0, .inr (10, [.int z9_0, .int z9_1, .int z9_2, .int z9_3, .int z9_4, .int z9_5, .int z9_6, .ref y1, .int z9_7, .ref y2, .int z9_8])), (y2, .inl (ty 5, 5, .inr (.inr (.inr (.inr z9_9))))), (z0, .inr (6, [.int z9_10, .int z9_11, .int z9_12, .int z9_13, .int z9_14, .int z9_15, .int z9_16, .int z9_17]))]
def vs_k_X8_tellCondition : List Cond := .code yX8_tellCondition cX8_tellCondition 2 (some .int) :: ([.fieldLink RX8 34 "AnswerFold$Rule" "conditionCount" "I", .fieldLink RX8 21 "AnswerFold$Rule" "conditions" "[LAnswerFold$Literal;"] ++ (u_ws RX8 TX8 11))
theorem iv_k_X8_tellCondition_X8 : ∀ w ∈ u_ws RX8 TX8 11, w ∈ vs_k_X8_tellCondition := (fun _ h => List.mem_cons_of_mem _ (List.mem_append_right _ (h)))
set_option maxHeartbeats 4000000 in
set_option maxRecDepth 100000 in
theorem k_X8_tellCondition (l : Launch) (D : va_G) (ty : Nat → ClassId) (td mi sz : Nat) (y0 : Nat) (y_k : Int32) (y_p : Int32) (y_lo : Int32) (y_up : Int32) (y_sp : Int32) (y_we : Int32) (y_le : Int32) (y1 : Nat) (y_hc : Int32) (y2 : Nat) (y_cc : Int32) (yc : Nat → Option Nat) (z0 : Nat) (z1 : Int32) (z2 : Int32) (z3 : Int32) (z4 : Int32) (z5 : Int32) (z6 : Int32) (z7 : Int32) (z8 : Int32) (TT : r_k_X8_tellCondition) (hTT : TT = m_k_X8_tellCondition y_cc) : Met l yX8_tellCondition vs_k_X8_tellCondition { frames := 0, cells := 0, slots := 0, locals := 0 } (va_Pc [.ref y0, .ref z0] (wq_P D ty td mi (wW_k_X8_tellCondition ty y0 y1 y2 z0 y_k y_p y_lo y_up y_sp y_we y_le y_hc y_cc yc z1 z2 z3 z4 z5 z6 z7 z8) sz)) (va_Qi (fun (r : Int32) (u : va_W) => (TT.1 = 0 ∧ r = TT.2.1 ∧ (u = (wW_k_X8_tellCondition ty y0 y1 y2 z0 y_k y_p y_lo y_up y_sp y_we y_le y_hc TT.2.2 yc z1 z2 z3 z4 z5 z6 z7 z8))) ∨ (TT.1 = 1 ∧ r = TT.2.1 ∧ (u = (wW_k_X8_tellCondition ty y0 y1 y2 z0 y_k y_p y_lo y_up y_sp y_we y_le y_hc TT.2.2 (va_up yc y_cc.toNatClampNeg (some z0)) z1 z2 z3 z4 z5 z6 z7 z8)))) (wq_B D (va_A (wW_k_X8_tellCondition ty y0 y1 y2 z0 y_k y_p y_lo y_up y_sp y_we y_le y_hc y_cc yc z1 z2 z3 z4 z5 z6 z7 z8) sz)) (va_A (wW_k_X8_tellCondition ty y0 y1 y2 z0 y_k y_p y_lo y_up y_sp y_we y_le y_hc y_cc yc z1 z2 z3 z4 z5 z6 z7 z8) sz)) 0 0 (va_A (wW_k_X8_tellCondition ty y0 y1 y2 z0 y_k y_p y_lo y_up y_sp y_we y_le y_hc y_cc yc z1 z2 z3 z4 z5 z6 z7 z8) sz) := by
  refine Met.ofW (cc := cX8_tellCondition) (maxL := 2) (ret := (some .int)) (by decide) rfl ?_
  intro p e s m args below meth c s₁ B hml hv
  obtain ⟨rfl, hsz, hP, hK, hD0, hE⟩ := hv
  have hx := B.exec
  have hb := B.bytes
  have hr := B.returns
  have hts := atoms_spec (ws := vs_k_X8_tellCondition) B.pre
  have hown : s.vm.findClass RX8 = some m.cls := findClass_of_methodNamed B.named
  have hlocks := B.notSynchronized
  subst hsz
  have hD := hD0.self (sz := s.heap.size)
  generalize hAe : va_A (wW_k_X8_tellCondition ty y0 y1 y2 z0 y_k y_p y_lo y_up y_sp y_we y_le y_hc y_cc yc z1 z2 z3 z4 z5 z6 z7 z8) s.heap.size = A at hD hE ⊢
  have hA : ∀ q : Nat, s.heap.size ≤ q → A q := fun q h => by rw [← hAe]; exact Or.inr h
  have hS : va_S A s.heap s.heap [] := va_S.rf
  have hP : va_P D vwCl (wW_k_X8_tellCondition ty y0 y1 y2 z0 y_k y_p y_lo y_up y_sp y_we y_le y_hc y_cc yc z1 z2 z3 z4 z5 z6 z7 z8) s.heap := hP
  have hl := lv_entry ([.ref y0, .ref z0]) (n := 2) (Nat.le_of_ble_eq_true rfl)
  rw [lg_entry_eq]
  generalize (lg_sl ([.ref y0, .ref z0]) ++ List.replicate (2 - (lg_sl ([.ref y0, .ref z0])).length) Slot.unset).toArray = ls at hl ⊢
  have hl : lv_has ls 2 [(0, .ref y0), (1, .ref z0)] := hl
  have END_0 : ∀ (r : Int32) (w9_0 : Int32), TT = (0, r, w9_0) → ∀ (H : Heap) (locs : List Loc), va_P D vwCl (wW_k_X8_tellCondition ty y0 y1 y2 z0 y_k y_p y_lo y_up y_sp y_we y_le y_hc w9_0 yc z1 z2 z3 z4 z5 z6 z7 z8) H → va_D A (wW_k_X8_tellCondition ty y0 y1 y2 z0 y_k y_p y_lo y_up y_sp y_we y_le y_hc w9_0 yc z1 z2 z3 z4 z5 z6 z7 z8) → va_S A s.heap H locs → ∀ (ls : Array Slot) (pc : Nat), decode cX8_tellCondition pc = .ok (.ireturn, 1) → W p l e (headSpec vs_k_X8_tellCondition { frames := 0, cells := 0, slots := 0, locals := 0 }).room s m ([.ref y0, .ref z0] : List Value).toArray below meth c H locs 0 0 (MQ below (va_Qi (fun (r : Int32) (u : va_W) => (TT.1 = 0 ∧ r = TT.2.1 ∧ (u = (wW_k_X8_tellCondition ty y0 y1 y2 z0 y_k y_p y_lo y_up y_sp y_we y_le y_hc TT.2.2 yc z1 z2 z3 z4 z5 z6 z7 z8))) ∨ (TT.1 = 1 ∧ r = TT.2.1 ∧ (u = (wW_k_X8_tellCondition ty y0 y1 y2 z0 y_k y_p y_lo y_up y_sp y_we y_le y_hc TT.2.2 (va_up yc y_cc.toNatClampNeg (some z0)) z1 z2 z3 z4 z5 z6 z7 z8)))) (wq_B D A) A) ([.ref y0, .ref z0] : List Value).toArray s 0 0 A) (F0 m pc ls [.int r]) := by
    intro r w9_0 hT H locs hP hD hS ls pc hd
    have hM : TT = (0, r, w9_0) := hT
    exact W.iret (v := r) hx hb hr (fun t ht hW => ⟨⟨r, (wW_k_X8_tellCondition ty y0 y1 y2 z0 y_k y_p y_lo y_up y_sp y_we y_le y_hc w9_0 yc z1 z2 z3 z4 z5 z6 z7 z8), rfl, (Or.inl ⟨(by rw [hM]), (by rw [hM]), (by rw [hM])⟩), wq_B.of ht hP hD⟩, hS.F ht⟩) hS.2.2 hd
  have END_1 : ∀ (r : Int32) (w9_0 : Int32), TT = (1, r, w9_0) → ∀ (H : Heap) (locs : List Loc), va_P D vwCl (wW_k_X8_tellCondition ty y0 y1 y2 z0 y_k y_p y_lo y_up y_sp y_we y_le y_hc w9_0 (va_up yc y_cc.toNatClampNeg (some z0)) z1 z2 z3 z4 z5 z6 z7 z8) H → va_D A (wW_k_X8_tellCondition ty y0 y1 y2 z0 y_k y_p y_lo y_up y_sp y_we y_le y_hc w9_0 (va_up yc y_cc.toNatClampNeg (some z0)) z1 z2 z3 z4 z5 z6 z7 z8) → va_S A s.heap H locs → ∀ (ls : Array Slot) (pc : Nat), decode cX8_tellCondition pc = .ok (.ireturn, 1) → W p l e (headSpec vs_k_X8_tellCondition { frames := 0, cells := 0, slots := 0, locals := 0 }).room s m ([.ref y0, .ref z0] : List Value).toArray below meth c H locs 0 0 (MQ below (va_Qi (fun (r : Int32) (u : va_W) => (TT.1 = 0 ∧ r = TT.2.1 ∧ (u = (wW_k_X8_tellCondition ty y0 y1 y2 z0 y_k y_p y_lo y_up y_sp y_we y_le y_hc TT.2.2 yc z1 z2 z3 z4 z5 z6 z7 z8))) ∨ (TT.1 = 1 ∧ r = TT.2.1 ∧ (u = (wW_k_X8_tellCondition ty y0 y1 y2 z0 y_k y_p y_lo y_up y_sp y_we y_le y_hc TT.2.2 (va_up yc y_cc.toNatClampNeg (some z0)) z1 z2 z3 z4 z5 z6 z7 z8)))) (wq_B D A) A) ([.ref y0, .ref z0] : List Value).toArray s 0 0 A) (F0 m pc ls [.int r]) := by
    intro r w9_0 hT H locs hP hD hS ls pc hd
    have hM : TT = (1, r, w9_0) := hT
    exact W.iret (v := r) hx hb hr (fun t ht hW => ⟨⟨r, (wW_k_X8_tellCondition ty y0 y1 y2 z0 y_k y_p y_lo y_up y_sp y_we y_le y_hc w9_0 (va_up yc y_cc.toNatClampNeg (some z0)) z1 z2 z3 z4 z5 z6 z7 z8), rfl, (Or.inr ⟨(by rw [hM]), (by rw [hM]), (by rw [hM])⟩), wq_B.of ht hP hD⟩, hS.F ht⟩) hS.2.2 hd
  have hT := hTT
  rw [m_k_X8_tellCondition] at hT
  refine lv_aload_n hx hb dX8_tellCondition_0 rfl (lv_at hl 0 rfl) ?_
  refine va_get (D := D) (ci := 10) (v := .int y_cc) (C := RX8) (T := TX8) (N := 11) hx hb hts iv_k_X8_tellCondition_X8 hown hK hP 0 rfl rfl 10 (by decide) (hts (.fieldLink RX8 34 "AnswerFold$Rule" "conditionCount" "I") (by decide +kernel)) (fun _ h9 => h9) rfl dX8_tellCondition_1 ?_
  refine lv_if_lt (tgt := 35) hx hb dX8_tellCondition_4 (by decide) (fun c_1 => ?_) (fun c_1 => ?_)
  · rw [if_pos c_1] at hT
    refine lv_aload_n hx hb dX8_tellCondition_35 rfl (lv_at hl 0 rfl) ?_
    refine va_get (D := D) (ci := 10) (v := .int y_cc) (C := RX8) (T := TX8) (N := 11) hx hb hts iv_k_X8_tellCondition_X8 hown hK hP 0 rfl rfl 10 (by decide) (hts (.fieldLink RX8 34 "AnswerFold$Rule" "conditionCount" "I") (by decide +kernel)) (fun _ h9 => h9) rfl dX8_tellCondition_36 ?_
    exact END_0 y_cc y_cc hT _ _ hP hD hS _ _ dX8_tellCondition_39
  · rw [if_neg c_1] at hT
    refine lv_aload_n hx hb dX8_tellCondition_7 rfl (lv_at hl 0 rfl) ?_
    refine va_get (D := D) (ci := 10) (v := .int y_cc) (C := RX8) (T := TX8) (N := 11) hx hb hts iv_k_X8_tellCondition_X8 hown hK hP 0 rfl rfl 10 (by decide) (hts (.fieldLink RX8 34 "AnswerFold$Rule" "conditionCount" "I") (by decide +kernel)) (fun _ h9 => h9) rfl dX8_tellCondition_8 ?_
    refine lv_iconst (v := 5) hx hb dX8_tellCondition_11 (by decide) ?_
    refine lv_icmp_ge (tgt := 35) hx hb dX8_tellCondition_12 (by decide) (fun c_2 => ?_) (fun c_2 => ?_)
    · rw [if_pos c_2] at hT
      refine lv_aload_n hx hb dX8_tellCondition_35 rfl (lv_at hl 0 rfl) ?_
      refine va_get (D := D) (ci := 10) (v := .int y_cc) (C := RX8) (T := TX8) (N := 11) hx hb hts iv_k_X8_tellCondition_X8 hown hK hP 0 rfl rfl 10 (by decide) (hts (.fieldLink RX8 34 "AnswerFold$Rule" "conditionCount" "I") (by decide +kernel)) (fun _ h9 => h9) rfl dX8_tellCondition_36 ?_
      exact END_0 y_cc y_cc hT _ _ hP hD hS _ _ dX8_tellCondition_39
    · rw [if_neg c_2] at hT
      refine lv_aload_n hx hb dX8_tellCondition_15 rfl (lv_at hl 0 rfl) ?_
      refine va_get (D := D) (ci := 10) (v := .ref y2) (C := RX8) (T := TX8) (N := 11) hx hb hts iv_k_X8_tellCondition_X8 hown hK hP 0 rfl rfl 9 (by decide) (hts (.fieldLink RX8 21 "AnswerFold$Rule" "conditions" "[LAnswerFold$Literal;") (by decide +kernel)) (fun _ h9 => h9) rfl dX8_tellCondition_16 ?_
      refine lv_aload_n hx hb dX8_tellCondition_19 rfl (lv_at hl 0 rfl) ?_
      refine va_get (D := D) (ci := 10) (v := .int y_cc) (C := RX8) (T := TX8) (N := 11) hx hb hts iv_k_X8_tellCondition_X8 hown hK hP 0 rfl rfl 10 (by decide) (hts (.fieldLink RX8 34 "AnswerFold$Rule" "conditionCount" "I") (by decide +kernel)) (fun _ h9 => h9) rfl dX8_tellCondition_20 ?_
      refine lv_aload_n hx hb dX8_tellCondition_23 rfl (lv_at hl 1 rfl) ?_
      refine va_astq (D := D) hx hb hK hP hD hS 1 5 2 6 rfl rfl rfl rfl (wi_in (wi_lo c_1) (wi_hi c_2 (by decide))) dX8_tellCondition_24 (fun H locs hP hD hS => ?_)
      have hP : va_P D vwCl (wW_k_X8_tellCondition ty y0 y1 y2 z0 y_k y_p y_lo y_up y_sp y_we y_le y_hc y_cc (va_up yc y_cc.toNatClampNeg (some z0)) z1 z2 z3 z4 z5 z6 z7 z8) H := hP
      have hD : va_D A (wW_k_X8_tellCondition ty y0 y1 y2 z0 y_k y_p y_lo y_up y_sp y_we y_le y_hc y_cc (va_up yc y_cc.toNatClampNeg (some z0)) z1 z2 z3 z4 z5 z6 z7 z8) := hD
      refine lv_aload_n hx hb dX8_tellCondition_25 rfl (lv_at hl 0 rfl) ?_
      refine lv_dup hx hb dX8_tellCondition_26 rfl ?_
      refine va_get (D := D) (ci := 10) (v := .int y_cc) (C := RX8) (T := TX8) (N := 11) hx hb hts iv_k_X8_tellCondition_X8 hown hK hP 0 rfl rfl 10 (by decide) (hts (.fieldLink RX8 34 "AnswerFold$Rule" "conditionCount" "I") (by decide +kernel)) (fun _ h9 => h9) rfl dX8_tellCondition_27 ?_
      refine lv_iconst (v := 1) hx hb dX8_tellCondition_30 (by decide) ?_
      refine lv_iadd hx hb dX8_tellCondition_31 ?_
      refine va_put (D := D) (ci := 10) (v := .int (y_cc + 1)) (ty := tyX8 10) (C := RX8) (T := TX8) (N := 11) hx hb hts iv_k_X8_tellCondition_X8 tyX8 tyX8_ok nmX8 hown hK hP hD hS 0 rfl rfl 10 (by decide) (hts (.fieldLink RX8 34 "AnswerFold$Rule" "conditionCount" "I") (by decide +kernel)) (fun _ h9 => h9) rfl (by decide +kernel) rfl rfl (Nat.le_of_ble_eq_true rfl) dX8_tellCondition_32 (fun H locs hP hD hS => ?_)
      have hP : va_P D vwCl (wW_k_X8_tellCondition ty y0 y1 y2 z0 y_k y_p y_lo y_up y_sp y_we y_le y_hc (y_cc + 1) (va_up yc y_cc.toNatClampNeg (some z0)) z1 z2 z3 z4 z5 z6 z7 z8) H := hP
      have hD : va_D A (wW_k_X8_tellCondition ty y0 y1 y2 z0 y_k y_p y_lo y_up y_sp y_we y_le y_hc (y_cc + 1) (va_up yc y_cc.toNatClampNeg (some z0)) z1 z2 z3 z4 z5 z6 z7 z8) := hD
      refine lv_aload_n hx hb dX8_tellCondition_35 rfl (lv_at hl 0 rfl) ?_
      refine va_get (D := D) (ci := 10) (v := .int (y_cc + 1)) (C := RX8) (T := TX8) (N := 11) hx hb hts iv_k_X8_tellCondition_X8 hown hK hP 0 rfl rfl 10 (by decide) (hts (.fieldLink RX8 34 "AnswerFold$Rule" "conditionCount" "I") (by decide +kernel)) (fun _ h9 => h9) rfl dX8_tellCondition_36 ?_
      exact END_1 (y_cc + 1) (y_cc + 1) hT _ _ hP hD hS _ _ dX8_tellCondition_39
theorem dX6_tellRule_0 : decode cX6_tellRule 0 = .ok (.aload_n 0, 1) := by decide +kernel
theorem dX6_tellRule_1 : decode cX6_tellRule 1 = .ok (.getfield 45, 3) := by decide +kernel
theorem dX6_tellRule_4 : decode cX6_tellRule 4 = .ok (.ifCond .lt 12, 3) := by decide +kernel
theorem dX6_tellRule_7 : decode cX6_tellRule 7 = .ok (.aload_n 0, 1) := by decide +kernel
theorem dX6_tellRule_8 : decode cX6_tellRule 8 = .ok (.getfield 45, 3) := by decide +kernel
theorem dX6_tellRule_11 : decode cX6_tellRule 11 = .ok (.bipush 20, 2) := by decide +kernel
theorem dX6_tellRule_13 : decode cX6_tellRule 13 = .ok (.if_icmp .lt 5, 3) := by decide +kernel
theorem dX6_tellRule_16 : decode cX6_tellRule 16 = .ok (.iconst (-1), 1) := by decide +kernel
theorem dX6_tellRule_17 : decode cX6_tellRule 17 = .ok (.ireturn, 1) := by decide +kernel
theorem dX6_tellRule_18 : decode cX6_tellRule 18 = .ok (.aload_n 0, 1) := by decide +kernel
theorem dX6_tellRule_19 : decode cX6_tellRule 19 = .ok (.getfield 17, 3) := by decide +kernel
theorem dX6_tellRule_22 : decode cX6_tellRule 22 = .ok (.aload_n 0, 1) := by decide +kernel
theorem dX6_tellRule_23 : decode cX6_tellRule 23 = .ok (.getfield 45, 3) := by decide +kernel
theorem dX6_tellRule_26 : decode cX6_tellRule 26 = .ok (.aload_n 1, 1) := by decide +kernel
theorem dX6_tellRule_27 : decode cX6_tellRule 27 = .ok (.aastore, 1) := by decide +kernel
theorem dX6_tellRule_28 : decode cX6_tellRule 28 = .ok (.aload_n 0, 1) := by decide +kernel
theorem dX6_tellRule_29 : decode cX6_tellRule 29 = .ok (.dup, 1) := by decide +kernel
theorem dX6_tellRule_30 : decode cX6_tellRule 30 = .ok (.getfield 45, 3) := by decide +kernel
theorem dX6_tellRule_33 : decode cX6_tellRule 33 = .ok (.dup_x1, 1) := by decide +kernel
theorem dX6_tellRule_34 : decode cX6_tellRule 34 = .ok (.iconst 1, 1) := by decide +kernel
theorem dX6_tellRule_35 : decode cX6_tellRule 35 = .ok (.iadd, 1) := by decide +kernel
theorem dX6_tellRule_36 : decode cX6_tellRule 36 = .ok (.putfield 45, 3) := by decide +kernel
theorem dX6_tellRule_39 : decode cX6_tellRule 39 = .ok (.ireturn, 1) := by decide +kernel
def wW_k_X6_tellRule (ty : Nat → ClassId) (X : Nat → Nat) (y0 : Nat) (y1 : Nat) (y2 : Nat) (z9_0 : Int32) (z9_1 : Int32) (z9_2 : Int32) (z9_3 : Int32) (z9_4 : Nat → Option Nat) (z9_5 : Int32) (z9_6 : Int32) (z9_7 : Int32) (z9_8 : Int32) (z9_9 : Int32) (z9_10 : Int32) (z9_11 : Int32) (z9_12 : Int32) (z9_13 : Int32) : va_W := [((X 1), .inr (8, [.ref (X 2), .int z9_0, .ref (X 3), .int z9_1, .ref (X 4), .ref (X 5), .int z9_2, .ref (X 6), .ref (X 7), .int z9_3])), ((X 3), .inl (ty 4, 20, .inr (.inr (.inr (.inr z9_4))))), (y0, .inr (10, [.int z9_5, .int z9_6, .int z9_7, .int z9_8, .int z9_9, .int z9_10, .int z9_11, .ref y1, .int z9_12, .ref y2, .int z9_13]))]
def vs_k_X6_tellRule : List Cond := .code yX6_tellRule cX6_tellRule 2 (some .int) :: ([.fieldLink RX6 45 "AnswerFold$Program" "ruleCount" "I", .fieldLink RX6 17 "AnswerFold$Program" "rules" "[LAnswerFold$Rule;"] ++ (u_ws RX6 TX6 10))
theorem iv_k_X6_tellRule_X6 : ∀ w ∈ u_ws RX6 TX6 10, w ∈ vs_k_X6_tellRule := (fun _ h => List.mem_cons_of_mem _ (List.mem_append_right _ (h)))
set_option maxHeartbeats 4000000 in
set_option maxRecDepth 100000 in
theorem k_X6_tellRule (l : Launch) (D : va_G) (ty : Nat → ClassId) (td mi sz : Nat) (X : Nat → Nat) (pn : Int32) (rn : Int32) (tn : Int32) (en : Int32) (rf : Nat → Option Nat) (y0 : Nat) (y_k : Int32) (y_p : Int32) (y_lo : Int32) (y_up : Int32) (y_sp : Int32) (y_we : Int32) (y_le : Int32) (y1 : Nat) (y_hc : Int32) (y2 : Nat) (y_cc : Int32) (TT : r_k_X6_tellRule) (hTT : TT = m_k_X6_tellRule rn) : Met l yX6_tellRule vs_k_X6_tellRule { frames := 0, cells := 0, slots := 0, locals := 0 } (va_Pc [.ref (X 1), .ref y0] (wq_P D ty td mi (wW_k_X6_tellRule ty X y0 y1 y2 pn rn tn en rf y_k y_p y_lo y_up y_sp y_we y_le y_hc y_cc) sz)) (va_Qi (fun (r : Int32) (u : va_W) => (TT.1 = 0 ∧ r = TT.2.1 ∧ (u = (wW_k_X6_tellRule ty X y0 y1 y2 pn TT.2.2 tn en rf y_k y_p y_lo y_up y_sp y_we y_le y_hc y_cc))) ∨ (TT.1 = 1 ∧ r = TT.2.1 ∧ (u = (wW_k_X6_tellRule ty X y0 y1 y2 pn TT.2.2 tn en (va_up rf rn.toNatClampNeg (some y0)) y_k y_p y_lo y_up y_sp y_we y_le y_hc y_cc)))) (wq_B D (va_A (wW_k_X6_tellRule ty X y0 y1 y2 pn rn tn en rf y_k y_p y_lo y_up y_sp y_we y_le y_hc y_cc) sz)) (va_A (wW_k_X6_tellRule ty X y0 y1 y2 pn rn tn en rf y_k y_p y_lo y_up y_sp y_we y_le y_hc y_cc) sz)) 0 0 (va_A (wW_k_X6_tellRule ty X y0 y1 y2 pn rn tn en rf y_k y_p y_lo y_up y_sp y_we y_le y_hc y_cc) sz) := by
  refine Met.ofW (cc := cX6_tellRule) (maxL := 2) (ret := (some .int)) (by decide) rfl ?_
  intro p e s m args below meth c s₁ B hml hv
  obtain ⟨rfl, hsz, hP, hK, hD0, hE⟩ := hv
  have hx := B.exec
  have hb := B.bytes
  have hr := B.returns
  have hts := atoms_spec (ws := vs_k_X6_tellRule) B.pre
  have hown : s.vm.findClass RX6 = some m.cls := findClass_of_methodNamed B.named
  have hlocks := B.notSynchronized
  subst hsz
  have hD := hD0.self (sz := s.heap.size)
  generalize hAe : va_A (wW_k_X6_tellRule ty X y0 y1 y2 pn rn tn en rf y_k y_p y_lo y_up y_sp y_we y_le y_hc y_cc) s.heap.size = A at hD hE ⊢
  have hA : ∀ q : Nat, s.heap.size ≤ q → A q := fun q h => by rw [← hAe]; exact Or.inr h
  have hS : va_S A s.heap s.heap [] := va_S.rf
  have hP : va_P D vwCl (wW_k_X6_tellRule ty X y0 y1 y2 pn rn tn en rf y_k y_p y_lo y_up y_sp y_we y_le y_hc y_cc) s.heap := hP
  have hl := lv_entry ([.ref (X 1), .ref y0]) (n := 2) (Nat.le_of_ble_eq_true rfl)
  rw [lg_entry_eq]
  generalize (lg_sl ([.ref (X 1), .ref y0]) ++ List.replicate (2 - (lg_sl ([.ref (X 1), .ref y0])).length) Slot.unset).toArray = ls at hl ⊢
  have hl : lv_has ls 2 [(0, .ref (X 1)), (1, .ref y0)] := hl
  have END_0 : ∀ (r : Int32) (w9_0 : Int32), TT = (0, r, w9_0) → ∀ (H : Heap) (locs : List Loc), va_P D vwCl (wW_k_X6_tellRule ty X y0 y1 y2 pn w9_0 tn en rf y_k y_p y_lo y_up y_sp y_we y_le y_hc y_cc) H → va_D A (wW_k_X6_tellRule ty X y0 y1 y2 pn w9_0 tn en rf y_k y_p y_lo y_up y_sp y_we y_le y_hc y_cc) → va_S A s.heap H locs → ∀ (ls : Array Slot) (pc : Nat), decode cX6_tellRule pc = .ok (.ireturn, 1) → W p l e (headSpec vs_k_X6_tellRule { frames := 0, cells := 0, slots := 0, locals := 0 }).room s m ([.ref (X 1), .ref y0] : List Value).toArray below meth c H locs 0 0 (MQ below (va_Qi (fun (r : Int32) (u : va_W) => (TT.1 = 0 ∧ r = TT.2.1 ∧ (u = (wW_k_X6_tellRule ty X y0 y1 y2 pn TT.2.2 tn en rf y_k y_p y_lo y_up y_sp y_we y_le y_hc y_cc))) ∨ (TT.1 = 1 ∧ r = TT.2.1 ∧ (u = (wW_k_X6_tellRule ty X y0 y1 y2 pn TT.2.2 tn en (va_up rf rn.toNatClampNeg (some y0)) y_k y_p y_lo y_up y_sp y_we y_le y_hc y_cc)))) (wq_B D A) A) ([.ref (X 1), .ref y0] : List Value).toArray s 0 0 A) (F0 m pc ls [.int r]) := by
    intro r w9_0 hT H locs hP hD hS ls pc hd
    have hM : TT = (0, r, w9_0) := hT
    exact W.iret (v := r) hx hb hr (fun t ht hW => ⟨⟨r, (wW_k_X6_tellRule ty X y0 y1 y2 pn w9_0 tn en rf y_k y_p y_lo y_up y_sp y_we y_le y_hc y_cc), rfl, (Or.inl ⟨(by rw [hM]), (by rw [hM]), (by rw [hM])⟩), wq_B.of ht hP hD⟩, hS.F ht⟩) hS.2.2 hd
  have END_1 : ∀ (r : Int32) (w9_0 : Int32), TT = (1, r, w9_0) → ∀ (H : Heap) (locs : List Loc), va_P D vwCl (wW_k_X6_tellRule ty X y0 y1 y2 pn w9_0 tn en (va_up rf rn.toNatClampNeg (some y0)) y_k y_p y_lo y_up y_sp y_we y_le y_hc y_cc) H → va_D A (wW_k_X6_tellRule ty X y0 y1 y2 pn w9_0 tn en (va_up rf rn.toNatClampNeg (some y0)) y_k y_p y_lo y_up y_sp y_we y_le y_hc y_cc) → va_S A s.heap H locs → ∀ (ls : Array Slot) (pc : Nat), decode cX6_tellRule pc = .ok (.ireturn, 1) → W p l e (headSpec vs_k_X6_tellRule { frames := 0, cells := 0, slots := 0, locals := 0 }).room s m ([.ref (X 1), .ref y0] : List Value).toArray below meth c H locs 0 0 (MQ below (va_Qi (fun (r : Int32) (u : va_W) => (TT.1 = 0 ∧ r = TT.2.1 ∧ (u = (wW_k_X6_tellRule ty X y0 y1 y2 pn TT.2.2 tn en rf y_k y_p y_lo y_up y_sp y_we y_le y_hc y_cc))) ∨ (TT.1 = 1 ∧ r = TT.2.1 ∧ (u = (wW_k_X6_tellRule ty X y0 y1 y2 pn TT.2.2 tn en (va_up rf rn.toNatClampNeg (some y0)) y_k y_p y_lo y_up y_sp y_we y_le y_hc y_cc)))) (wq_B D A) A) ([.ref (X 1), .ref y0] : List Value).toArray s 0 0 A) (F0 m pc ls [.int r]) := by
    intro r w9_0 hT H locs hP hD hS ls pc hd
    have hM : TT = (1, r, w9_0) := hT
    exact W.iret (v := r) hx hb hr (fun t ht hW => ⟨⟨r, (wW_k_X6_tellRule ty X y0 y1 y2 pn w9_0 tn en (va_up rf rn.toNatClampNeg (some y0)) y_k y_p y_lo y_up y_sp y_we y_le y_hc y_cc), rfl, (Or.inr ⟨(by rw [hM]), (by rw [hM]), (by rw [hM])⟩), wq_B.of ht hP hD⟩, hS.F ht⟩) hS.2.2 hd
  have hT := hTT
  rw [m_k_X6_tellRule] at hT
  refine lv_aload_n hx hb dX6_tellRule_0 rfl (lv_at hl 0 rfl) ?_
  refine va_get (D := D) (ci := 8) (v := .int rn) (C := RX6) (T := TX6) (N := 10) hx hb hts iv_k_X6_tellRule_X6 hown hK hP 0 rfl rfl 3 (by decide) (hts (.fieldLink RX6 45 "AnswerFold$Program" "ruleCount" "I") (by decide +kernel)) (fun _ h9 => h9) rfl dX6_tellRule_1 ?_
  refine lv_if_lt (tgt := 16) hx hb dX6_tellRule_4 (by decide) (fun c_1 => ?_) (fun c_1 => ?_)
  · rw [if_pos c_1] at hT
    refine lv_iconst (v := (-1)) hx hb dX6_tellRule_16 (by decide) ?_
    exact END_0 (-1) rn hT _ _ hP hD hS _ _ dX6_tellRule_17
  · rw [if_neg c_1] at hT
    refine lv_aload_n hx hb dX6_tellRule_7 rfl (lv_at hl 0 rfl) ?_
    refine va_get (D := D) (ci := 8) (v := .int rn) (C := RX6) (T := TX6) (N := 10) hx hb hts iv_k_X6_tellRule_X6 hown hK hP 0 rfl rfl 3 (by decide) (hts (.fieldLink RX6 45 "AnswerFold$Program" "ruleCount" "I") (by decide +kernel)) (fun _ h9 => h9) rfl dX6_tellRule_8 ?_
    refine lv_bipush (v := 20) hx hb dX6_tellRule_11 (by decide) ?_
    refine lv_icmp_lt (tgt := 18) hx hb dX6_tellRule_13 (by decide) (fun c_2 => ?_) (fun c_2 => ?_)
    · rw [if_pos c_2] at hT
      refine lv_aload_n hx hb dX6_tellRule_18 rfl (lv_at hl 0 rfl) ?_
      refine va_get (D := D) (ci := 8) (v := .ref (X 3)) (C := RX6) (T := TX6) (N := 10) hx hb hts iv_k_X6_tellRule_X6 hown hK hP 0 rfl rfl 2 (by decide) (hts (.fieldLink RX6 17 "AnswerFold$Program" "rules" "[LAnswerFold$Rule;") (by decide +kernel)) (fun _ h9 => h9) rfl dX6_tellRule_19 ?_
      refine lv_aload_n hx hb dX6_tellRule_22 rfl (lv_at hl 0 rfl) ?_
      refine va_get (D := D) (ci := 8) (v := .int rn) (C := RX6) (T := TX6) (N := 10) hx hb hts iv_k_X6_tellRule_X6 hown hK hP 0 rfl rfl 3 (by decide) (hts (.fieldLink RX6 45 "AnswerFold$Program" "ruleCount" "I") (by decide +kernel)) (fun _ h9 => h9) rfl dX6_tellRule_23 ?_
      refine lv_aload_n hx hb dX6_tellRule_26 rfl (lv_at hl 1 rfl) ?_
      refine va_astq (D := D) hx hb hK hP hD hS 1 4 2 10 rfl rfl rfl rfl (wi_in (wi_lo c_1) (wi_hi (Int32.not_le.mpr c_2) (by decide))) dX6_tellRule_27 (fun H locs hP hD hS => ?_)
      have hP : va_P D vwCl (wW_k_X6_tellRule ty X y0 y1 y2 pn rn tn en (va_up rf rn.toNatClampNeg (some y0)) y_k y_p y_lo y_up y_sp y_we y_le y_hc y_cc) H := hP
      have hD : va_D A (wW_k_X6_tellRule ty X y0 y1 y2 pn rn tn en (va_up rf rn.toNatClampNeg (some y0)) y_k y_p y_lo y_up y_sp y_we y_le y_hc y_cc) := hD
      refine lv_aload_n hx hb dX6_tellRule_28 rfl (lv_at hl 0 rfl) ?_
      refine lv_dup hx hb dX6_tellRule_29 rfl ?_
      refine va_get (D := D) (ci := 8) (v := .int rn) (C := RX6) (T := TX6) (N := 10) hx hb hts iv_k_X6_tellRule_X6 hown hK hP 0 rfl rfl 3 (by decide) (hts (.fieldLink RX6 45 "AnswerFold$Program" "ruleCount" "I") (by decide +kernel)) (fun _ h9 => h9) rfl dX6_tellRule_30 ?_
      refine lv_dup_x1 hx hb dX6_tellRule_33 rfl rfl ?_
      refine lv_iconst (v := 1) hx hb dX6_tellRule_34 (by decide) ?_
      refine lv_iadd hx hb dX6_tellRule_35 ?_
      refine va_put (D := D) (ci := 8) (v := .int (rn + 1)) (ty := tyX6 3) (C := RX6) (T := TX6) (N := 10) hx hb hts iv_k_X6_tellRule_X6 tyX6 tyX6_ok nmX6 hown hK hP hD hS 0 rfl rfl 3 (by decide) (hts (.fieldLink RX6 45 "AnswerFold$Program" "ruleCount" "I") (by decide +kernel)) (fun _ h9 => h9) rfl (by decide +kernel) rfl rfl (Nat.le_of_ble_eq_true rfl) dX6_tellRule_36 (fun H locs hP hD hS => ?_)
      have hP : va_P D vwCl (wW_k_X6_tellRule ty X y0 y1 y2 pn (rn + 1) tn en (va_up rf rn.toNatClampNeg (some y0)) y_k y_p y_lo y_up y_sp y_we y_le y_hc y_cc) H := hP
      have hD : va_D A (wW_k_X6_tellRule ty X y0 y1 y2 pn (rn + 1) tn en (va_up rf rn.toNatClampNeg (some y0)) y_k y_p y_lo y_up y_sp y_we y_le y_hc y_cc) := hD
      exact END_1 rn (rn + 1) hT _ _ hP hD hS _ _ dX6_tellRule_39
    · rw [if_neg c_2] at hT
      refine lv_iconst (v := (-1)) hx hb dX6_tellRule_16 (by decide) ?_
      exact END_0 (-1) rn hT _ _ hP hD hS _ _ dX6_tellRule_17
theorem dX10_addDisjunction_0 : decode cX10_addDisjunction 0 = .ok (.aload_n 0, 1) := by decide +kernel
theorem dX10_addDisjunction_1 : decode cX10_addDisjunction 1 = .ok (.iload_n 1, 1) := by decide +kernel
theorem dX10_addDisjunction_2 : decode cX10_addDisjunction 2 = .ok (.invokevirtual 83, 3) := by decide +kernel
theorem dX10_addDisjunction_5 : decode cX10_addDisjunction 5 = .ok (.aload_n 0, 1) := by decide +kernel
theorem dX10_addDisjunction_6 : decode cX10_addDisjunction 6 = .ok (.invokevirtual 87, 3) := by decide +kernel
theorem dX10_addDisjunction_9 : decode cX10_addDisjunction 9 = .ok (.aload_n 0, 1) := by decide +kernel
theorem dX10_addDisjunction_10 : decode cX10_addDisjunction 10 = .ok (.invokevirtual 76, 3) := by decide +kernel
theorem dX10_addDisjunction_13 : decode cX10_addDisjunction 13 = .ok (.aload_n 0, 1) := by decide +kernel
theorem dX10_addDisjunction_14 : decode cX10_addDisjunction 14 = .ok (.getfield 12, 3) := by decide +kernel
theorem dX10_addDisjunction_17 : decode cX10_addDisjunction 17 = .ok (.new 90, 3) := by decide +kernel
theorem dX10_addDisjunction_20 : decode cX10_addDisjunction 20 = .ok (.dup, 1) := by decide +kernel
theorem dX10_addDisjunction_21 : decode cX10_addDisjunction 21 = .ok (.bipush 100, 2) := by decide +kernel
theorem dX10_addDisjunction_23 : decode cX10_addDisjunction 23 = .ok (.iload_n 1, 1) := by decide +kernel
theorem dX10_addDisjunction_24 : decode cX10_addDisjunction 24 = .ok (.invokespecial 92, 3) := by decide +kernel
theorem dX10_addDisjunction_27 : decode cX10_addDisjunction 27 = .ok (.invokevirtual 95, 3) := by decide +kernel
theorem dX10_addDisjunction_30 : decode cX10_addDisjunction 30 = .ok (.ireturn, 1) := by decide +kernel
