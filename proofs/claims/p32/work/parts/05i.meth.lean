theorem dX9_hasSmaller_0 : decode cX9_hasSmaller 0 = .ok (.aload_n 0, 1) := by decide +kernel
theorem dX9_hasSmaller_1 : decode cX9_hasSmaller 1 = .ok (.iload_n 1, 1) := by decide +kernel
theorem dX9_hasSmaller_2 : decode cX9_hasSmaller 2 = .ok (.invokevirtual 266, 3) := by decide +kernel
theorem dX9_hasSmaller_5 : decode cX9_hasSmaller 5 = .ok (.aload_n 0, 1) := by decide +kernel
theorem dX9_hasSmaller_6 : decode cX9_hasSmaller 6 = .ok (.getfield 31, 3) := by decide +kernel
theorem dX9_hasSmaller_9 : decode cX9_hasSmaller 9 = .ok (.iconst 0, 1) := by decide +kernel
theorem dX9_hasSmaller_10 : decode cX9_hasSmaller 10 = .ok (.iload_n 1, 1) := by decide +kernel
theorem dX9_hasSmaller_11 : decode cX9_hasSmaller 11 = .ok (.aload_n 0, 1) := by decide +kernel
theorem dX9_hasSmaller_12 : decode cX9_hasSmaller 12 = .ok (.getfield 75, 3) := by decide +kernel
theorem dX9_hasSmaller_15 : decode cX9_hasSmaller 15 = .ok (.iand, 1) := by decide +kernel
theorem dX9_hasSmaller_16 : decode cX9_hasSmaller 16 = .ok (.iastore, 1) := by decide +kernel
theorem dX9_hasSmaller_17 : decode cX9_hasSmaller 17 = .ok (.iconst 1, 1) := by decide +kernel
theorem dX9_hasSmaller_18 : decode cX9_hasSmaller 18 = .ok (.istore_n 2, 1) := by decide +kernel
theorem dX9_hasSmaller_19 : decode cX9_hasSmaller 19 = .ok (.iconst 0, 1) := by decide +kernel
theorem dX9_hasSmaller_20 : decode cX9_hasSmaller 20 = .ok (.istore_n 3, 1) := by decide +kernel
theorem dX9_hasSmaller_21 : decode cX9_hasSmaller 21 = .ok (.iload_n 2, 1) := by decide +kernel
theorem dX9_hasSmaller_22 : decode cX9_hasSmaller 22 = .ok (.ifCond .le 114, 3) := by decide +kernel
theorem dX9_hasSmaller_25 : decode cX9_hasSmaller 25 = .ok (.iload_n 2, 1) := by decide +kernel
theorem dX9_hasSmaller_26 : decode cX9_hasSmaller 26 = .ok (.aload_n 0, 1) := by decide +kernel
theorem dX9_hasSmaller_27 : decode cX9_hasSmaller 27 = .ok (.getfield 31, 3) := by decide +kernel
theorem dX9_hasSmaller_30 : decode cX9_hasSmaller 30 = .ok (.arraylength, 1) := by decide +kernel
theorem dX9_hasSmaller_31 : decode cX9_hasSmaller 31 = .ok (.if_icmp .ge 105, 3) := by decide +kernel
theorem dX9_hasSmaller_34 : decode cX9_hasSmaller 34 = .ok (.iload_n 3, 1) := by decide +kernel
theorem dX9_hasSmaller_35 : decode cX9_hasSmaller 35 = .ok (.ldc_w 269, 3) := by decide +kernel
theorem dX9_hasSmaller_38 : decode cX9_hasSmaller 38 = .ok (.if_icmp .ge 98, 3) := by decide +kernel
theorem dX9_hasSmaller_41 : decode cX9_hasSmaller 41 = .ok (.iinc 2 (-1), 3) := by decide +kernel
theorem dX9_hasSmaller_44 : decode cX9_hasSmaller 44 = .ok (.aload_n 0, 1) := by decide +kernel
theorem dX9_hasSmaller_45 : decode cX9_hasSmaller 45 = .ok (.aload_n 0, 1) := by decide +kernel
theorem dX9_hasSmaller_46 : decode cX9_hasSmaller 46 = .ok (.getfield 31, 3) := by decide +kernel
theorem dX9_hasSmaller_49 : decode cX9_hasSmaller 49 = .ok (.iload_n 2, 1) := by decide +kernel
theorem dX9_hasSmaller_50 : decode cX9_hasSmaller 50 = .ok (.iaload, 1) := by decide +kernel
theorem dX9_hasSmaller_51 : decode cX9_hasSmaller 51 = .ok (.iload_n 1, 1) := by decide +kernel
theorem dX9_hasSmaller_52 : decode cX9_hasSmaller 52 = .ok (.invokevirtual 270, 3) := by decide +kernel
theorem dX9_hasSmaller_55 : decode cX9_hasSmaller 55 = .ok (.istore 4, 2) := by decide +kernel
theorem dX9_hasSmaller_57 : decode cX9_hasSmaller 57 = .ok (.aload_n 0, 1) := by decide +kernel
theorem dX9_hasSmaller_58 : decode cX9_hasSmaller 58 = .ok (.iload 4, 2) := by decide +kernel
theorem dX9_hasSmaller_60 : decode cX9_hasSmaller 60 = .ok (.iload_n 1, 1) := by decide +kernel
theorem dX9_hasSmaller_61 : decode cX9_hasSmaller 61 = .ok (.invokevirtual 273, 3) := by decide +kernel
theorem dX9_hasSmaller_64 : decode cX9_hasSmaller 64 = .ok (.istore 5, 2) := by decide +kernel
theorem dX9_hasSmaller_66 : decode cX9_hasSmaller 66 = .ok (.iload 5, 2) := by decide +kernel
theorem dX9_hasSmaller_68 : decode cX9_hasSmaller 68 = .ok (.ifCond .ne 11, 3) := by decide +kernel
theorem dX9_hasSmaller_71 : decode cX9_hasSmaller 71 = .ok (.iload 4, 2) := by decide +kernel
theorem dX9_hasSmaller_73 : decode cX9_hasSmaller 73 = .ok (.iload_n 1, 1) := by decide +kernel
theorem dX9_hasSmaller_74 : decode cX9_hasSmaller 74 = .ok (.if_icmp .eq 56, 3) := by decide +kernel
theorem dX9_hasSmaller_77 : decode cX9_hasSmaller 77 = .ok (.iconst 1, 1) := by decide +kernel
theorem dX9_hasSmaller_78 : decode cX9_hasSmaller 78 = .ok (.ireturn, 1) := by decide +kernel
theorem dX9_hasSmaller_79 : decode cX9_hasSmaller 79 = .ok (.iload_n 2, 1) := by decide +kernel
theorem dX9_hasSmaller_80 : decode cX9_hasSmaller 80 = .ok (.iconst 1, 1) := by decide +kernel
theorem dX9_hasSmaller_81 : decode cX9_hasSmaller 81 = .ok (.iadd, 1) := by decide +kernel
theorem dX9_hasSmaller_82 : decode cX9_hasSmaller 82 = .ok (.aload_n 0, 1) := by decide +kernel
theorem dX9_hasSmaller_83 : decode cX9_hasSmaller 83 = .ok (.getfield 31, 3) := by decide +kernel
theorem dX9_hasSmaller_86 : decode cX9_hasSmaller 86 = .ok (.arraylength, 1) := by decide +kernel
theorem dX9_hasSmaller_87 : decode cX9_hasSmaller 87 = .ok (.if_icmp .ge 43, 3) := by decide +kernel
theorem dX9_hasSmaller_90 : decode cX9_hasSmaller 90 = .ok (.iload 5, 2) := by decide +kernel
theorem dX9_hasSmaller_92 : decode cX9_hasSmaller 92 = .ok (.iload 5, 2) := by decide +kernel
theorem dX9_hasSmaller_94 : decode cX9_hasSmaller 94 = .ok (.ineg, 1) := by decide +kernel
theorem dX9_hasSmaller_95 : decode cX9_hasSmaller 95 = .ok (.iand, 1) := by decide +kernel
theorem dX9_hasSmaller_96 : decode cX9_hasSmaller 96 = .ok (.istore 6, 2) := by decide +kernel
theorem dX9_hasSmaller_98 : decode cX9_hasSmaller 98 = .ok (.aload_n 0, 1) := by decide +kernel
theorem dX9_hasSmaller_99 : decode cX9_hasSmaller 99 = .ok (.getfield 31, 3) := by decide +kernel
theorem dX9_hasSmaller_102 : decode cX9_hasSmaller 102 = .ok (.iload_n 2, 1) := by decide +kernel
theorem dX9_hasSmaller_103 : decode cX9_hasSmaller 103 = .ok (.iload 4, 2) := by decide +kernel
theorem dX9_hasSmaller_105 : decode cX9_hasSmaller 105 = .ok (.iload 6, 2) := by decide +kernel
theorem dX9_hasSmaller_107 : decode cX9_hasSmaller 107 = .ok (.ior, 1) := by decide +kernel
theorem dX9_hasSmaller_108 : decode cX9_hasSmaller 108 = .ok (.iastore, 1) := by decide +kernel
theorem dX9_hasSmaller_109 : decode cX9_hasSmaller 109 = .ok (.aload_n 0, 1) := by decide +kernel
theorem dX9_hasSmaller_110 : decode cX9_hasSmaller 110 = .ok (.getfield 31, 3) := by decide +kernel
theorem dX9_hasSmaller_113 : decode cX9_hasSmaller 113 = .ok (.iload_n 2, 1) := by decide +kernel
theorem dX9_hasSmaller_114 : decode cX9_hasSmaller 114 = .ok (.iconst 1, 1) := by decide +kernel
theorem dX9_hasSmaller_115 : decode cX9_hasSmaller 115 = .ok (.iadd, 1) := by decide +kernel
theorem dX9_hasSmaller_116 : decode cX9_hasSmaller 116 = .ok (.iload 4, 2) := by decide +kernel
theorem dX9_hasSmaller_118 : decode cX9_hasSmaller 118 = .ok (.iload 5, 2) := by decide +kernel
theorem dX9_hasSmaller_120 : decode cX9_hasSmaller 120 = .ok (.iload 6, 2) := by decide +kernel
theorem dX9_hasSmaller_122 : decode cX9_hasSmaller 122 = .ok (.iconst (-1), 1) := by decide +kernel
theorem dX9_hasSmaller_123 : decode cX9_hasSmaller 123 = .ok (.ixor, 1) := by decide +kernel
theorem dX9_hasSmaller_124 : decode cX9_hasSmaller 124 = .ok (.iand, 1) := by decide +kernel
theorem dX9_hasSmaller_125 : decode cX9_hasSmaller 125 = .ok (.ior, 1) := by decide +kernel
theorem dX9_hasSmaller_126 : decode cX9_hasSmaller 126 = .ok (.iastore, 1) := by decide +kernel
theorem dX9_hasSmaller_127 : decode cX9_hasSmaller 127 = .ok (.iinc 2 2, 3) := by decide +kernel
theorem dX9_hasSmaller_130 : decode cX9_hasSmaller 130 = .ok (.iinc 3 1, 3) := by decide +kernel
theorem dX9_hasSmaller_133 : decode cX9_hasSmaller 133 = .ok (.goto (-112), 3) := by decide +kernel
theorem dX9_hasSmaller_136 : decode cX9_hasSmaller 136 = .ok (.iconst 0, 1) := by decide +kernel
theorem dX9_hasSmaller_137 : decode cX9_hasSmaller 137 = .ok (.ireturn, 1) := by decide +kernel
def wW_k_X9_hasSmaller (ty : Nat → ClassId) (X : Nat → Nat) (z9_0 : Int32) (z9_1 : Int32) (z9_2 : Int32) (z9_3 : Int32) (z9_4 : Nat → Option Nat) (z9_5 : Int32) (z9_6 : Int32) (z9_7 : Int32) (z9_8 : Int32) (z9_9 : Int32) (z9_10 : Int32) (z9_11 : Int32) (z9_12 : Int32) (z9_13 : Int32) (z9_14 : Int32) (z9_15 : Nat → Int32) (z9_16 : Nat → Int32) (z9_17 : Nat → Int32) (z9_18 : Nat → Int32) (z9_19 : Nat → Int32) (z9_20 : Nat → Int32) (z9_21 : Nat → Int32) (z9_22 : Nat → Int32) : va_W := [((X 1), .inr (8, [.ref (X 2), .int z9_0, .ref (X 3), .int z9_1, .ref (X 4), .ref (X 5), .int z9_2, .ref (X 6), .ref (X 7), .int z9_3])), ((X 3), .inl (ty 4, 20, .inr (.inr (.inr (.inr z9_4))))), ((X 20), .inr (11, [.ref (X 1), .ref (X 8), .ref (X 21), .ref (X 28), .ref (X 35), .int z9_5, .ref (X 36), .ref (X 37), .ref (X 38), .int z9_6, .int z9_7, .int z9_8, .int z9_9, .int z9_10, .int z9_11, .int z9_12, .int z9_13])), ((X 21), .inr (9, [.ref (X 22), .ref (X 23), .ref (X 24), .ref (X 25), .ref (X 26), .ref (X 27), .int z9_14])), ((X 22), .inl (ty 0, 300, .inl z9_15)), ((X 23), .inl (ty 0, 300, .inl z9_16)), ((X 24), .inl (ty 0, 300, .inl z9_17)), ((X 25), .inl (ty 0, 300, .inl z9_18)), ((X 35), .inl (ty 0, 300, .inl z9_19)), ((X 36), .inl (ty 0, 6, .inl z9_20)), ((X 37), .inl (ty 0, 6, .inl z9_21)), ((X 38), .inl (ty 0, 26, .inl z9_22))]
def vs_k_X9_hasSmaller : List Cond := .code yX9_hasSmaller cX9_hasSmaller 7 (some .boolean) :: ([.methodLink RX9 266 yX9_listActive, .instanceMethod yX9_listActive, .selects RX9 yX9_listActive yX9_listActive, .initialized RX9, .fieldLink RX9 31 "AnswerFold$Solver" "branches" "[I", .fieldLink RX9 75 "AnswerFold$Solver" "freeBits" "I", .constant RX9 269 1000000, .methodLink RX9 270 yX9_grow, .instanceMethod yX9_grow, .selects RX9 yX9_grow yX9_grow, .methodLink RX9 273 yX9_headsToSplit, .instanceMethod yX9_headsToSplit, .selects RX9 yX9_headsToSplit yX9_headsToSplit] ++ (vs_k_X9_listActive ++ (u_ws RX9 TX9 17 ++ (vs_k_X9_grow ++ (vs_k_X9_headsToSplit)))))
theorem iv_k_X9_hasSmaller_X9 : ∀ w ∈ u_ws RX9 TX9 17, w ∈ vs_k_X9_hasSmaller := (fun _ h => List.mem_cons_of_mem _ (List.mem_append_right _ (List.mem_append_right _ (List.mem_append_left _ h))))
set_option maxRecDepth 20000 in
theorem gv_k_X9_hasSmaller_0 : GoodIn vs_k_X9_hasSmaller (wsV RX9 266 RX9 yX9_listActive vs_k_X9_listActive) := goodIn_app (goodIn_sub (by decide +kernel) (by decide +kernel)) (goodIn_sub (fun _ h => List.mem_cons_of_mem _ (List.mem_append_right _ (List.mem_append_left _ h))) (by decide +kernel))
set_option maxRecDepth 20000 in
theorem gv_k_X9_hasSmaller_1 : GoodIn vs_k_X9_hasSmaller (wsV RX9 270 RX9 yX9_grow vs_k_X9_grow) := goodIn_app (goodIn_sub (by decide +kernel) (by decide +kernel)) (goodIn_sub (fun _ h => List.mem_cons_of_mem _ (List.mem_append_right _ (List.mem_append_right _ (List.mem_append_right _ (List.mem_append_left _ h))))) (by decide +kernel))
set_option maxRecDepth 20000 in
theorem gv_k_X9_hasSmaller_2 : GoodIn vs_k_X9_hasSmaller (wsV RX9 273 RX9 yX9_headsToSplit vs_k_X9_headsToSplit) := goodIn_app (goodIn_sub (by decide +kernel) (by decide +kernel)) (goodIn_sub (fun _ h => List.mem_cons_of_mem _ (List.mem_append_right _ (List.mem_append_right _ (List.mem_append_right _ (List.mem_append_right _ (h)))))) (by decide +kernel))
theorem om_k_X9_hasSmaller_0 (v2_21 : Int32) (v3_21 : Int32) (hn_21 : 0 ≤ v3_21.toInt) (c_3 : ¬ (v2_21 ≤ 0)) (c_4 : ¬ (26 ≤ v2_21)) (c_5 : ¬ (1000000 ≤ v3_21)) : vp_in (v2_21 + (-1)) 26 := by
  have f_0 := hn_21
  have f_1 := Int32.lt_iff_toInt_lt.mp (Int32.not_le.mp c_3)
  have f_2 := Int32.lt_iff_toInt_lt.mp (Int32.not_le.mp c_4)
  have f_3 := Int32.lt_iff_toInt_lt.mp (Int32.not_le.mp c_5)
  have nl_m1 : (-1 : Int32).toInt = -1 := rfl
  have nl_0 : (0 : Int32).toInt = 0 := rfl
  have nl_1000000 : (1000000 : Int32).toInt = 1000000 := rfl
  have nl_26 : (26 : Int32).toInt = 26 := rfl
  have r_v2_21 := wi_rng v2_21
  have q_1 : (v2_21 + (-1)).toInt = (v2_21 : Int32).toInt + ((-1) : Int32).toInt := wi_add (by omega) (by omega)
  exact wi_in (by omega) (by omega)
theorem om_k_X9_hasSmaller_1 (v2_21 : Int32) (v3_21 : Int32) (t_61 : r_k_X9_headsToSplit) (hn_21 : 0 ≤ v3_21.toInt) (c_3 : ¬ (v2_21 ≤ 0)) (c_4 : ¬ (26 ≤ v2_21)) (c_5 : ¬ (1000000 ≤ v3_21)) (c_10 : ¬ (t_61 = 0)) : vp_in (v2_21 + (-1)) 26 := by
  have f_0 := hn_21
  have f_1 := Int32.lt_iff_toInt_lt.mp (Int32.not_le.mp c_3)
  have f_2 := Int32.lt_iff_toInt_lt.mp (Int32.not_le.mp c_4)
  have f_3 := Int32.lt_iff_toInt_lt.mp (Int32.not_le.mp c_5)
  have f_4 : ¬ (t_61 : Int32).toInt = (0 : Int32).toInt := fun h => c_10 (Int32.toInt_inj.mp h)
  have nl_m1 : (-1 : Int32).toInt = -1 := rfl
  have nl_0 : (0 : Int32).toInt = 0 := rfl
  have nl_1000000 : (1000000 : Int32).toInt = 1000000 := rfl
  have nl_26 : (26 : Int32).toInt = 26 := rfl
  have r_v2_21 := wi_rng v2_21
  have q_1 : (v2_21 + (-1)).toInt = (v2_21 : Int32).toInt + ((-1) : Int32).toInt := wi_add (by omega) (by omega)
  exact wi_in (by omega) (by omega)
theorem om_k_X9_hasSmaller_2 (v2_21 : Int32) (v3_21 : Int32) (t_61 : r_k_X9_headsToSplit) (hn_21 : 0 ≤ v3_21.toInt) (c_3 : ¬ (v2_21 ≤ 0)) (c_4 : ¬ (26 ≤ v2_21)) (c_5 : ¬ (1000000 ≤ v3_21)) (c_10 : ¬ (t_61 = 0)) : vp_in ((v2_21 + (-1)) + 1) 26 := by
  have f_0 := hn_21
  have f_1 := Int32.lt_iff_toInt_lt.mp (Int32.not_le.mp c_3)
  have f_2 := Int32.lt_iff_toInt_lt.mp (Int32.not_le.mp c_4)
  have f_3 := Int32.lt_iff_toInt_lt.mp (Int32.not_le.mp c_5)
  have f_4 : ¬ (t_61 : Int32).toInt = (0 : Int32).toInt := fun h => c_10 (Int32.toInt_inj.mp h)
  have nl_m1 : (-1 : Int32).toInt = -1 := rfl
  have nl_0 : (0 : Int32).toInt = 0 := rfl
  have nl_1 : (1 : Int32).toInt = 1 := rfl
  have nl_1000000 : (1000000 : Int32).toInt = 1000000 := rfl
  have nl_26 : (26 : Int32).toInt = 26 := rfl
  have r_v2_21 := wi_rng v2_21
  have q_1 : (v2_21 + (-1)).toInt = (v2_21 : Int32).toInt + ((-1) : Int32).toInt := wi_add (by omega) (by omega)
  have q_2 : ((v2_21 + (-1)) + 1).toInt = ((v2_21 + (-1)) : Int32).toInt + (1 : Int32).toInt := wi_add (by omega) (by omega)
  exact wi_in (by omega) (by omega)
set_option maxHeartbeats 4000000 in
set_option maxRecDepth 100000 in
theorem k_X9_hasSmaller (l : Launch) (D : va_G) (ty : Nat → ClassId) (td mi sz : Nat) (pp : pT) (X : Nat → Nat) (pn : Int32) (rn : Int32) (tn : Int32) (en : Int32) (rf : Nat → Option Nat) (an : Int32) (ch : Int32) (cg : Int32) (fb : Int32) (mh : Int32) (ml : Int32) (ih : Int32) (lb : Int32) (ic : Int32) (cn : Int32) (c1 : Nat → Int32) (c2 : Nat → Int32) (c3 : Nat → Int32) (c4 : Nat → Int32) (ac : Nat → Int32) (obi : Nat → Int32) (sc : Nat → Int32) (br : Nat → Int32) (a1 : Int32) (hok : pOK pp) (hru : ∀ (i a : Nat), rf i = some a → a ∈ pRA pp) (TT : r_k_X9_hasSmaller) (hTT : TT = m_k_X9_hasSmaller pp rn rf ch cg fb cn c1 c2 c3 c4 ac obi sc br a1) : Met l yX9_hasSmaller vs_k_X9_hasSmaller { frames := 5, cells := 0, slots := 0, locals := 122 } (va_Pc [.ref (X 20), .int a1] (wq_P D ty td mi ((wW_k_X9_hasSmaller ty X pn rn tn en rf an ch cg fb mh ml ih lb ic cn c1 c2 c3 c4 ac obi sc br) ++ pw ty pp) sz)) (va_Qi (fun (r : Int32) (u : va_W) => (r = TT.1 ∧ (TT.1 = 0 ∨ TT.1 = 1) ∧ (u = ((wW_k_X9_hasSmaller ty X pn rn tn en rf TT.2.1 ch cg fb mh ml ih lb ic cn c1 c2 c3 c4 TT.2.2.1 obi sc TT.2.2.2) ++ pw ty pp)))) (wq_B D (va_A ((wW_k_X9_hasSmaller ty X pn rn tn en rf an ch cg fb mh ml ih lb ic cn c1 c2 c3 c4 ac obi sc br) ++ pw ty pp) sz)) (va_A ((wW_k_X9_hasSmaller ty X pn rn tn en rf an ch cg fb mh ml ih lb ic cn c1 c2 c3 c4 ac obi sc br) ++ pw ty pp) sz)) 0 0 (va_A ((wW_k_X9_hasSmaller ty X pn rn tn en rf an ch cg fb mh ml ih lb ic cn c1 c2 c3 c4 ac obi sc br) ++ pw ty pp) sz) := by
  refine Met.ofW (cc := cX9_hasSmaller) (maxL := 7) (ret := (some .boolean)) (by decide) rfl ?_
  intro p e s m args below meth c s₁ B hml hv
  obtain ⟨rfl, hsz, hP, hK, hD0, hE⟩ := hv
  have hx := B.exec
  have hb := B.bytes
  have hr := B.returns
  have hts := atoms_spec (ws := vs_k_X9_hasSmaller) B.pre
  have hown : s.vm.findClass RX9 = some m.cls := findClass_of_methodNamed B.named
  have hlocks := B.notSynchronized
  subst hsz
  have hD := hD0.self (sz := s.heap.size)
  generalize hAe : va_A ((wW_k_X9_hasSmaller ty X pn rn tn en rf an ch cg fb mh ml ih lb ic cn c1 c2 c3 c4 ac obi sc br) ++ pw ty pp) s.heap.size = A at hD hE ⊢
  have hA : ∀ q : Nat, s.heap.size ≤ q → A q := fun q h => by rw [← hAe]; exact Or.inr h
  have hS : va_S A s.heap s.heap [] := va_S.rf
  have hP : va_P D vwCl ((wW_k_X9_hasSmaller ty X pn rn tn en rf an ch cg fb mh ml ih lb ic cn c1 c2 c3 c4 ac obi sc br) ++ pw ty pp) s.heap := hP
  have hl := lv_entry ([.ref (X 20), .int a1]) (n := 7) (Nat.le_of_ble_eq_true rfl)
  rw [lg_entry_eq]
  generalize (lg_sl ([.ref (X 20), .int a1]) ++ List.replicate (7 - (lg_sl ([.ref (X 20), .int a1])).length) Slot.unset).toArray = ls at hl ⊢
  have hl : lv_has ls 7 [(0, .ref (X 20)), (1, .int a1)] := hl
  have END : ∀ (r : Int32) (w9_0 : Int32) (w9_1 : Nat → Int32) (w9_2 : Nat → Int32), TT = (r, w9_0, w9_1, w9_2) → (r = 0 ∨ r = 1) → ∀ (H : Heap) (locs : List Loc), va_P D vwCl ((wW_k_X9_hasSmaller ty X pn rn tn en rf w9_0 ch cg fb mh ml ih lb ic cn c1 c2 c3 c4 w9_1 obi sc w9_2) ++ pw ty pp) H → va_D A ((wW_k_X9_hasSmaller ty X pn rn tn en rf w9_0 ch cg fb mh ml ih lb ic cn c1 c2 c3 c4 w9_1 obi sc w9_2) ++ pw ty pp) → va_S A s.heap H locs → ∀ (ls : Array Slot) (pc : Nat), decode cX9_hasSmaller pc = .ok (.ireturn, 1) → W p l e (headSpec vs_k_X9_hasSmaller { frames := 5, cells := 0, slots := 0, locals := 122 }).room s m ([.ref (X 20), .int a1] : List Value).toArray below meth c H locs 0 0 (MQ below (va_Qi (fun (r : Int32) (u : va_W) => (r = TT.1 ∧ (TT.1 = 0 ∨ TT.1 = 1) ∧ (u = ((wW_k_X9_hasSmaller ty X pn rn tn en rf TT.2.1 ch cg fb mh ml ih lb ic cn c1 c2 c3 c4 TT.2.2.1 obi sc TT.2.2.2) ++ pw ty pp)))) (wq_B D A) A) ([.ref (X 20), .int a1] : List Value).toArray s 0 0 A) (F0 m pc ls [.int r]) := by
    intro r w9_0 w9_1 w9_2 hT hb01 H locs hP hD hS ls pc hd
    have hM : TT = (r, w9_0, w9_1, w9_2) := hT
    exact W.zret (v := r) hx hb hr (wz_nar hb01) (fun t ht hW => ⟨⟨r, ((wW_k_X9_hasSmaller ty X pn rn tn en rf w9_0 ch cg fb mh ml ih lb ic cn c1 c2 c3 c4 w9_1 obi sc w9_2) ++ pw ty pp), rfl, ⟨(by rw [hM]), (by rw [hM]; exact hb01), (by rw [hM])⟩, wq_B.of ht hP hD⟩, hS.F ht⟩) hS.2.2 hd
  have hT := hTT
  rw [m_k_X9_hasSmaller] at hT
  refine lv_aload_n hx hb dX9_hasSmaller_0 rfl (lv_at hl 0 rfl) ?_
  refine lv_iload_n hx hb dX9_hasSmaller_1 rfl (lv_at hl 1 rfl) ?_
  obtain ⟨t_2, ht_2⟩ : ∃ t, t = m_k_X9_listActive pp rn rf cg cn c1 c2 c3 c4 ac obi sc a1 := ⟨_, rfl⟩
  rw [lE_eq ht_2] at hT
  refine wq_vPW (wc := (wW_k_X9_listActive ty X pn rn tn en rf an ch cg fb mh ml ih lb ic cn c1 c2 c3 c4 ac obi sc)) (pl := pw ty pp) (ux := (wW_k_X9_listActive ty X pn rn tn en rf t_2.1 ch cg fb mh ml ih lb ic cn c1 c2 c3 c4 t_2.2 obi sc)) (va_runV (As := [.int a1]) (rest := []) ⟨hx, hb, hml, hown, hts⟩ (k_X9_listActive l D ty td mi s.heap.size pp X pn rn tn en rf an ch cg fb mh ml ih lb ic cn c1 c2 c3 c4 ac obi sc a1 hok hru t_2 ht_2) (cwV 1 hts gv_k_X9_hasSmaller_0 rfl rfl rfl (by decide +kernel) ⟨(Nat.le_of_ble_eq_true rfl), (Nat.le_of_ble_eq_true rfl)⟩) (wm_V (wm_preSP hP hD hK hE hS hA [true, true, true, true, true, true, true, true, true, true, true] rfl) (va_recv (q0 := 2) (ci := 11) hK hP rfl rfl)) rfl rfl hl.1 rfl (lv_room (Nat.le_of_ble_eq_true rfl)) dX9_hasSmaller_2 ⟨(Nat.le_of_ble_eq_true rfl), (Nat.le_of_ble_eq_true rfl)⟩) hS hA hP hD [true, true, true, true, true, true, true, true, true, true, true] rfl rfl (fun _ h => h) (fun  H locs hw hP hD hS => ?_)
  have hP : va_P D vwCl ((wW_k_X9_hasSmaller ty X pn rn tn en rf t_2.1 ch cg fb mh ml ih lb ic cn c1 c2 c3 c4 t_2.2 obi sc br) ++ pw ty pp) H := hP
  have hD : va_D A ((wW_k_X9_hasSmaller ty X pn rn tn en rf t_2.1 ch cg fb mh ml ih lb ic cn c1 c2 c3 c4 t_2.2 obi sc br) ++ pw ty pp) := hD
  refine W.widen (k := 0) (n := 0) (Nat.le_of_ble_eq_true rfl) (Nat.le_of_ble_eq_true rfl) ?_
  refine lv_aload_n hx hb dX9_hasSmaller_5 rfl (lv_at hl 0 rfl) ?_
  refine va_get (D := D) (ci := 11) (v := .ref (X 38)) (C := RX9) (T := TX9) (N := 17) hx hb hts iv_k_X9_hasSmaller_X9 hown hK hP 2 rfl rfl 8 (by decide) (hts (.fieldLink RX9 31 "AnswerFold$Solver" "branches" "[I") (by decide +kernel)) (fun _ h9 => h9) rfl dX9_hasSmaller_6 ?_
  refine lv_iconst (v := 0) hx hb dX9_hasSmaller_9 (by decide) ?_
  refine lv_iload_n hx hb dX9_hasSmaller_10 rfl (lv_at hl 1 rfl) ?_
  refine lv_aload_n hx hb dX9_hasSmaller_11 rfl (lv_at hl 0 rfl) ?_
  refine va_get (D := D) (ci := 11) (v := .int fb) (C := RX9) (T := TX9) (N := 17) hx hb hts iv_k_X9_hasSmaller_X9 hown hK hP 2 rfl rfl 11 (by decide) (hts (.fieldLink RX9 75 "AnswerFold$Solver" "freeBits" "I") (by decide +kernel)) (fun _ h9 => h9) rfl dX9_hasSmaller_12 ?_
  refine lv_iand hx hb dX9_hasSmaller_15 ?_
  refine va_iast (D := D) hx hb hK hP hD hS 11 0 rfl rfl (vp_in_iff.mpr (by decide)) dX9_hasSmaller_16 (fun H locs hP hD hS => ?_)
  have hP : va_P D vwCl ((wW_k_X9_hasSmaller ty X pn rn tn en rf t_2.1 ch cg fb mh ml ih lb ic cn c1 c2 c3 c4 t_2.2 obi sc (upd br ((0 : Int32).toNatClampNeg) (a1 &&& fb))) ++ pw ty pp) H := hP
  have hD : va_D A ((wW_k_X9_hasSmaller ty X pn rn tn en rf t_2.1 ch cg fb mh ml ih lb ic cn c1 c2 c3 c4 t_2.2 obi sc (upd br ((0 : Int32).toNatClampNeg) (a1 &&& fb))) ++ pw ty pp) := hD
  refine lv_iconst (v := 1) hx hb dX9_hasSmaller_17 (by decide) ?_
  refine lv_istore_n (lv' := [(2, .int 1), (0, .ref (X 20)), (1, .int a1)]) hx hb dX9_hasSmaller_18 rfl hl (by decide) rfl (fun ls hl => ?_)
  refine lv_iconst (v := 0) hx hb dX9_hasSmaller_19 (by decide) ?_
  refine lv_istore_n (lv' := [(3, .int 0), (2, .int 1), (0, .ref (X 20)), (1, .int a1)]) hx hb dX9_hasSmaller_20 rfl hl (by decide) rfl (fun ls hl => ?_)
  have L_21 : ∀ (n_21 : Nat) (v2_21 : Int32) (v3_21 : Int32) (x38_f_21 : Nat → Int32), (2147483648 - v3_21.toInt).toNat < n_21 → TT = m_k_X9_hasSmaller_21 pp rn rf ch cg c1 c2 c3 c4 obi sc a1 t_2 n_21 v2_21 v3_21 x38_f_21 → 0 ≤ v3_21.toInt → ∀ (H : Heap) (locs : List Loc), va_P D vwCl ((wW_k_X9_hasSmaller ty X pn rn tn en rf t_2.1 ch cg fb mh ml ih lb ic cn c1 c2 c3 c4 t_2.2 obi sc x38_f_21) ++ pw ty pp) H → va_D A ((wW_k_X9_hasSmaller ty X pn rn tn en rf t_2.1 ch cg fb mh ml ih lb ic cn c1 c2 c3 c4 t_2.2 obi sc x38_f_21) ++ pw ty pp) → va_S A s.heap H locs → ∀ ls : Array Slot, lv_has ls 7 [(0, .ref (X 20)), (1, .int a1), (2, .int v2_21), (3, .int v3_21)] → W p l e (headSpec vs_k_X9_hasSmaller { frames := 5, cells := 0, slots := 0, locals := 122 }).room s m ([.ref (X 20), .int a1] : List Value).toArray below meth c H locs 0 0 (MQ below (va_Qi (fun (r : Int32) (u : va_W) => (r = TT.1 ∧ (TT.1 = 0 ∨ TT.1 = 1) ∧ (u = ((wW_k_X9_hasSmaller ty X pn rn tn en rf TT.2.1 ch cg fb mh ml ih lb ic cn c1 c2 c3 c4 TT.2.2.1 obi sc TT.2.2.2) ++ pw ty pp)))) (wq_B D A) A) ([.ref (X 20), .int a1] : List Value).toArray s 0 0 A) (F0 m 21 ls []) := by
    intro n_21
    induction n_21 with
    | zero => intro v2_21 v3_21 x38_f_21 hu; exact absurd hu (Nat.not_lt_zero _)
    | succ n_21 ih_21 =>
      intro v2_21 v3_21 x38_f_21 hu_21 hT hn_21 H locs hP hD hS ls hl
      rw [m_k_X9_hasSmaller_21_succ, m_k_X9_hasSmaller_21s] at hT
      refine lv_iload_n hx hb dX9_hasSmaller_21 rfl (lv_at hl 2 rfl) ?_
      refine lv_if_le (tgt := 136) hx hb dX9_hasSmaller_22 (by decide) (fun c_3 => ?_) (fun c_3 => ?_)
      · rw [if_pos c_3] at hT
        refine lv_iconst (v := 0) hx hb dX9_hasSmaller_136 (by decide) ?_
        exact END 0 t_2.1 t_2.2 x38_f_21 hT (by decide) _ _ hP hD hS _ _ dX9_hasSmaller_137
      · rw [if_neg c_3] at hT
        refine lv_iload_n hx hb dX9_hasSmaller_25 rfl (lv_at hl 2 rfl) ?_
        refine lv_aload_n hx hb dX9_hasSmaller_26 rfl (lv_at hl 0 rfl) ?_
        refine va_get (D := D) (ci := 11) (v := .ref (X 38)) (C := RX9) (T := TX9) (N := 17) hx hb hts iv_k_X9_hasSmaller_X9 hown hK hP 2 rfl rfl 8 (by decide) (hts (.fieldLink RX9 31 "AnswerFold$Solver" "branches" "[I") (by decide +kernel)) (fun _ h9 => h9) rfl dX9_hasSmaller_27 ?_
        refine va_alen (D := D) (v := 26) hx hb hK hP 11 0 rfl rfl (by first | decide | rfl) dX9_hasSmaller_30 ?_
        refine lv_icmp_ge (tgt := 136) hx hb dX9_hasSmaller_31 (by decide) (fun c_4 => ?_) (fun c_4 => ?_)
        · rw [if_pos c_4] at hT
          refine lv_iconst (v := 0) hx hb dX9_hasSmaller_136 (by decide) ?_
          exact END 0 t_2.1 t_2.2 x38_f_21 hT (by decide) _ _ hP hD hS _ _ dX9_hasSmaller_137
        · rw [if_neg c_4] at hT
          refine lv_iload_n hx hb dX9_hasSmaller_34 rfl (lv_at hl 3 rfl) ?_
          refine lv_ldcw (v := 1000000) hx hb hown (hts (.constant RX9 269 1000000) (by decide +kernel)) dX9_hasSmaller_35 ?_
          refine lv_icmp_ge (tgt := 136) hx hb dX9_hasSmaller_38 (by decide) (fun c_5 => ?_) (fun c_5 => ?_)
          · rw [if_pos c_5] at hT
            refine lv_iconst (v := 0) hx hb dX9_hasSmaller_136 (by decide) ?_
            exact END 0 t_2.1 t_2.2 x38_f_21 hT (by decide) _ _ hP hD hS _ _ dX9_hasSmaller_137
          · rw [if_neg c_5] at hT
            refine lv_iinc (v := v2_21 + (-1)) (lv' := [(2, .int (v2_21 + (-1))), (0, .ref (X 20)), (1, .int a1), (3, .int v3_21)]) hx hb dX9_hasSmaller_41 hl (k := 2) rfl (by rfl) (by decide) rfl (fun ls hl => ?_)
            refine lv_aload_n hx hb dX9_hasSmaller_44 rfl (lv_at hl 1 rfl) ?_
            refine lv_aload_n hx hb dX9_hasSmaller_45 rfl (lv_at hl 1 rfl) ?_
            refine va_get (D := D) (ci := 11) (v := .ref (X 38)) (C := RX9) (T := TX9) (N := 17) hx hb hts iv_k_X9_hasSmaller_X9 hown hK hP 2 rfl rfl 8 (by decide) (hts (.fieldLink RX9 31 "AnswerFold$Solver" "branches" "[I") (by decide +kernel)) (fun _ h9 => h9) rfl dX9_hasSmaller_46 ?_
            refine lv_iload_n hx hb dX9_hasSmaller_49 rfl (lv_at hl 0 rfl) ?_
            refine va_iald (D := D) hx hb hK hP 11 0 rfl rfl (om_k_X9_hasSmaller_0 v2_21 v3_21 hn_21 c_3 c_4 c_5) dX9_hasSmaller_50 ?_
            refine lv_iload_n hx hb dX9_hasSmaller_51 rfl (lv_at hl 2 rfl) ?_
            obtain ⟨t_52, ht_52⟩ : ∃ t, t = m_k_X9_grow pp rn rf t_2.1 ch cg c1 c2 c3 c4 t_2.2 obi sc (x38_f_21 (v2_21 + (-1)).toNatClampNeg) a1 := ⟨_, rfl⟩
            rw [lE_eq ht_52] at hT
            refine wq_iPW (wc := (wW_k_X9_grow ty X pn rn tn en rf t_2.1 ch cg fb mh ml ih lb ic cn c1 c2 c3 c4 t_2.2 obi sc)) (pl := pw ty pp) (ux := (wW_k_X9_grow ty X pn rn tn en rf t_2.1 ch cg fb mh ml ih lb ic cn c1 c2 c3 c4 t_2.2 obi sc)) (va_runV (As := [.int (x38_f_21 (v2_21 + (-1)).toNatClampNeg), .int a1]) (rest := []) ⟨hx, hb, hml, hown, hts⟩ (k_X9_grow l D ty td mi H.size pp X pn rn tn en rf t_2.1 ch cg fb mh ml ih lb ic cn c1 c2 c3 c4 t_2.2 obi sc (x38_f_21 (v2_21 + (-1)).toNatClampNeg) a1 hok hru t_52 ht_52) (cwV 2 hts gv_k_X9_hasSmaller_1 rfl rfl rfl (by decide +kernel) ⟨(Nat.le_of_ble_eq_true rfl), (Nat.le_of_ble_eq_true rfl)⟩) (wm_V (wm_preSP hP hD hK hE hS hA [true, true, true, true, true, true, true, true, true, true, true] rfl) (va_recv (q0 := 2) (ci := 11) hK hP rfl rfl)) rfl rfl hl.1 rfl (lv_room (Nat.le_of_ble_eq_true rfl)) dX9_hasSmaller_52 ⟨(Nat.le_of_ble_eq_true rfl), (Nat.le_of_ble_eq_true rfl)⟩) hS hA hP hD [true, true, true, true, true, true, true, true, true, true, true] rfl rfl (fun _ _ h => h.2) (fun r H locs hw hP hD hS => ?_)
            obtain ⟨hr0, -⟩ := hw
            subst r
            have hP : va_P D vwCl ((wW_k_X9_hasSmaller ty X pn rn tn en rf t_2.1 ch cg fb mh ml ih lb ic cn c1 c2 c3 c4 t_2.2 obi sc x38_f_21) ++ pw ty pp) H := hP
            have hD : va_D A ((wW_k_X9_hasSmaller ty X pn rn tn en rf t_2.1 ch cg fb mh ml ih lb ic cn c1 c2 c3 c4 t_2.2 obi sc x38_f_21) ++ pw ty pp) := hD
            refine W.widen (k := 0) (n := 0) (Nat.le_of_ble_eq_true rfl) (Nat.le_of_ble_eq_true rfl) ?_
            refine lv_istore (lv' := [(4, .int t_52), (2, .int (v2_21 + (-1))), (0, .ref (X 20)), (1, .int a1), (3, .int v3_21)]) hx hb dX9_hasSmaller_55 hl (by decide) rfl (fun ls hl => ?_)
            refine lv_aload_n hx hb dX9_hasSmaller_57 rfl (lv_at hl 2 rfl) ?_
            refine lv_iload hx hb dX9_hasSmaller_58 (lv_at hl 0 rfl) ?_
            refine lv_iload_n hx hb dX9_hasSmaller_60 rfl (lv_at hl 3 rfl) ?_
            obtain ⟨t_61, ht_61⟩ : ∃ t, t = m_k_X9_headsToSplit pp rn rf t_2.1 ch cg c1 c2 c3 c4 t_2.2 obi sc t_52 a1 := ⟨_, rfl⟩
            rw [lE_eq ht_61] at hT
            refine wq_iPW (wc := (wW_k_X9_headsToSplit ty X pn rn tn en rf t_2.1 ch cg fb mh ml ih lb ic cn c1 c2 c3 c4 t_2.2 obi sc)) (pl := pw ty pp) (ux := (wW_k_X9_headsToSplit ty X pn rn tn en rf t_2.1 ch cg fb mh ml ih lb ic cn c1 c2 c3 c4 t_2.2 obi sc)) (va_runV (As := [.int t_52, .int a1]) (rest := []) ⟨hx, hb, hml, hown, hts⟩ (k_X9_headsToSplit l D ty td mi H.size pp X pn rn tn en rf t_2.1 ch cg fb mh ml ih lb ic cn c1 c2 c3 c4 t_2.2 obi sc t_52 a1 hok hru t_61 ht_61) (cwV 2 hts gv_k_X9_hasSmaller_2 rfl rfl rfl (by decide +kernel) ⟨(Nat.le_of_ble_eq_true rfl), (Nat.le_of_ble_eq_true rfl)⟩) (wm_V (wm_preSP hP hD hK hE hS hA [true, true, true, true, true, true, true, true, true, true, true] rfl) (va_recv (q0 := 2) (ci := 11) hK hP rfl rfl)) rfl rfl hl.1 rfl (lv_room (Nat.le_of_ble_eq_true rfl)) dX9_hasSmaller_61 ⟨(Nat.le_of_ble_eq_true rfl), (Nat.le_of_ble_eq_true rfl)⟩) hS hA hP hD [true, true, true, true, true, true, true, true, true, true, true] rfl rfl (fun _ _ h => h.2) (fun r H locs hw hP hD hS => ?_)
            obtain ⟨hr0, -⟩ := hw
            subst r
            have hP : va_P D vwCl ((wW_k_X9_hasSmaller ty X pn rn tn en rf t_2.1 ch cg fb mh ml ih lb ic cn c1 c2 c3 c4 t_2.2 obi sc x38_f_21) ++ pw ty pp) H := hP
            have hD : va_D A ((wW_k_X9_hasSmaller ty X pn rn tn en rf t_2.1 ch cg fb mh ml ih lb ic cn c1 c2 c3 c4 t_2.2 obi sc x38_f_21) ++ pw ty pp) := hD
            refine W.widen (k := 0) (n := 0) (Nat.le_of_ble_eq_true rfl) (Nat.le_of_ble_eq_true rfl) ?_
            refine lv_istore (lv' := [(5, .int t_61), (4, .int t_52), (2, .int (v2_21 + (-1))), (0, .ref (X 20)), (1, .int a1), (3, .int v3_21)]) hx hb dX9_hasSmaller_64 hl (by decide) rfl (fun ls hl => ?_)
            refine lv_iload hx hb dX9_hasSmaller_66 (lv_at hl 0 rfl) ?_
            have J_130 : ∀ (v2_130 : Int32) (x38_f_130 : Nat → Int32), TT = m_k_X9_hasSmaller_130 (m_k_X9_hasSmaller_21 pp rn rf ch cg c1 c2 c3 c4 obi sc a1 t_2 n_21) v3_21 v2_130 x38_f_130 → ∀ (H : Heap) (locs : List Loc), va_P D vwCl ((wW_k_X9_hasSmaller ty X pn rn tn en rf t_2.1 ch cg fb mh ml ih lb ic cn c1 c2 c3 c4 t_2.2 obi sc x38_f_130) ++ pw ty pp) H → va_D A ((wW_k_X9_hasSmaller ty X pn rn tn en rf t_2.1 ch cg fb mh ml ih lb ic cn c1 c2 c3 c4 t_2.2 obi sc x38_f_130) ++ pw ty pp) → va_S A s.heap H locs → ∀ ls : Array Slot, lv_has ls 7 [(0, .ref (X 20)), (1, .int a1), (2, .int v2_130), (3, .int v3_21)] → W p l e (headSpec vs_k_X9_hasSmaller { frames := 5, cells := 0, slots := 0, locals := 122 }).room s m ([.ref (X 20), .int a1] : List Value).toArray below meth c H locs 0 0 (MQ below (va_Qi (fun (r : Int32) (u : va_W) => (r = TT.1 ∧ (TT.1 = 0 ∨ TT.1 = 1) ∧ (u = ((wW_k_X9_hasSmaller ty X pn rn tn en rf TT.2.1 ch cg fb mh ml ih lb ic cn c1 c2 c3 c4 TT.2.2.1 obi sc TT.2.2.2) ++ pw ty pp)))) (wq_B D A) A) ([.ref (X 20), .int a1] : List Value).toArray s 0 0 A) (F0 m 130 ls []) := by
              intro v2_130 x38_f_130 hT  H locs hP hD hS ls hl
              rw [m_k_X9_hasSmaller_130] at hT
              refine lv_iinc (v := v3_21 + 1) (lv' := [(3, .int (v3_21 + 1)), (0, .ref (X 20)), (1, .int a1), (2, .int v2_130)]) hx hb dX9_hasSmaller_130 hl (k := 3) rfl (by rfl) (by decide) rfl (fun ls hl => ?_)
              refine lv_goto (tgt := 21) hx hb dX9_hasSmaller_133 (by decide) ?_
              exact ih_21 v2_130 (v3_21 + 1) x38_f_130 (wi_up hu_21 (Int32.not_le.mp c_5)) hT (wi_inc hn_21 (Int32.not_le.mp c_5)) _ _ hP hD hS _ (lv_sub hl [1, 2, 3, 0] rfl)
            refine lv_if_ne (tgt := 79) hx hb dX9_hasSmaller_68 (by decide) (fun c_10 => ?_) (fun c_10 => ?_)
            · rw [if_neg c_10] at hT
              refine lv_iload_n hx hb dX9_hasSmaller_79 rfl (lv_at hl 2 rfl) ?_
              refine lv_iconst (v := 1) hx hb dX9_hasSmaller_80 (by decide) ?_
              refine lv_iadd hx hb dX9_hasSmaller_81 ?_
              refine lv_aload_n hx hb dX9_hasSmaller_82 rfl (lv_at hl 3 rfl) ?_
              refine va_get (D := D) (ci := 11) (v := .ref (X 38)) (C := RX9) (T := TX9) (N := 17) hx hb hts iv_k_X9_hasSmaller_X9 hown hK hP 2 rfl rfl 8 (by decide) (hts (.fieldLink RX9 31 "AnswerFold$Solver" "branches" "[I") (by decide +kernel)) (fun _ h9 => h9) rfl dX9_hasSmaller_83 ?_
              refine va_alen (D := D) (v := 26) hx hb hK hP 11 0 rfl rfl (by first | decide | rfl) dX9_hasSmaller_86 ?_
              refine lv_icmp_ge (tgt := 130) hx hb dX9_hasSmaller_87 (by decide) (fun c_11 => ?_) (fun c_11 => ?_)
              · rw [if_pos c_11] at hT
                exact J_130 (v2_21 + (-1)) x38_f_21 hT _ _ hP hD hS _ (lv_sub hl [3, 4, 2, 5] rfl)
              · rw [if_neg c_11] at hT
                refine lv_iload hx hb dX9_hasSmaller_90 (lv_at hl 0 rfl) ?_
                refine lv_iload hx hb dX9_hasSmaller_92 (lv_at hl 0 rfl) ?_
                refine lv_ineg hx hb dX9_hasSmaller_94 ?_
                refine lv_iand hx hb dX9_hasSmaller_95 ?_
                refine lv_istore (lv' := [(6, .int (t_61 &&& (-t_61))), (5, .int t_61), (4, .int t_52), (2, .int (v2_21 + (-1))), (0, .ref (X 20)), (1, .int a1), (3, .int v3_21)]) hx hb dX9_hasSmaller_96 hl (by decide) rfl (fun ls hl => ?_)
                refine lv_aload_n hx hb dX9_hasSmaller_98 rfl (lv_at hl 4 rfl) ?_
                refine va_get (D := D) (ci := 11) (v := .ref (X 38)) (C := RX9) (T := TX9) (N := 17) hx hb hts iv_k_X9_hasSmaller_X9 hown hK hP 2 rfl rfl 8 (by decide) (hts (.fieldLink RX9 31 "AnswerFold$Solver" "branches" "[I") (by decide +kernel)) (fun _ h9 => h9) rfl dX9_hasSmaller_99 ?_
                refine lv_iload_n hx hb dX9_hasSmaller_102 rfl (lv_at hl 3 rfl) ?_
                refine lv_iload hx hb dX9_hasSmaller_103 (lv_at hl 2 rfl) ?_
                refine lv_iload hx hb dX9_hasSmaller_105 (lv_at hl 0 rfl) ?_
                refine lv_ior hx hb dX9_hasSmaller_107 ?_
                refine va_iast (D := D) hx hb hK hP hD hS 11 0 rfl rfl (om_k_X9_hasSmaller_1 v2_21 v3_21 t_61 hn_21 c_3 c_4 c_5 c_10) dX9_hasSmaller_108 (fun H locs hP hD hS => ?_)
                have hP : va_P D vwCl ((wW_k_X9_hasSmaller ty X pn rn tn en rf t_2.1 ch cg fb mh ml ih lb ic cn c1 c2 c3 c4 t_2.2 obi sc (upd x38_f_21 ((v2_21 + (-1)).toNatClampNeg) (t_52 ||| (t_61 &&& (-t_61))))) ++ pw ty pp) H := hP
                have hD : va_D A ((wW_k_X9_hasSmaller ty X pn rn tn en rf t_2.1 ch cg fb mh ml ih lb ic cn c1 c2 c3 c4 t_2.2 obi sc (upd x38_f_21 ((v2_21 + (-1)).toNatClampNeg) (t_52 ||| (t_61 &&& (-t_61))))) ++ pw ty pp) := hD
                refine lv_aload_n hx hb dX9_hasSmaller_109 rfl (lv_at hl 4 rfl) ?_
                refine va_get (D := D) (ci := 11) (v := .ref (X 38)) (C := RX9) (T := TX9) (N := 17) hx hb hts iv_k_X9_hasSmaller_X9 hown hK hP 2 rfl rfl 8 (by decide) (hts (.fieldLink RX9 31 "AnswerFold$Solver" "branches" "[I") (by decide +kernel)) (fun _ h9 => h9) rfl dX9_hasSmaller_110 ?_
                refine lv_iload_n hx hb dX9_hasSmaller_113 rfl (lv_at hl 3 rfl) ?_
                refine lv_iconst (v := 1) hx hb dX9_hasSmaller_114 (by decide) ?_
                refine lv_iadd hx hb dX9_hasSmaller_115 ?_
                refine lv_iload hx hb dX9_hasSmaller_116 (lv_at hl 2 rfl) ?_
                refine lv_iload hx hb dX9_hasSmaller_118 (lv_at hl 1 rfl) ?_
                refine lv_iload hx hb dX9_hasSmaller_120 (lv_at hl 0 rfl) ?_
                refine lv_iconst (v := (-1)) hx hb dX9_hasSmaller_122 (by decide) ?_
                refine lv_ixor hx hb dX9_hasSmaller_123 ?_
                refine lv_iand hx hb dX9_hasSmaller_124 ?_
                refine lv_ior hx hb dX9_hasSmaller_125 ?_
                refine va_iast (D := D) hx hb hK hP hD hS 11 0 rfl rfl (om_k_X9_hasSmaller_2 v2_21 v3_21 t_61 hn_21 c_3 c_4 c_5 c_10) dX9_hasSmaller_126 (fun H locs hP hD hS => ?_)
                have hP : va_P D vwCl ((wW_k_X9_hasSmaller ty X pn rn tn en rf t_2.1 ch cg fb mh ml ih lb ic cn c1 c2 c3 c4 t_2.2 obi sc (upd (upd x38_f_21 ((v2_21 + (-1)).toNatClampNeg) (t_52 ||| (t_61 &&& (-t_61)))) (((v2_21 + (-1)) + 1).toNatClampNeg) (t_52 ||| (t_61 &&& ((t_61 &&& (-t_61)) ^^^ (-1)))))) ++ pw ty pp) H := hP
                have hD : va_D A ((wW_k_X9_hasSmaller ty X pn rn tn en rf t_2.1 ch cg fb mh ml ih lb ic cn c1 c2 c3 c4 t_2.2 obi sc (upd (upd x38_f_21 ((v2_21 + (-1)).toNatClampNeg) (t_52 ||| (t_61 &&& (-t_61)))) (((v2_21 + (-1)) + 1).toNatClampNeg) (t_52 ||| (t_61 &&& ((t_61 &&& (-t_61)) ^^^ (-1)))))) ++ pw ty pp) := hD
                refine lv_iinc (v := (v2_21 + (-1)) + 2) (lv' := [(2, .int ((v2_21 + (-1)) + 2)), (6, .int (t_61 &&& (-t_61))), (5, .int t_61), (4, .int t_52), (0, .ref (X 20)), (1, .int a1), (3, .int v3_21)]) hx hb dX9_hasSmaller_127 hl (k := 3) rfl (by rfl) (by decide) rfl (fun ls hl => ?_)
                exact J_130 ((v2_21 + (-1)) + 2) (upd (upd x38_f_21 ((v2_21 + (-1)).toNatClampNeg) (t_52 ||| (t_61 &&& (-t_61)))) (((v2_21 + (-1)) + 1).toNatClampNeg) (t_52 ||| (t_61 &&& ((t_61 &&& (-t_61)) ^^^ (-1))))) hT _ _ hP hD hS _ (lv_sub hl [4, 5, 0, 6] rfl)
            · rw [if_pos c_10] at hT
              refine lv_iload hx hb dX9_hasSmaller_71 (lv_at hl 1 rfl) ?_
              refine lv_iload_n hx hb dX9_hasSmaller_73 rfl (lv_at hl 4 rfl) ?_
              refine lv_icmp_eq (tgt := 130) hx hb dX9_hasSmaller_74 (by decide) (fun c_12 => ?_) (fun c_12 => ?_)
              · rw [if_pos c_12] at hT
                exact J_130 (v2_21 + (-1)) x38_f_21 hT _ _ hP hD hS _ (lv_sub hl [3, 4, 2, 5] rfl)
              · rw [if_neg c_12] at hT
                refine lv_iconst (v := 1) hx hb dX9_hasSmaller_77 (by decide) ?_
                exact END 1 t_2.1 t_2.2 x38_f_21 hT (by decide) _ _ hP hD hS _ _ dX9_hasSmaller_78
  exact L_21 wF 1 0 (upd br ((0 : Int32).toNatClampNeg) (a1 &&& fb)) (wF_up 0) hT (by decide) _ _ hP hD hS _ (lv_sub hl [2, 3, 1, 0] rfl)
theorem dX9_doesFor_0 : decode cX9_doesFor 0 = .ok (.iload_n 2, 1) := by decide +kernel
theorem dX9_doesFor_1 : decode cX9_doesFor 1 = .ok (.aload_n 0, 1) := by decide +kernel
theorem dX9_doesFor_2 : decode cX9_doesFor 2 = .ok (.getfield 75, 3) := by decide +kernel
theorem dX9_doesFor_5 : decode cX9_doesFor 5 = .ok (.iand, 1) := by decide +kernel
theorem dX9_doesFor_6 : decode cX9_doesFor 6 = .ok (.iload_n 1, 1) := by decide +kernel
theorem dX9_doesFor_7 : decode cX9_doesFor 7 = .ok (.iconst (-1), 1) := by decide +kernel
theorem dX9_doesFor_8 : decode cX9_doesFor 8 = .ok (.ixor, 1) := by decide +kernel
theorem dX9_doesFor_9 : decode cX9_doesFor 9 = .ok (.iand, 1) := by decide +kernel
theorem dX9_doesFor_10 : decode cX9_doesFor 10 = .ok (.ifCond .eq 5, 3) := by decide +kernel
theorem dX9_doesFor_13 : decode cX9_doesFor 13 = .ok (.iconst 0, 1) := by decide +kernel
theorem dX9_doesFor_14 : decode cX9_doesFor 14 = .ok (.ireturn, 1) := by decide +kernel
theorem dX9_doesFor_15 : decode cX9_doesFor 15 = .ok (.aload_n 0, 1) := by decide +kernel
theorem dX9_doesFor_16 : decode cX9_doesFor 16 = .ok (.iload_n 1, 1) := by decide +kernel
theorem dX9_doesFor_17 : decode cX9_doesFor 17 = .ok (.invokevirtual 241, 3) := by decide +kernel
theorem dX9_doesFor_20 : decode cX9_doesFor 20 = .ok (.istore_n 3, 1) := by decide +kernel
theorem dX9_doesFor_21 : decode cX9_doesFor 21 = .ok (.iconst 0, 1) := by decide +kernel
theorem dX9_doesFor_22 : decode cX9_doesFor 22 = .ok (.istore 4, 2) := by decide +kernel
theorem dX9_doesFor_24 : decode cX9_doesFor 24 = .ok (.iload 4, 2) := by decide +kernel
theorem dX9_doesFor_26 : decode cX9_doesFor 26 = .ok (.aload_n 0, 1) := by decide +kernel
theorem dX9_doesFor_27 : decode cX9_doesFor 27 = .ok (.getfield 276, 3) := by decide +kernel
theorem dX9_doesFor_30 : decode cX9_doesFor 30 = .ok (.if_icmp .ge 100, 3) := by decide +kernel
theorem dX9_doesFor_33 : decode cX9_doesFor 33 = .ok (.iload 4, 2) := by decide +kernel
theorem dX9_doesFor_35 : decode cX9_doesFor 35 = .ok (.sipush 300, 3) := by decide +kernel
theorem dX9_doesFor_38 : decode cX9_doesFor 38 = .ok (.if_icmp .ge 92, 3) := by decide +kernel
theorem dX9_doesFor_41 : decode cX9_doesFor 41 = .ok (.aload_n 0, 1) := by decide +kernel
theorem dX9_doesFor_42 : decode cX9_doesFor 42 = .ok (.getfield 21, 3) := by decide +kernel
theorem dX9_doesFor_45 : decode cX9_doesFor 45 = .ok (.iload 4, 2) := by decide +kernel
theorem dX9_doesFor_47 : decode cX9_doesFor 47 = .ok (.iaload, 1) := by decide +kernel
theorem dX9_doesFor_48 : decode cX9_doesFor 48 = .ok (.istore 5, 2) := by decide +kernel
theorem dX9_doesFor_50 : decode cX9_doesFor 50 = .ok (.aload_n 0, 1) := by decide +kernel
theorem dX9_doesFor_51 : decode cX9_doesFor 51 = .ok (.getfield 12, 3) := by decide +kernel
theorem dX9_doesFor_54 : decode cX9_doesFor 54 = .ok (.iload 5, 2) := by decide +kernel
theorem dX9_doesFor_56 : decode cX9_doesFor 56 = .ok (.invokevirtual 279, 3) := by decide +kernel
theorem dX9_doesFor_59 : decode cX9_doesFor 59 = .ok (.iload_n 2, 1) := by decide +kernel
theorem dX9_doesFor_60 : decode cX9_doesFor 60 = .ok (.iand, 1) := by decide +kernel
theorem dX9_doesFor_61 : decode cX9_doesFor 61 = .ok (.istore 6, 2) := by decide +kernel
theorem dX9_doesFor_63 : decode cX9_doesFor 63 = .ok (.aload_n 0, 1) := by decide +kernel
theorem dX9_doesFor_64 : decode cX9_doesFor 64 = .ok (.iload 5, 2) := by decide +kernel
theorem dX9_doesFor_66 : decode cX9_doesFor 66 = .ok (.invokevirtual 287, 3) := by decide +kernel
theorem dX9_doesFor_69 : decode cX9_doesFor 69 = .ok (.ifCond .eq 20, 3) := by decide +kernel
theorem dX9_doesFor_72 : decode cX9_doesFor 72 = .ok (.iload 6, 2) := by decide +kernel
theorem dX9_doesFor_74 : decode cX9_doesFor 74 = .ok (.iload_n 1, 1) := by decide +kernel
theorem dX9_doesFor_75 : decode cX9_doesFor 75 = .ok (.iconst (-1), 1) := by decide +kernel
theorem dX9_doesFor_76 : decode cX9_doesFor 76 = .ok (.ixor, 1) := by decide +kernel
theorem dX9_doesFor_77 : decode cX9_doesFor 77 = .ok (.iand, 1) := by decide +kernel
theorem dX9_doesFor_78 : decode cX9_doesFor 78 = .ok (.ifCond .ne 7, 3) := by decide +kernel
theorem dX9_doesFor_81 : decode cX9_doesFor 81 = .ok (.iconst 1, 1) := by decide +kernel
theorem dX9_doesFor_82 : decode cX9_doesFor 82 = .ok (.goto 19, 3) := by decide +kernel
theorem dX9_doesFor_85 : decode cX9_doesFor 85 = .ok (.iconst 0, 1) := by decide +kernel
theorem dX9_doesFor_86 : decode cX9_doesFor 86 = .ok (.goto 15, 3) := by decide +kernel
theorem dX9_doesFor_89 : decode cX9_doesFor 89 = .ok (.iload 6, 2) := by decide +kernel
theorem dX9_doesFor_91 : decode cX9_doesFor 91 = .ok (.iload_n 1, 1) := by decide +kernel
theorem dX9_doesFor_92 : decode cX9_doesFor 92 = .ok (.iand, 1) := by decide +kernel
theorem dX9_doesFor_93 : decode cX9_doesFor 93 = .ok (.ifCond .eq 7, 3) := by decide +kernel
theorem dX9_doesFor_96 : decode cX9_doesFor 96 = .ok (.iconst 1, 1) := by decide +kernel
theorem dX9_doesFor_97 : decode cX9_doesFor 97 = .ok (.goto 4, 3) := by decide +kernel
theorem dX9_doesFor_100 : decode cX9_doesFor 100 = .ok (.iconst 0, 1) := by decide +kernel
theorem dX9_doesFor_101 : decode cX9_doesFor 101 = .ok (.istore 7, 2) := by decide +kernel
theorem dX9_doesFor_103 : decode cX9_doesFor 103 = .ok (.iload 7, 2) := by decide +kernel
theorem dX9_doesFor_105 : decode cX9_doesFor 105 = .ok (.ifCond .ne 19, 3) := by decide +kernel
theorem dX9_doesFor_108 : decode cX9_doesFor 108 = .ok (.aload_n 0, 1) := by decide +kernel
theorem dX9_doesFor_109 : decode cX9_doesFor 109 = .ok (.getfield 12, 3) := by decide +kernel
theorem dX9_doesFor_112 : decode cX9_doesFor 112 = .ok (.iload 5, 2) := by decide +kernel
theorem dX9_doesFor_114 : decode cX9_doesFor 114 = .ok (.iload_n 1, 1) := by decide +kernel
theorem dX9_doesFor_115 : decode cX9_doesFor 115 = .ok (.iload_n 3, 1) := by decide +kernel
theorem dX9_doesFor_116 : decode cX9_doesFor 116 = .ok (.invokevirtual 282, 3) := by decide +kernel
theorem dX9_doesFor_119 : decode cX9_doesFor 119 = .ok (.ifCond .eq 5, 3) := by decide +kernel
theorem dX9_doesFor_122 : decode cX9_doesFor 122 = .ok (.iconst 0, 1) := by decide +kernel
theorem dX9_doesFor_123 : decode cX9_doesFor 123 = .ok (.ireturn, 1) := by decide +kernel
theorem dX9_doesFor_124 : decode cX9_doesFor 124 = .ok (.iinc 4 1, 3) := by decide +kernel
theorem dX9_doesFor_127 : decode cX9_doesFor 127 = .ok (.goto (-103), 3) := by decide +kernel
theorem dX9_doesFor_130 : decode cX9_doesFor 130 = .ok (.iconst 1, 1) := by decide +kernel
theorem dX9_doesFor_131 : decode cX9_doesFor 131 = .ok (.ireturn, 1) := by decide +kernel
def wW_k_X9_doesFor (ty : Nat → ClassId) (X : Nat → Nat) (z9_0 : Int32) (z9_1 : Int32) (z9_2 : Int32) (z9_3 : Int32) (z9_4 : Nat → Option Nat) (z9_5 : Int32) (z9_6 : Int32) (z9_7 : Int32) (z9_8 : Int32) (z9_9 : Int32) (z9_10 : Int32) (z9_11 : Int32) (z9_12 : Int32) (z9_13 : Int32) (z9_14 : Int32) (z9_15 : Nat → Int32) (z9_16 : Nat → Int32) (z9_17 : Nat → Int32) (z9_18 : Nat → Int32) (z9_19 : Nat → Int32) (z9_20 : Nat → Int32) (z9_21 : Nat → Int32) : va_W := [((X 1), .inr (8, [.ref (X 2), .int z9_0, .ref (X 3), .int z9_1, .ref (X 4), .ref (X 5), .int z9_2, .ref (X 6), .ref (X 7), .int z9_3])), ((X 3), .inl (ty 4, 20, .inr (.inr (.inr (.inr z9_4))))), ((X 20), .inr (11, [.ref (X 1), .ref (X 8), .ref (X 21), .ref (X 28), .ref (X 35), .int z9_5, .ref (X 36), .ref (X 37), .ref (X 38), .int z9_6, .int z9_7, .int z9_8, .int z9_9, .int z9_10, .int z9_11, .int z9_12, .int z9_13])), ((X 21), .inr (9, [.ref (X 22), .ref (X 23), .ref (X 24), .ref (X 25), .ref (X 26), .ref (X 27), .int z9_14])), ((X 22), .inl (ty 0, 300, .inl z9_15)), ((X 23), .inl (ty 0, 300, .inl z9_16)), ((X 24), .inl (ty 0, 300, .inl z9_17)), ((X 25), .inl (ty 0, 300, .inl z9_18)), ((X 35), .inl (ty 0, 300, .inl z9_19)), ((X 36), .inl (ty 0, 6, .inl z9_20)), ((X 37), .inl (ty 0, 6, .inl z9_21))]
def vs_k_X9_doesFor : List Cond := .code yX9_doesFor cX9_doesFor 8 (some .boolean) :: ([.fieldLink RX9 75 "AnswerFold$Solver" "freeBits" "I", .methodLink RX9 241 yX9_countsHeld, .instanceMethod yX9_countsHeld, .selects RX9 yX9_countsHeld yX9_countsHeld, .initialized RX9, .fieldLink RX9 276 "AnswerFold$Solver" "activeCount" "I", .fieldLink RX9 21 "AnswerFold$Solver" "active" "[I", .fieldLink RX9 12 "AnswerFold$Solver" "checks" "LAnswerFold$Rows;", .methodLink RX9 279 yX7_headsAt, .instanceMethod yX7_headsAt, .selects RX7 yX7_headsAt yX7_headsAt, .initialized RX7, .methodLink RX9 287 yX9_isChoice, .instanceMethod yX9_isChoice, .selects RX9 yX9_isChoice yX9_isChoice, .methodLink RX9 282 yX7_bodyHolds, .instanceMethod yX7_bodyHolds, .selects RX7 yX7_bodyHolds yX7_bodyHolds] ++ (u_ws RX9 TX9 17 ++ (vs_k_X9_countsHeld ++ (vs_k_X7_headsAt ++ (vs_k_X9_isChoice ++ (vs_k_X7_bodyHolds))))))
theorem iv_k_X9_doesFor_X9 : ∀ w ∈ u_ws RX9 TX9 17, w ∈ vs_k_X9_doesFor := (fun _ h => List.mem_cons_of_mem _ (List.mem_append_right _ (List.mem_append_left _ h)))
set_option maxRecDepth 20000 in
theorem gv_k_X9_doesFor_0 : GoodIn vs_k_X9_doesFor (wsV RX9 241 RX9 yX9_countsHeld vs_k_X9_countsHeld) := goodIn_app (goodIn_sub (by decide +kernel) (by decide +kernel)) (goodIn_sub (fun _ h => List.mem_cons_of_mem _ (List.mem_append_right _ (List.mem_append_right _ (List.mem_append_left _ h)))) (by decide +kernel))
set_option maxRecDepth 20000 in
theorem gv_k_X9_doesFor_1 : GoodIn vs_k_X9_doesFor (wsV RX9 279 RX7 yX7_headsAt vs_k_X7_headsAt) := goodIn_app (goodIn_sub (by decide +kernel) (by decide +kernel)) (goodIn_sub (fun _ h => List.mem_cons_of_mem _ (List.mem_append_right _ (List.mem_append_right _ (List.mem_append_right _ (List.mem_append_left _ h))))) (by decide +kernel))
set_option maxRecDepth 20000 in
theorem gv_k_X9_doesFor_2 : GoodIn vs_k_X9_doesFor (wsV RX9 287 RX9 yX9_isChoice vs_k_X9_isChoice) := goodIn_app (goodIn_sub (by decide +kernel) (by decide +kernel)) (goodIn_sub (fun _ h => List.mem_cons_of_mem _ (List.mem_append_right _ (List.mem_append_right _ (List.mem_append_right _ (List.mem_append_right _ (List.mem_append_left _ h)))))) (by decide +kernel))
set_option maxRecDepth 20000 in
theorem gv_k_X9_doesFor_3 : GoodIn vs_k_X9_doesFor (wsV RX9 282 RX7 yX7_bodyHolds vs_k_X7_bodyHolds) := goodIn_app (goodIn_sub (by decide +kernel) (by decide +kernel)) (goodIn_sub (fun _ h => List.mem_cons_of_mem _ (List.mem_append_right _ (List.mem_append_right _ (List.mem_append_right _ (List.mem_append_right _ (List.mem_append_right _ (h))))))) (by decide +kernel))
set_option maxHeartbeats 4000000 in
set_option maxRecDepth 100000 in
theorem k_X9_doesFor (l : Launch) (D : va_G) (ty : Nat → ClassId) (td mi sz : Nat) (pp : pT) (X : Nat → Nat) (pn : Int32) (rn : Int32) (tn : Int32) (en : Int32) (rf : Nat → Option Nat) (an : Int32) (ch : Int32) (cg : Int32) (fb : Int32) (mh : Int32) (ml : Int32) (ih : Int32) (lb : Int32) (ic : Int32) (cn : Int32) (c1 : Nat → Int32) (c2 : Nat → Int32) (c3 : Nat → Int32) (c4 : Nat → Int32) (ac : Nat → Int32) (obi : Nat → Int32) (sc : Nat → Int32) (a1 : Int32) (a2 : Int32) (hok : pOK pp) (hru : ∀ (i a : Nat), rf i = some a → a ∈ pRA pp) (TT : r_k_X9_doesFor) (hTT : TT = m_k_X9_doesFor pp rn rf an ch cg fb c1 c2 c3 c4 ac obi sc a1 a2) : Met l yX9_doesFor vs_k_X9_doesFor { frames := 4, cells := 0, slots := 0, locals := 91 } (va_Pc [.ref (X 20), .int a1, .int a2] (wq_P D ty td mi ((wW_k_X9_doesFor ty X pn rn tn en rf an ch cg fb mh ml ih lb ic cn c1 c2 c3 c4 ac obi sc) ++ pw ty pp) sz)) (va_Qi (fun (r : Int32) (u : va_W) => (r = TT ∧ (TT = 0 ∨ TT = 1) ∧ (u = ((wW_k_X9_doesFor ty X pn rn tn en rf an ch cg fb mh ml ih lb ic cn c1 c2 c3 c4 ac obi sc) ++ pw ty pp)))) (wq_B D (va_A ((wW_k_X9_doesFor ty X pn rn tn en rf an ch cg fb mh ml ih lb ic cn c1 c2 c3 c4 ac obi sc) ++ pw ty pp) sz)) (va_A ((wW_k_X9_doesFor ty X pn rn tn en rf an ch cg fb mh ml ih lb ic cn c1 c2 c3 c4 ac obi sc) ++ pw ty pp) sz)) 0 0 (va_A ((wW_k_X9_doesFor ty X pn rn tn en rf an ch cg fb mh ml ih lb ic cn c1 c2 c3 c4 ac obi sc) ++ pw ty pp) sz) := by
  refine Met.ofW (cc := cX9_doesFor) (maxL := 8) (ret := (some .boolean)) (by decide) rfl ?_
  intro p e s m args below meth c s₁ B hml hv
  obtain ⟨rfl, hsz, hP, hK, hD0, hE⟩ := hv
  have hx := B.exec
  have hb := B.bytes
  have hr := B.returns
  have hts := atoms_spec (ws := vs_k_X9_doesFor) B.pre
  have hown : s.vm.findClass RX9 = some m.cls := findClass_of_methodNamed B.named
  have hlocks := B.notSynchronized
  subst hsz
  have hD := hD0.self (sz := s.heap.size)
  generalize hAe : va_A ((wW_k_X9_doesFor ty X pn rn tn en rf an ch cg fb mh ml ih lb ic cn c1 c2 c3 c4 ac obi sc) ++ pw ty pp) s.heap.size = A at hD hE ⊢
  have hA : ∀ q : Nat, s.heap.size ≤ q → A q := fun q h => by rw [← hAe]; exact Or.inr h
  have hS : va_S A s.heap s.heap [] := va_S.rf
  have hP : va_P D vwCl ((wW_k_X9_doesFor ty X pn rn tn en rf an ch cg fb mh ml ih lb ic cn c1 c2 c3 c4 ac obi sc) ++ pw ty pp) s.heap := hP
  have hl := lv_entry ([.ref (X 20), .int a1, .int a2]) (n := 8) (Nat.le_of_ble_eq_true rfl)
  rw [lg_entry_eq]
  generalize (lg_sl ([.ref (X 20), .int a1, .int a2]) ++ List.replicate (8 - (lg_sl ([.ref (X 20), .int a1, .int a2])).length) Slot.unset).toArray = ls at hl ⊢
  have hl : lv_has ls 8 [(0, .ref (X 20)), (1, .int a1), (2, .int a2)] := hl
  have END : ∀ (r : Int32), TT = r → (r = 0 ∨ r = 1) → ∀ (H : Heap) (locs : List Loc), va_P D vwCl ((wW_k_X9_doesFor ty X pn rn tn en rf an ch cg fb mh ml ih lb ic cn c1 c2 c3 c4 ac obi sc) ++ pw ty pp) H → va_D A ((wW_k_X9_doesFor ty X pn rn tn en rf an ch cg fb mh ml ih lb ic cn c1 c2 c3 c4 ac obi sc) ++ pw ty pp) → va_S A s.heap H locs → ∀ (ls : Array Slot) (pc : Nat), decode cX9_doesFor pc = .ok (.ireturn, 1) → W p l e (headSpec vs_k_X9_doesFor { frames := 4, cells := 0, slots := 0, locals := 91 }).room s m ([.ref (X 20), .int a1, .int a2] : List Value).toArray below meth c H locs 0 0 (MQ below (va_Qi (fun (r : Int32) (u : va_W) => (r = TT ∧ (TT = 0 ∨ TT = 1) ∧ (u = ((wW_k_X9_doesFor ty X pn rn tn en rf an ch cg fb mh ml ih lb ic cn c1 c2 c3 c4 ac obi sc) ++ pw ty pp)))) (wq_B D A) A) ([.ref (X 20), .int a1, .int a2] : List Value).toArray s 0 0 A) (F0 m pc ls [.int r]) := by
    intro r hT hb01 H locs hP hD hS ls pc hd
    have hM : TT = r := hT
    exact W.zret (v := r) hx hb hr (wz_nar hb01) (fun t ht hW => ⟨⟨r, ((wW_k_X9_doesFor ty X pn rn tn en rf an ch cg fb mh ml ih lb ic cn c1 c2 c3 c4 ac obi sc) ++ pw ty pp), rfl, ⟨(by rw [hM]), (by rw [hM]; exact hb01), rfl⟩, wq_B.of ht hP hD⟩, hS.F ht⟩) hS.2.2 hd
  have hT := hTT
  rw [m_k_X9_doesFor] at hT
  refine lv_iload_n hx hb dX9_doesFor_0 rfl (lv_at hl 2 rfl) ?_
  refine lv_aload_n hx hb dX9_doesFor_1 rfl (lv_at hl 0 rfl) ?_
  refine va_get (D := D) (ci := 11) (v := .int fb) (C := RX9) (T := TX9) (N := 17) hx hb hts iv_k_X9_doesFor_X9 hown hK hP 2 rfl rfl 11 (by decide) (hts (.fieldLink RX9 75 "AnswerFold$Solver" "freeBits" "I") (by decide +kernel)) (fun _ h9 => h9) rfl dX9_doesFor_2 ?_
  refine lv_iand hx hb dX9_doesFor_5 ?_
  refine lv_iload_n hx hb dX9_doesFor_6 rfl (lv_at hl 1 rfl) ?_
  refine lv_iconst (v := (-1)) hx hb dX9_doesFor_7 (by decide) ?_
  refine lv_ixor hx hb dX9_doesFor_8 ?_
  refine lv_iand hx hb dX9_doesFor_9 ?_
  refine lv_if_eq (tgt := 15) hx hb dX9_doesFor_10 (by decide) (fun c_1 => ?_) (fun c_1 => ?_)
  · rw [if_pos c_1] at hT
    refine lv_aload_n hx hb dX9_doesFor_15 rfl (lv_at hl 0 rfl) ?_
    refine lv_iload_n hx hb dX9_doesFor_16 rfl (lv_at hl 1 rfl) ?_
    obtain ⟨t_17, ht_17⟩ : ∃ t, t = m_k_X9_countsHeld pp rn rf cg obi sc a1 := ⟨_, rfl⟩
    rw [lE_eq ht_17] at hT
    refine wq_iPW (wc := (wW_k_X9_countsHeld ty X pn rn tn en rf an ch cg fb mh ml ih lb ic obi sc)) (pl := pw ty pp) (ux := (wW_k_X9_countsHeld ty X pn rn tn en rf an ch cg fb mh ml ih lb ic obi sc)) (va_runV (As := [.int a1]) (rest := []) ⟨hx, hb, hml, hown, hts⟩ (k_X9_countsHeld l D ty td mi s.heap.size pp X pn rn tn en rf an ch cg fb mh ml ih lb ic obi sc a1 hok hru t_17 ht_17) (cwV 1 hts gv_k_X9_doesFor_0 rfl rfl rfl (by decide +kernel) ⟨(Nat.le_of_ble_eq_true rfl), (Nat.le_of_ble_eq_true rfl)⟩) (wm_V (wm_preSP hP hD hK hE hS hA [true, true, true, false, false, false, false, false, false, true, true] rfl) (va_recv (q0 := 2) (ci := 11) hK hP rfl rfl)) rfl rfl hl.1 rfl (lv_room (Nat.le_of_ble_eq_true rfl)) dX9_doesFor_17 ⟨(Nat.le_of_ble_eq_true rfl), (Nat.le_of_ble_eq_true rfl)⟩) hS hA hP hD [true, true, true, false, false, false, false, false, false, true, true] rfl rfl (fun _ _ h => h.2) (fun r H locs hw hP hD hS => ?_)
    obtain ⟨hr0, -⟩ := hw
    subst r
    have hP : va_P D vwCl ((wW_k_X9_doesFor ty X pn rn tn en rf an ch cg fb mh ml ih lb ic cn c1 c2 c3 c4 ac obi sc) ++ pw ty pp) H := hP
    have hD : va_D A ((wW_k_X9_doesFor ty X pn rn tn en rf an ch cg fb mh ml ih lb ic cn c1 c2 c3 c4 ac obi sc) ++ pw ty pp) := hD
    refine W.widen (k := 0) (n := 0) (Nat.le_of_ble_eq_true rfl) (Nat.le_of_ble_eq_true rfl) ?_
    refine lv_istore_n (lv' := [(3, .int t_17), (0, .ref (X 20)), (1, .int a1), (2, .int a2)]) hx hb dX9_doesFor_20 rfl hl (by decide) rfl (fun ls hl => ?_)
    refine lv_iconst (v := 0) hx hb dX9_doesFor_21 (by decide) ?_
    refine lv_istore (lv' := [(4, .int 0), (3, .int t_17), (0, .ref (X 20)), (1, .int a1), (2, .int a2)]) hx hb dX9_doesFor_22 hl (by decide) rfl (fun ls hl => ?_)
    have L_24 : ∀ (n_24 : Nat) (v4_24 : Int32), (2147483648 - v4_24.toInt).toNat < n_24 → TT = m_k_X9_doesFor_24 an ch c1 c2 c3 c4 ac a1 a2 t_17 n_24 v4_24 → 0 ≤ v4_24.toInt → ∀ (H : Heap) (locs : List Loc), va_P D vwCl ((wW_k_X9_doesFor ty X pn rn tn en rf an ch cg fb mh ml ih lb ic cn c1 c2 c3 c4 ac obi sc) ++ pw ty pp) H → va_D A ((wW_k_X9_doesFor ty X pn rn tn en rf an ch cg fb mh ml ih lb ic cn c1 c2 c3 c4 ac obi sc) ++ pw ty pp) → va_S A s.heap H locs → ∀ ls : Array Slot, lv_has ls 8 [(0, .ref (X 20)), (1, .int a1), (2, .int a2), (3, .int t_17), (4, .int v4_24)] → W p l e (headSpec vs_k_X9_doesFor { frames := 4, cells := 0, slots := 0, locals := 91 }).room s m ([.ref (X 20), .int a1, .int a2] : List Value).toArray below meth c H locs 0 0 (MQ below (va_Qi (fun (r : Int32) (u : va_W) => (r = TT ∧ (TT = 0 ∨ TT = 1) ∧ (u = ((wW_k_X9_doesFor ty X pn rn tn en rf an ch cg fb mh ml ih lb ic cn c1 c2 c3 c4 ac obi sc) ++ pw ty pp)))) (wq_B D A) A) ([.ref (X 20), .int a1, .int a2] : List Value).toArray s 0 0 A) (F0 m 24 ls []) := by
      intro n_24
      induction n_24 with
      | zero => intro v4_24 hu; exact absurd hu (Nat.not_lt_zero _)
      | succ n_24 ih_24 =>
        intro v4_24 hu_24 hT hn_24 H locs hP hD hS ls hl
        rw [m_k_X9_doesFor_24_succ, m_k_X9_doesFor_24s] at hT
        refine lv_iload hx hb dX9_doesFor_24 (lv_at hl 4 rfl) ?_
        refine lv_aload_n hx hb dX9_doesFor_26 rfl (lv_at hl 0 rfl) ?_
        refine va_get (D := D) (ci := 11) (v := .int an) (C := RX9) (T := TX9) (N := 17) hx hb hts iv_k_X9_doesFor_X9 hown hK hP 2 rfl rfl 5 (by decide) (hts (.fieldLink RX9 276 "AnswerFold$Solver" "activeCount" "I") (by decide +kernel)) (fun _ h9 => h9) rfl dX9_doesFor_27 ?_
        refine lv_icmp_ge (tgt := 130) hx hb dX9_doesFor_30 (by decide) (fun c_4 => ?_) (fun c_4 => ?_)
        · rw [if_pos c_4] at hT
          refine lv_iconst (v := 1) hx hb dX9_doesFor_130 (by decide) ?_
          exact END 1 hT (by decide) _ _ hP hD hS _ _ dX9_doesFor_131
        · rw [if_neg c_4] at hT
          refine lv_iload hx hb dX9_doesFor_33 (lv_at hl 4 rfl) ?_
          refine lv_sipush (v := 300) hx hb dX9_doesFor_35 (by decide) ?_
          refine lv_icmp_ge (tgt := 130) hx hb dX9_doesFor_38 (by decide) (fun c_5 => ?_) (fun c_5 => ?_)
          · rw [if_pos c_5] at hT
            refine lv_iconst (v := 1) hx hb dX9_doesFor_130 (by decide) ?_
            exact END 1 hT (by decide) _ _ hP hD hS _ _ dX9_doesFor_131
          · rw [if_neg c_5] at hT
            refine lv_aload_n hx hb dX9_doesFor_41 rfl (lv_at hl 0 rfl) ?_
            refine va_get (D := D) (ci := 11) (v := .ref (X 35)) (C := RX9) (T := TX9) (N := 17) hx hb hts iv_k_X9_doesFor_X9 hown hK hP 2 rfl rfl 4 (by decide) (hts (.fieldLink RX9 21 "AnswerFold$Solver" "active" "[I") (by decide +kernel)) (fun _ h9 => h9) rfl dX9_doesFor_42 ?_
            refine lv_iload hx hb dX9_doesFor_45 (lv_at hl 4 rfl) ?_
            refine va_iald (D := D) hx hb hK hP 8 0 rfl rfl (wi_in hn_24 (wi_hi c_5 (by decide))) dX9_doesFor_47 ?_
            refine lv_istore (lv' := [(5, .int (ac v4_24.toNatClampNeg)), (0, .ref (X 20)), (1, .int a1), (2, .int a2), (3, .int t_17), (4, .int v4_24)]) hx hb dX9_doesFor_48 hl (by decide) rfl (fun ls hl => ?_)
            refine lv_aload_n hx hb dX9_doesFor_50 rfl (lv_at hl 1 rfl) ?_
            refine va_get (D := D) (ci := 11) (v := .ref (X 21)) (C := RX9) (T := TX9) (N := 17) hx hb hts iv_k_X9_doesFor_X9 hown hK hP 2 rfl rfl 2 (by decide) (hts (.fieldLink RX9 12 "AnswerFold$Solver" "checks" "LAnswerFold$Rows;") (by decide +kernel)) (fun _ h9 => h9) rfl dX9_doesFor_51 ?_
            refine lv_iload hx hb dX9_doesFor_54 (lv_at hl 0 rfl) ?_
            obtain ⟨t_56, ht_56⟩ : ∃ t, t = m_k_X7_headsAt c4 (ac v4_24.toNatClampNeg) := ⟨_, rfl⟩
            rw [lE_eq ht_56] at hT
            refine wq_iQW (wc := (wW_k_X7_headsAt ty (X 21) (X 22) (X 23) (X 24) (X 25) (X 26) (X 27) cn c4)) (pl := pw ty pp) (va_runV (As := [.int (ac v4_24.toNatClampNeg)]) (rest := []) ⟨hx, hb, hml, hown, hts⟩ (k_X7_headsAt l D ty td mi H.size (X 21) (X 22) (X 23) (X 24) (X 25) (X 26) (X 27) cn c4 (ac v4_24.toNatClampNeg) t_56 ht_56) (cwV 1 hts gv_k_X9_doesFor_1 rfl rfl rfl (by decide +kernel) ⟨(Nat.le_of_ble_eq_true rfl), (Nat.le_of_ble_eq_true rfl)⟩) (wm_V (wm_preS (vP_left hP) (vD_left hD) hK hE hS hA [false, false, false, true, false, false, false, true] rfl) (va_recv (q0 := 3) (ci := 9) hK hP rfl rfl)) rfl rfl hl.1 rfl (lv_room (Nat.le_of_ble_eq_true rfl)) dX9_doesFor_56 ⟨(Nat.le_of_ble_eq_true rfl), (Nat.le_of_ble_eq_true rfl)⟩) hS hA hP hD [false, false, false, true, false, false, false, true] rfl (fun _ _ h => by rcases h with ⟨-, rfl⟩; rfl) (fun r u H locs hw hP hD hS => ?_)
            obtain ⟨hr0, rfl⟩ := hw
            subst r
            have hP : va_P D vwCl ((wW_k_X9_doesFor ty X pn rn tn en rf an ch cg fb mh ml ih lb ic cn c1 c2 c3 c4 ac obi sc) ++ pw ty pp) H := hP
            have hD : va_D A ((wW_k_X9_doesFor ty X pn rn tn en rf an ch cg fb mh ml ih lb ic cn c1 c2 c3 c4 ac obi sc) ++ pw ty pp) := hD
            refine W.widen (k := 0) (n := 0) (Nat.le_of_ble_eq_true rfl) (Nat.le_of_ble_eq_true rfl) ?_
            refine lv_iload_n hx hb dX9_doesFor_59 rfl (lv_at hl 3 rfl) ?_
            refine lv_iand hx hb dX9_doesFor_60 ?_
            refine lv_istore (lv' := [(6, .int (t_56 &&& a2)), (5, .int (ac v4_24.toNatClampNeg)), (0, .ref (X 20)), (1, .int a1), (2, .int a2), (3, .int t_17), (4, .int v4_24)]) hx hb dX9_doesFor_61 hl (by decide) rfl (fun ls hl => ?_)
            refine lv_aload_n hx hb dX9_doesFor_63 rfl (lv_at hl 2 rfl) ?_
            refine lv_iload hx hb dX9_doesFor_64 (lv_at hl 1 rfl) ?_
            obtain ⟨t_66, ht_66⟩ : ∃ t, t = m_k_X9_isChoice ch c1 (ac v4_24.toNatClampNeg) := ⟨_, rfl⟩
            rw [lE_eq ht_66] at hT
            refine wq_iQW (wc := (wW_k_X9_isChoice ty X an ch cg fb mh ml ih lb ic cn c1)) (pl := pw ty pp) (va_runV (As := [.int (ac v4_24.toNatClampNeg)]) (rest := []) ⟨hx, hb, hml, hown, hts⟩ (k_X9_isChoice l D ty td mi H.size X an ch cg fb mh ml ih lb ic cn c1 (ac v4_24.toNatClampNeg) t_66 ht_66) (cwV 1 hts gv_k_X9_doesFor_2 rfl rfl rfl (by decide +kernel) ⟨(Nat.le_of_ble_eq_true rfl), (Nat.le_of_ble_eq_true rfl)⟩) (wm_V (wm_preS (vP_left hP) (vD_left hD) hK hE hS hA [false, false, true, true, true] rfl) (va_recv (q0 := 2) (ci := 11) hK hP rfl rfl)) rfl rfl hl.1 rfl (lv_room (Nat.le_of_ble_eq_true rfl)) dX9_doesFor_66 ⟨(Nat.le_of_ble_eq_true rfl), (Nat.le_of_ble_eq_true rfl)⟩) hS hA hP hD [false, false, true, true, true] rfl (fun _ _ h => by rcases h with ⟨-, -, rfl⟩; rfl) (fun r u H locs hw hP hD hS => ?_)
            obtain ⟨hr0, c_10, rfl⟩ := hw
            subst r
            have hP : va_P D vwCl ((wW_k_X9_doesFor ty X pn rn tn en rf an ch cg fb mh ml ih lb ic cn c1 c2 c3 c4 ac obi sc) ++ pw ty pp) H := hP
            have hD : va_D A ((wW_k_X9_doesFor ty X pn rn tn en rf an ch cg fb mh ml ih lb ic cn c1 c2 c3 c4 ac obi sc) ++ pw ty pp) := hD
            refine W.widen (k := 0) (n := 0) (Nat.le_of_ble_eq_true rfl) (Nat.le_of_ble_eq_true rfl) ?_
            have J_101 : ∀ (s0_101 : Int32), TT = m_k_X9_doesFor_101 c1 c2 c3 ac a1 (m_k_X9_doesFor_24 an ch c1 c2 c3 c4 ac a1 a2 t_17 n_24) t_17 v4_24 s0_101 → s0_101 = 0 ∨ s0_101 = 1 → ∀ (H : Heap) (locs : List Loc), va_P D vwCl ((wW_k_X9_doesFor ty X pn rn tn en rf an ch cg fb mh ml ih lb ic cn c1 c2 c3 c4 ac obi sc) ++ pw ty pp) H → va_D A ((wW_k_X9_doesFor ty X pn rn tn en rf an ch cg fb mh ml ih lb ic cn c1 c2 c3 c4 ac obi sc) ++ pw ty pp) → va_S A s.heap H locs → ∀ ls : Array Slot, lv_has ls 8 [(0, .ref (X 20)), (1, .int a1), (2, .int a2), (3, .int t_17), (4, .int v4_24), (5, .int (ac v4_24.toNatClampNeg))] → W p l e (headSpec vs_k_X9_doesFor { frames := 4, cells := 0, slots := 0, locals := 91 }).room s m ([.ref (X 20), .int a1, .int a2] : List Value).toArray below meth c H locs 0 0 (MQ below (va_Qi (fun (r : Int32) (u : va_W) => (r = TT ∧ (TT = 0 ∨ TT = 1) ∧ (u = ((wW_k_X9_doesFor ty X pn rn tn en rf an ch cg fb mh ml ih lb ic cn c1 c2 c3 c4 ac obi sc) ++ pw ty pp)))) (wq_B D A) A) ([.ref (X 20), .int a1, .int a2] : List Value).toArray s 0 0 A) (F0 m 101 ls [.int s0_101]) := by
              intro s0_101 hT hb_s0_101 H locs hP hD hS ls hl
              rw [m_k_X9_doesFor_101] at hT
              refine lv_istore (lv' := [(7, .int s0_101), (0, .ref (X 20)), (1, .int a1), (2, .int a2), (3, .int t_17), (4, .int v4_24), (5, .int (ac v4_24.toNatClampNeg))]) hx hb dX9_doesFor_101 hl (by decide) rfl (fun ls hl => ?_)
              refine lv_iload hx hb dX9_doesFor_103 (lv_at hl 0 rfl) ?_
              have J_124 : ∀ (_ : Unit), TT = m_k_X9_doesFor_124 (m_k_X9_doesFor_24 an ch c1 c2 c3 c4 ac a1 a2 t_17 n_24) v4_24 → ∀ (H : Heap) (locs : List Loc), va_P D vwCl ((wW_k_X9_doesFor ty X pn rn tn en rf an ch cg fb mh ml ih lb ic cn c1 c2 c3 c4 ac obi sc) ++ pw ty pp) H → va_D A ((wW_k_X9_doesFor ty X pn rn tn en rf an ch cg fb mh ml ih lb ic cn c1 c2 c3 c4 ac obi sc) ++ pw ty pp) → va_S A s.heap H locs → ∀ ls : Array Slot, lv_has ls 8 [(0, .ref (X 20)), (1, .int a1), (2, .int a2), (3, .int t_17), (4, .int v4_24)] → W p l e (headSpec vs_k_X9_doesFor { frames := 4, cells := 0, slots := 0, locals := 91 }).room s m ([.ref (X 20), .int a1, .int a2] : List Value).toArray below meth c H locs 0 0 (MQ below (va_Qi (fun (r : Int32) (u : va_W) => (r = TT ∧ (TT = 0 ∨ TT = 1) ∧ (u = ((wW_k_X9_doesFor ty X pn rn tn en rf an ch cg fb mh ml ih lb ic cn c1 c2 c3 c4 ac obi sc) ++ pw ty pp)))) (wq_B D A) A) ([.ref (X 20), .int a1, .int a2] : List Value).toArray s 0 0 A) (F0 m 124 ls []) := by
                intro _ hT  H locs hP hD hS ls hl
                rw [m_k_X9_doesFor_124] at hT
                refine lv_iinc (v := v4_24 + 1) (lv' := [(4, .int (v4_24 + 1)), (0, .ref (X 20)), (1, .int a1), (2, .int a2), (3, .int t_17)]) hx hb dX9_doesFor_124 hl (k := 4) rfl (by rfl) (by decide) rfl (fun ls hl => ?_)
                refine lv_goto (tgt := 24) hx hb dX9_doesFor_127 (by decide) ?_
                exact ih_24 (v4_24 + 1) (wi_up hu_24 (Int32.not_le.mp c_4)) hT (wi_inc hn_24 (Int32.not_le.mp c_4)) _ _ hP hD hS _ (lv_sub hl [1, 2, 3, 4, 0] rfl)
              refine lv_if_ne (tgt := 124) hx hb dX9_doesFor_105 (by decide) (fun c_11 => ?_) (fun c_11 => ?_)
              · rw [if_neg c_11] at hT
                exact J_124 () hT _ _ hP hD hS _ (lv_sub hl [1, 2, 3, 4, 5] rfl)
              · rw [if_pos c_11] at hT
                refine lv_aload_n hx hb dX9_doesFor_108 rfl (lv_at hl 1 rfl) ?_
                refine va_get (D := D) (ci := 11) (v := .ref (X 21)) (C := RX9) (T := TX9) (N := 17) hx hb hts iv_k_X9_doesFor_X9 hown hK hP 2 rfl rfl 2 (by decide) (hts (.fieldLink RX9 12 "AnswerFold$Solver" "checks" "LAnswerFold$Rows;") (by decide +kernel)) (fun _ h9 => h9) rfl dX9_doesFor_109 ?_
                refine lv_iload hx hb dX9_doesFor_112 (lv_at hl 6 rfl) ?_
                refine lv_iload_n hx hb dX9_doesFor_114 rfl (lv_at hl 2 rfl) ?_
                refine lv_iload_n hx hb dX9_doesFor_115 rfl (lv_at hl 4 rfl) ?_
                obtain ⟨t_116, ht_116⟩ : ∃ t, t = m_k_X7_bodyHolds c1 c2 c3 (ac v4_24.toNatClampNeg) a1 t_17 := ⟨_, rfl⟩
                rw [lE_eq ht_116] at hT
                refine wq_iQW (wc := (wW_k_X7_bodyHolds ty (X 21) (X 22) (X 23) (X 24) (X 25) (X 26) (X 27) cn c1 c2 c3)) (pl := pw ty pp) (va_runV (As := [.int (ac v4_24.toNatClampNeg), .int a1, .int t_17]) (rest := []) ⟨hx, hb, hml, hown, hts⟩ (k_X7_bodyHolds l D ty td mi H.size (X 21) (X 22) (X 23) (X 24) (X 25) (X 26) (X 27) cn c1 c2 c3 (ac v4_24.toNatClampNeg) a1 t_17 t_116 ht_116) (cwV 3 hts gv_k_X9_doesFor_3 rfl rfl rfl (by decide +kernel) ⟨(Nat.le_of_ble_eq_true rfl), (Nat.le_of_ble_eq_true rfl)⟩) (wm_V (wm_preS (vP_left hP) (vD_left hD) hK hE hS hA [false, false, false, true, true, true, true] rfl) (va_recv (q0 := 3) (ci := 9) hK hP rfl rfl)) rfl rfl hl.1 rfl (lv_room (Nat.le_of_ble_eq_true rfl)) dX9_doesFor_116 ⟨(Nat.le_of_ble_eq_true rfl), (Nat.le_of_ble_eq_true rfl)⟩) hS hA hP hD [false, false, false, true, true, true, true] rfl (fun _ _ h => by rcases h with ⟨-, -, rfl⟩; rfl) (fun r u H locs hw hP hD hS => ?_)
                obtain ⟨hr0, c_14, rfl⟩ := hw
                subst r
                have hP : va_P D vwCl ((wW_k_X9_doesFor ty X pn rn tn en rf an ch cg fb mh ml ih lb ic cn c1 c2 c3 c4 ac obi sc) ++ pw ty pp) H := hP
                have hD : va_D A ((wW_k_X9_doesFor ty X pn rn tn en rf an ch cg fb mh ml ih lb ic cn c1 c2 c3 c4 ac obi sc) ++ pw ty pp) := hD
                refine W.widen (k := 0) (n := 0) (Nat.le_of_ble_eq_true rfl) (Nat.le_of_ble_eq_true rfl) ?_
                refine lv_if_eq (tgt := 124) hx hb dX9_doesFor_119 (by decide) (fun c_15 => ?_) (fun c_15 => ?_)
                · rw [if_pos c_15] at hT
                  exact J_124 () hT _ _ hP hD hS _ (lv_sub hl [1, 2, 3, 4, 5] rfl)
                · rw [if_neg c_15] at hT
                  refine lv_iconst (v := 0) hx hb dX9_doesFor_122 (by decide) ?_
                  exact END 0 hT (by decide) _ _ hP hD hS _ _ dX9_doesFor_123
            refine lv_if_eq (tgt := 89) hx hb dX9_doesFor_69 (by decide) (fun c_16 => ?_) (fun c_16 => ?_)
            · rw [if_pos c_16] at hT
              refine lv_iload hx hb dX9_doesFor_89 (lv_at hl 0 rfl) ?_
              refine lv_iload_n hx hb dX9_doesFor_91 rfl (lv_at hl 3 rfl) ?_
              refine lv_iand hx hb dX9_doesFor_92 ?_
              refine lv_if_eq (tgt := 100) hx hb dX9_doesFor_93 (by decide) (fun c_17 => ?_) (fun c_17 => ?_)
              · rw [if_pos c_17] at hT
                refine lv_iconst (v := 0) hx hb dX9_doesFor_100 (by decide) ?_
                exact J_101 0 hT (by decide) _ _ hP hD hS _ (lv_sub hl [2, 3, 4, 5, 6, 1] rfl)
              · rw [if_neg c_17] at hT
                refine lv_iconst (v := 1) hx hb dX9_doesFor_96 (by decide) ?_
                refine lv_goto (tgt := 101) hx hb dX9_doesFor_97 (by decide) ?_
                exact J_101 1 hT (by decide) _ _ hP hD hS _ (lv_sub hl [2, 3, 4, 5, 6, 1] rfl)
            · rw [if_neg c_16] at hT
              refine lv_iload hx hb dX9_doesFor_72 (lv_at hl 0 rfl) ?_
              refine lv_iload_n hx hb dX9_doesFor_74 rfl (lv_at hl 3 rfl) ?_
              refine lv_iconst (v := (-1)) hx hb dX9_doesFor_75 (by decide) ?_
              refine lv_ixor hx hb dX9_doesFor_76 ?_
              refine lv_iand hx hb dX9_doesFor_77 ?_
              refine lv_if_ne (tgt := 85) hx hb dX9_doesFor_78 (by decide) (fun c_18 => ?_) (fun c_18 => ?_)
              · rw [if_neg c_18] at hT
                refine lv_iconst (v := 0) hx hb dX9_doesFor_85 (by decide) ?_
                refine lv_goto (tgt := 101) hx hb dX9_doesFor_86 (by decide) ?_
                exact J_101 0 hT (by decide) _ _ hP hD hS _ (lv_sub hl [2, 3, 4, 5, 6, 1] rfl)
              · rw [if_pos c_18] at hT
                refine lv_iconst (v := 1) hx hb dX9_doesFor_81 (by decide) ?_
                refine lv_goto (tgt := 101) hx hb dX9_doesFor_82 (by decide) ?_
                exact J_101 1 hT (by decide) _ _ hP hD hS _ (lv_sub hl [2, 3, 4, 5, 6, 1] rfl)
    exact L_24 wF 0 (wF_up 0) hT (by decide) _ _ hP hD hS _ (lv_sub hl [2, 3, 4, 1, 0] rfl)
  · rw [if_neg c_1] at hT
    refine lv_iconst (v := 0) hx hb dX9_doesFor_13 (by decide) ?_
    exact END 0 hT (by decide) _ _ hP hD hS _ _ dX9_doesFor_14
theorem dX9_hasSmallerByAll_0 : decode cX9_hasSmallerByAll 0 = .ok (.aload_n 0, 1) := by decide +kernel
theorem dX9_hasSmallerByAll_1 : decode cX9_hasSmallerByAll 1 = .ok (.iload_n 1, 1) := by decide +kernel
theorem dX9_hasSmallerByAll_2 : decode cX9_hasSmallerByAll 2 = .ok (.invokevirtual 266, 3) := by decide +kernel
theorem dX9_hasSmallerByAll_5 : decode cX9_hasSmallerByAll 5 = .ok (.iconst 0, 1) := by decide +kernel
theorem dX9_hasSmallerByAll_6 : decode cX9_hasSmallerByAll 6 = .ok (.istore_n 2, 1) := by decide +kernel
theorem dX9_hasSmallerByAll_7 : decode cX9_hasSmallerByAll 7 = .ok (.iload_n 2, 1) := by decide +kernel
theorem dX9_hasSmallerByAll_8 : decode cX9_hasSmallerByAll 8 = .ok (.iload_n 1, 1) := by decide +kernel
theorem dX9_hasSmallerByAll_9 : decode cX9_hasSmallerByAll 9 = .ok (.if_icmp .ge 28, 3) := by decide +kernel
theorem dX9_hasSmallerByAll_12 : decode cX9_hasSmallerByAll 12 = .ok (.iload_n 2, 1) := by decide +kernel
theorem dX9_hasSmallerByAll_13 : decode cX9_hasSmallerByAll 13 = .ok (.iload_n 1, 1) := by decide +kernel
theorem dX9_hasSmallerByAll_14 : decode cX9_hasSmallerByAll 14 = .ok (.iconst (-1), 1) := by decide +kernel
theorem dX9_hasSmallerByAll_15 : decode cX9_hasSmallerByAll 15 = .ok (.ixor, 1) := by decide +kernel
theorem dX9_hasSmallerByAll_16 : decode cX9_hasSmallerByAll 16 = .ok (.iand, 1) := by decide +kernel
theorem dX9_hasSmallerByAll_17 : decode cX9_hasSmallerByAll 17 = .ok (.ifCond .ne 14, 3) := by decide +kernel
theorem dX9_hasSmallerByAll_20 : decode cX9_hasSmallerByAll 20 = .ok (.aload_n 0, 1) := by decide +kernel
theorem dX9_hasSmallerByAll_21 : decode cX9_hasSmallerByAll 21 = .ok (.iload_n 2, 1) := by decide +kernel
theorem dX9_hasSmallerByAll_22 : decode cX9_hasSmallerByAll 22 = .ok (.iload_n 1, 1) := by decide +kernel
theorem dX9_hasSmallerByAll_23 : decode cX9_hasSmallerByAll 23 = .ok (.invokevirtual 290, 3) := by decide +kernel
theorem dX9_hasSmallerByAll_26 : decode cX9_hasSmallerByAll 26 = .ok (.ifCond .eq 5, 3) := by decide +kernel
theorem dX9_hasSmallerByAll_29 : decode cX9_hasSmallerByAll 29 = .ok (.iconst 1, 1) := by decide +kernel
theorem dX9_hasSmallerByAll_30 : decode cX9_hasSmallerByAll 30 = .ok (.ireturn, 1) := by decide +kernel
theorem dX9_hasSmallerByAll_31 : decode cX9_hasSmallerByAll 31 = .ok (.iinc 2 1, 3) := by decide +kernel
theorem dX9_hasSmallerByAll_34 : decode cX9_hasSmallerByAll 34 = .ok (.goto (-27), 3) := by decide +kernel
theorem dX9_hasSmallerByAll_37 : decode cX9_hasSmallerByAll 37 = .ok (.iconst 0, 1) := by decide +kernel
theorem dX9_hasSmallerByAll_38 : decode cX9_hasSmallerByAll 38 = .ok (.ireturn, 1) := by decide +kernel
def wW_k_X9_hasSmallerByAll (ty : Nat → ClassId) (X : Nat → Nat) (z9_0 : Int32) (z9_1 : Int32) (z9_2 : Int32) (z9_3 : Int32) (z9_4 : Nat → Option Nat) (z9_5 : Int32) (z9_6 : Int32) (z9_7 : Int32) (z9_8 : Int32) (z9_9 : Int32) (z9_10 : Int32) (z9_11 : Int32) (z9_12 : Int32) (z9_13 : Int32) (z9_14 : Int32) (z9_15 : Nat → Int32) (z9_16 : Nat → Int32) (z9_17 : Nat → Int32) (z9_18 : Nat → Int32) (z9_19 : Nat → Int32) (z9_20 : Nat → Int32) (z9_21 : Nat → Int32) : va_W := [((X 1), .inr (8, [.ref (X 2), .int z9_0, .ref (X 3), .int z9_1, .ref (X 4), .ref (X 5), .int z9_2, .ref (X 6), .ref (X 7), .int z9_3])), ((X 3), .inl (ty 4, 20, .inr (.inr (.inr (.inr z9_4))))), ((X 20), .inr (11, [.ref (X 1), .ref (X 8), .ref (X 21), .ref (X 28), .ref (X 35), .int z9_5, .ref (X 36), .ref (X 37), .ref (X 38), .int z9_6, .int z9_7, .int z9_8, .int z9_9, .int z9_10, .int z9_11, .int z9_12, .int z9_13])), ((X 21), .inr (9, [.ref (X 22), .ref (X 23), .ref (X 24), .ref (X 25), .ref (X 26), .ref (X 27), .int z9_14])), ((X 22), .inl (ty 0, 300, .inl z9_15)), ((X 23), .inl (ty 0, 300, .inl z9_16)), ((X 24), .inl (ty 0, 300, .inl z9_17)), ((X 25), .inl (ty 0, 300, .inl z9_18)), ((X 35), .inl (ty 0, 300, .inl z9_19)), ((X 36), .inl (ty 0, 6, .inl z9_20)), ((X 37), .inl (ty 0, 6, .inl z9_21))]
def vs_k_X9_hasSmallerByAll : List Cond := .code yX9_hasSmallerByAll cX9_hasSmallerByAll 3 (some .boolean) :: ([.methodLink RX9 266 yX9_listActive, .instanceMethod yX9_listActive, .selects RX9 yX9_listActive yX9_listActive, .initialized RX9, .methodLink RX9 290 yX9_doesFor, .instanceMethod yX9_doesFor, .selects RX9 yX9_doesFor yX9_doesFor] ++ (vs_k_X9_listActive ++ (vs_k_X9_doesFor)))
set_option maxRecDepth 20000 in
theorem gv_k_X9_hasSmallerByAll_0 : GoodIn vs_k_X9_hasSmallerByAll (wsV RX9 266 RX9 yX9_listActive vs_k_X9_listActive) := goodIn_app (goodIn_sub (by decide +kernel) (by decide +kernel)) (goodIn_sub (fun _ h => List.mem_cons_of_mem _ (List.mem_append_right _ (List.mem_append_left _ h))) (by decide +kernel))
set_option maxRecDepth 20000 in
theorem gv_k_X9_hasSmallerByAll_1 : GoodIn vs_k_X9_hasSmallerByAll (wsV RX9 290 RX9 yX9_doesFor vs_k_X9_doesFor) := goodIn_app (goodIn_sub (by decide +kernel) (by decide +kernel)) (goodIn_sub (fun _ h => List.mem_cons_of_mem _ (List.mem_append_right _ (List.mem_append_right _ (h)))) (by decide +kernel))
set_option maxHeartbeats 4000000 in
set_option maxRecDepth 100000 in
theorem k_X9_hasSmallerByAll (l : Launch) (D : va_G) (ty : Nat → ClassId) (td mi sz : Nat) (pp : pT) (X : Nat → Nat) (pn : Int32) (rn : Int32) (tn : Int32) (en : Int32) (rf : Nat → Option Nat) (an : Int32) (ch : Int32) (cg : Int32) (fb : Int32) (mh : Int32) (ml : Int32) (ih : Int32) (lb : Int32) (ic : Int32) (cn : Int32) (c1 : Nat → Int32) (c2 : Nat → Int32) (c3 : Nat → Int32) (c4 : Nat → Int32) (ac : Nat → Int32) (obi : Nat → Int32) (sc : Nat → Int32) (a1 : Int32) (hok : pOK pp) (hru : ∀ (i a : Nat), rf i = some a → a ∈ pRA pp) (TT : r_k_X9_hasSmallerByAll) (hTT : TT = m_k_X9_hasSmallerByAll pp rn rf ch cg fb cn c1 c2 c3 c4 ac obi sc a1) : Met l yX9_hasSmallerByAll vs_k_X9_hasSmallerByAll { frames := 5, cells := 0, slots := 0, locals := 118 } (va_Pc [.ref (X 20), .int a1] (wq_P D ty td mi ((wW_k_X9_hasSmallerByAll ty X pn rn tn en rf an ch cg fb mh ml ih lb ic cn c1 c2 c3 c4 ac obi sc) ++ pw ty pp) sz)) (va_Qi (fun (r : Int32) (u : va_W) => (r = TT.1 ∧ (TT.1 = 0 ∨ TT.1 = 1) ∧ (u = ((wW_k_X9_hasSmallerByAll ty X pn rn tn en rf TT.2.1 ch cg fb mh ml ih lb ic cn c1 c2 c3 c4 TT.2.2 obi sc) ++ pw ty pp)))) (wq_B D (va_A ((wW_k_X9_hasSmallerByAll ty X pn rn tn en rf an ch cg fb mh ml ih lb ic cn c1 c2 c3 c4 ac obi sc) ++ pw ty pp) sz)) (va_A ((wW_k_X9_hasSmallerByAll ty X pn rn tn en rf an ch cg fb mh ml ih lb ic cn c1 c2 c3 c4 ac obi sc) ++ pw ty pp) sz)) 0 0 (va_A ((wW_k_X9_hasSmallerByAll ty X pn rn tn en rf an ch cg fb mh ml ih lb ic cn c1 c2 c3 c4 ac obi sc) ++ pw ty pp) sz) := by
  refine Met.ofW (cc := cX9_hasSmallerByAll) (maxL := 3) (ret := (some .boolean)) (by decide) rfl ?_
  intro p e s m args below meth c s₁ B hml hv
  obtain ⟨rfl, hsz, hP, hK, hD0, hE⟩ := hv
  have hx := B.exec
  have hb := B.bytes
  have hr := B.returns
  have hts := atoms_spec (ws := vs_k_X9_hasSmallerByAll) B.pre
  have hown : s.vm.findClass RX9 = some m.cls := findClass_of_methodNamed B.named
  have hlocks := B.notSynchronized
  subst hsz
  have hD := hD0.self (sz := s.heap.size)
  generalize hAe : va_A ((wW_k_X9_hasSmallerByAll ty X pn rn tn en rf an ch cg fb mh ml ih lb ic cn c1 c2 c3 c4 ac obi sc) ++ pw ty pp) s.heap.size = A at hD hE ⊢
  have hA : ∀ q : Nat, s.heap.size ≤ q → A q := fun q h => by rw [← hAe]; exact Or.inr h
  have hS : va_S A s.heap s.heap [] := va_S.rf
  have hP : va_P D vwCl ((wW_k_X9_hasSmallerByAll ty X pn rn tn en rf an ch cg fb mh ml ih lb ic cn c1 c2 c3 c4 ac obi sc) ++ pw ty pp) s.heap := hP
  have hl := lv_entry ([.ref (X 20), .int a1]) (n := 3) (Nat.le_of_ble_eq_true rfl)
  rw [lg_entry_eq]
  generalize (lg_sl ([.ref (X 20), .int a1]) ++ List.replicate (3 - (lg_sl ([.ref (X 20), .int a1])).length) Slot.unset).toArray = ls at hl ⊢
  have hl : lv_has ls 3 [(0, .ref (X 20)), (1, .int a1)] := hl
  have END : ∀ (r : Int32) (w9_0 : Int32) (w9_1 : Nat → Int32), TT = (r, w9_0, w9_1) → (r = 0 ∨ r = 1) → ∀ (H : Heap) (locs : List Loc), va_P D vwCl ((wW_k_X9_hasSmallerByAll ty X pn rn tn en rf w9_0 ch cg fb mh ml ih lb ic cn c1 c2 c3 c4 w9_1 obi sc) ++ pw ty pp) H → va_D A ((wW_k_X9_hasSmallerByAll ty X pn rn tn en rf w9_0 ch cg fb mh ml ih lb ic cn c1 c2 c3 c4 w9_1 obi sc) ++ pw ty pp) → va_S A s.heap H locs → ∀ (ls : Array Slot) (pc : Nat), decode cX9_hasSmallerByAll pc = .ok (.ireturn, 1) → W p l e (headSpec vs_k_X9_hasSmallerByAll { frames := 5, cells := 0, slots := 0, locals := 118 }).room s m ([.ref (X 20), .int a1] : List Value).toArray below meth c H locs 0 0 (MQ below (va_Qi (fun (r : Int32) (u : va_W) => (r = TT.1 ∧ (TT.1 = 0 ∨ TT.1 = 1) ∧ (u = ((wW_k_X9_hasSmallerByAll ty X pn rn tn en rf TT.2.1 ch cg fb mh ml ih lb ic cn c1 c2 c3 c4 TT.2.2 obi sc) ++ pw ty pp)))) (wq_B D A) A) ([.ref (X 20), .int a1] : List Value).toArray s 0 0 A) (F0 m pc ls [.int r]) := by
    intro r w9_0 w9_1 hT hb01 H locs hP hD hS ls pc hd
    have hM : TT = (r, w9_0, w9_1) := hT
    exact W.zret (v := r) hx hb hr (wz_nar hb01) (fun t ht hW => ⟨⟨r, ((wW_k_X9_hasSmallerByAll ty X pn rn tn en rf w9_0 ch cg fb mh ml ih lb ic cn c1 c2 c3 c4 w9_1 obi sc) ++ pw ty pp), rfl, ⟨(by rw [hM]), (by rw [hM]; exact hb01), (by rw [hM])⟩, wq_B.of ht hP hD⟩, hS.F ht⟩) hS.2.2 hd
  have hT := hTT
  rw [m_k_X9_hasSmallerByAll] at hT
  refine lv_aload_n hx hb dX9_hasSmallerByAll_0 rfl (lv_at hl 0 rfl) ?_
  refine lv_iload_n hx hb dX9_hasSmallerByAll_1 rfl (lv_at hl 1 rfl) ?_
  obtain ⟨t_2, ht_2⟩ : ∃ t, t = m_k_X9_listActive pp rn rf cg cn c1 c2 c3 c4 ac obi sc a1 := ⟨_, rfl⟩
  rw [lE_eq ht_2] at hT
  refine wq_vPW (wc := (wW_k_X9_listActive ty X pn rn tn en rf an ch cg fb mh ml ih lb ic cn c1 c2 c3 c4 ac obi sc)) (pl := pw ty pp) (ux := (wW_k_X9_listActive ty X pn rn tn en rf t_2.1 ch cg fb mh ml ih lb ic cn c1 c2 c3 c4 t_2.2 obi sc)) (va_runV (As := [.int a1]) (rest := []) ⟨hx, hb, hml, hown, hts⟩ (k_X9_listActive l D ty td mi s.heap.size pp X pn rn tn en rf an ch cg fb mh ml ih lb ic cn c1 c2 c3 c4 ac obi sc a1 hok hru t_2 ht_2) (cwV 1 hts gv_k_X9_hasSmallerByAll_0 rfl rfl rfl (by decide +kernel) ⟨(Nat.le_of_ble_eq_true rfl), (Nat.le_of_ble_eq_true rfl)⟩) (wm_V (wm_preSP hP hD hK hE hS hA [true, true, true, true, true, true, true, true, true, true, true] rfl) (va_recv (q0 := 2) (ci := 11) hK hP rfl rfl)) rfl rfl hl.1 rfl (lv_room (Nat.le_of_ble_eq_true rfl)) dX9_hasSmallerByAll_2 ⟨(Nat.le_of_ble_eq_true rfl), (Nat.le_of_ble_eq_true rfl)⟩) hS hA hP hD [true, true, true, true, true, true, true, true, true, true, true] rfl rfl (fun _ h => h) (fun  H locs hw hP hD hS => ?_)
  have hP : va_P D vwCl ((wW_k_X9_hasSmallerByAll ty X pn rn tn en rf t_2.1 ch cg fb mh ml ih lb ic cn c1 c2 c3 c4 t_2.2 obi sc) ++ pw ty pp) H := hP
  have hD : va_D A ((wW_k_X9_hasSmallerByAll ty X pn rn tn en rf t_2.1 ch cg fb mh ml ih lb ic cn c1 c2 c3 c4 t_2.2 obi sc) ++ pw ty pp) := hD
  refine W.widen (k := 0) (n := 0) (Nat.le_of_ble_eq_true rfl) (Nat.le_of_ble_eq_true rfl) ?_
  refine lv_iconst (v := 0) hx hb dX9_hasSmallerByAll_5 (by decide) ?_
  refine lv_istore_n (lv' := [(2, .int 0), (0, .ref (X 20)), (1, .int a1)]) hx hb dX9_hasSmallerByAll_6 rfl hl (by decide) rfl (fun ls hl => ?_)
  have L_7 : ∀ (n_7 : Nat) (v2_7 : Int32), (2147483648 - v2_7.toInt).toNat < n_7 → TT = m_k_X9_hasSmallerByAll_7 pp rn rf ch cg fb c1 c2 c3 c4 obi sc a1 t_2 n_7 v2_7 → 0 ≤ v2_7.toInt → ∀ (H : Heap) (locs : List Loc), va_P D vwCl ((wW_k_X9_hasSmallerByAll ty X pn rn tn en rf t_2.1 ch cg fb mh ml ih lb ic cn c1 c2 c3 c4 t_2.2 obi sc) ++ pw ty pp) H → va_D A ((wW_k_X9_hasSmallerByAll ty X pn rn tn en rf t_2.1 ch cg fb mh ml ih lb ic cn c1 c2 c3 c4 t_2.2 obi sc) ++ pw ty pp) → va_S A s.heap H locs → ∀ ls : Array Slot, lv_has ls 3 [(0, .ref (X 20)), (1, .int a1), (2, .int v2_7)] → W p l e (headSpec vs_k_X9_hasSmallerByAll { frames := 5, cells := 0, slots := 0, locals := 118 }).room s m ([.ref (X 20), .int a1] : List Value).toArray below meth c H locs 0 0 (MQ below (va_Qi (fun (r : Int32) (u : va_W) => (r = TT.1 ∧ (TT.1 = 0 ∨ TT.1 = 1) ∧ (u = ((wW_k_X9_hasSmallerByAll ty X pn rn tn en rf TT.2.1 ch cg fb mh ml ih lb ic cn c1 c2 c3 c4 TT.2.2 obi sc) ++ pw ty pp)))) (wq_B D A) A) ([.ref (X 20), .int a1] : List Value).toArray s 0 0 A) (F0 m 7 ls []) := by
    intro n_7
    induction n_7 with
    | zero => intro v2_7 hu; exact absurd hu (Nat.not_lt_zero _)
    | succ n_7 ih_7 =>
      intro v2_7 hu_7 hT hn_7 H locs hP hD hS ls hl
      rw [m_k_X9_hasSmallerByAll_7_succ, m_k_X9_hasSmallerByAll_7s] at hT
      refine lv_iload_n hx hb dX9_hasSmallerByAll_7 rfl (lv_at hl 2 rfl) ?_
      refine lv_iload_n hx hb dX9_hasSmallerByAll_8 rfl (lv_at hl 1 rfl) ?_
      refine lv_icmp_ge (tgt := 37) hx hb dX9_hasSmallerByAll_9 (by decide) (fun c_3 => ?_) (fun c_3 => ?_)
      · rw [if_pos c_3] at hT
        refine lv_iconst (v := 0) hx hb dX9_hasSmallerByAll_37 (by decide) ?_
        exact END 0 t_2.1 t_2.2 hT (by decide) _ _ hP hD hS _ _ dX9_hasSmallerByAll_38
      · rw [if_neg c_3] at hT
        refine lv_iload_n hx hb dX9_hasSmallerByAll_12 rfl (lv_at hl 2 rfl) ?_
        refine lv_iload_n hx hb dX9_hasSmallerByAll_13 rfl (lv_at hl 1 rfl) ?_
        refine lv_iconst (v := (-1)) hx hb dX9_hasSmallerByAll_14 (by decide) ?_
        refine lv_ixor hx hb dX9_hasSmallerByAll_15 ?_
        refine lv_iand hx hb dX9_hasSmallerByAll_16 ?_
        have J_31 : ∀ (_ : Unit), TT = m_k_X9_hasSmallerByAll_31 (m_k_X9_hasSmallerByAll_7 pp rn rf ch cg fb c1 c2 c3 c4 obi sc a1 t_2 n_7) v2_7 → ∀ (H : Heap) (locs : List Loc), va_P D vwCl ((wW_k_X9_hasSmallerByAll ty X pn rn tn en rf t_2.1 ch cg fb mh ml ih lb ic cn c1 c2 c3 c4 t_2.2 obi sc) ++ pw ty pp) H → va_D A ((wW_k_X9_hasSmallerByAll ty X pn rn tn en rf t_2.1 ch cg fb mh ml ih lb ic cn c1 c2 c3 c4 t_2.2 obi sc) ++ pw ty pp) → va_S A s.heap H locs → ∀ ls : Array Slot, lv_has ls 3 [(0, .ref (X 20)), (1, .int a1), (2, .int v2_7)] → W p l e (headSpec vs_k_X9_hasSmallerByAll { frames := 5, cells := 0, slots := 0, locals := 118 }).room s m ([.ref (X 20), .int a1] : List Value).toArray below meth c H locs 0 0 (MQ below (va_Qi (fun (r : Int32) (u : va_W) => (r = TT.1 ∧ (TT.1 = 0 ∨ TT.1 = 1) ∧ (u = ((wW_k_X9_hasSmallerByAll ty X pn rn tn en rf TT.2.1 ch cg fb mh ml ih lb ic cn c1 c2 c3 c4 TT.2.2 obi sc) ++ pw ty pp)))) (wq_B D A) A) ([.ref (X 20), .int a1] : List Value).toArray s 0 0 A) (F0 m 31 ls []) := by
          intro _ hT  H locs hP hD hS ls hl
          rw [m_k_X9_hasSmallerByAll_31] at hT
          refine lv_iinc (v := v2_7 + 1) (lv' := [(2, .int (v2_7 + 1)), (0, .ref (X 20)), (1, .int a1)]) hx hb dX9_hasSmallerByAll_31 hl (k := 2) rfl (by rfl) (by decide) rfl (fun ls hl => ?_)
          refine lv_goto (tgt := 7) hx hb dX9_hasSmallerByAll_34 (by decide) ?_
          exact ih_7 (v2_7 + 1) (wi_up hu_7 (Int32.not_le.mp c_3)) hT (wi_inc hn_7 (Int32.not_le.mp c_3)) _ _ hP hD hS _ (lv_sub hl [1, 2, 0] rfl)
        refine lv_if_ne (tgt := 31) hx hb dX9_hasSmallerByAll_17 (by decide) (fun c_4 => ?_) (fun c_4 => ?_)
        · rw [if_neg c_4] at hT
          exact J_31 () hT _ _ hP hD hS _ (lv_sub hl [0, 1, 2] rfl)
        · rw [if_pos c_4] at hT
          refine lv_aload_n hx hb dX9_hasSmallerByAll_20 rfl (lv_at hl 0 rfl) ?_
          refine lv_iload_n hx hb dX9_hasSmallerByAll_21 rfl (lv_at hl 2 rfl) ?_
          refine lv_iload_n hx hb dX9_hasSmallerByAll_22 rfl (lv_at hl 1 rfl) ?_
          obtain ⟨t_23, ht_23⟩ : ∃ t, t = m_k_X9_doesFor pp rn rf t_2.1 ch cg fb c1 c2 c3 c4 t_2.2 obi sc v2_7 a1 := ⟨_, rfl⟩
          rw [lE_eq ht_23] at hT
          refine wq_iPW (wc := (wW_k_X9_doesFor ty X pn rn tn en rf t_2.1 ch cg fb mh ml ih lb ic cn c1 c2 c3 c4 t_2.2 obi sc)) (pl := pw ty pp) (ux := (wW_k_X9_doesFor ty X pn rn tn en rf t_2.1 ch cg fb mh ml ih lb ic cn c1 c2 c3 c4 t_2.2 obi sc)) (va_runV (As := [.int v2_7, .int a1]) (rest := []) ⟨hx, hb, hml, hown, hts⟩ (k_X9_doesFor l D ty td mi H.size pp X pn rn tn en rf t_2.1 ch cg fb mh ml ih lb ic cn c1 c2 c3 c4 t_2.2 obi sc v2_7 a1 hok hru t_23 ht_23) (cwV 2 hts gv_k_X9_hasSmallerByAll_1 rfl rfl rfl (by decide +kernel) ⟨(Nat.le_of_ble_eq_true rfl), (Nat.le_of_ble_eq_true rfl)⟩) (wm_V (wm_preSP hP hD hK hE hS hA [true, true, true, true, true, true, true, true, true, true, true] rfl) (va_recv (q0 := 2) (ci := 11) hK hP rfl rfl)) rfl rfl hl.1 rfl (lv_room (Nat.le_of_ble_eq_true rfl)) dX9_hasSmallerByAll_23 ⟨(Nat.le_of_ble_eq_true rfl), (Nat.le_of_ble_eq_true rfl)⟩) hS hA hP hD [true, true, true, true, true, true, true, true, true, true, true] rfl rfl (fun _ _ h => h.2.2) (fun r H locs hw hP hD hS => ?_)
          obtain ⟨hr0, c_7, -⟩ := hw
          subst r
          have hP : va_P D vwCl ((wW_k_X9_hasSmallerByAll ty X pn rn tn en rf t_2.1 ch cg fb mh ml ih lb ic cn c1 c2 c3 c4 t_2.2 obi sc) ++ pw ty pp) H := hP
          have hD : va_D A ((wW_k_X9_hasSmallerByAll ty X pn rn tn en rf t_2.1 ch cg fb mh ml ih lb ic cn c1 c2 c3 c4 t_2.2 obi sc) ++ pw ty pp) := hD
          refine W.widen (k := 0) (n := 0) (Nat.le_of_ble_eq_true rfl) (Nat.le_of_ble_eq_true rfl) ?_
          refine lv_if_eq (tgt := 31) hx hb dX9_hasSmallerByAll_26 (by decide) (fun c_8 => ?_) (fun c_8 => ?_)
          · rw [if_pos c_8] at hT
            exact J_31 () hT _ _ hP hD hS _ (lv_sub hl [0, 1, 2] rfl)
          · rw [if_neg c_8] at hT
            refine lv_iconst (v := 1) hx hb dX9_hasSmallerByAll_29 (by decide) ?_
            exact END 1 t_2.1 t_2.2 hT (by decide) _ _ hP hD hS _ _ dX9_hasSmallerByAll_30
  exact L_7 wF 0 (wF_up 0) hT (by decide) _ _ hP hD hS _ (lv_sub hl [1, 2, 0] rfl)
theorem dX9_costOf_0 : decode cX9_costOf 0 = .ok (.lconst 0, 1) := by decide +kernel
theorem dX9_costOf_1 : decode cX9_costOf 1 = .ok (.lstore_n 3, 1) := by decide +kernel
theorem dX9_costOf_2 : decode cX9_costOf 2 = .ok (.aload_n 0, 1) := by decide +kernel
theorem dX9_costOf_3 : decode cX9_costOf 3 = .ok (.iload_n 1, 1) := by decide +kernel
theorem dX9_costOf_4 : decode cX9_costOf 4 = .ok (.invokevirtual 241, 3) := by decide +kernel
theorem dX9_costOf_7 : decode cX9_costOf 7 = .ok (.istore 5, 2) := by decide +kernel
theorem dX9_costOf_9 : decode cX9_costOf 9 = .ok (.iconst 0, 1) := by decide +kernel
theorem dX9_costOf_10 : decode cX9_costOf 10 = .ok (.istore 6, 2) := by decide +kernel
theorem dX9_costOf_12 : decode cX9_costOf 12 = .ok (.iload 6, 2) := by decide +kernel
theorem dX9_costOf_14 : decode cX9_costOf 14 = .ok (.aload_n 0, 1) := by decide +kernel
theorem dX9_costOf_15 : decode cX9_costOf 15 = .ok (.getfield 18, 3) := by decide +kernel
theorem dX9_costOf_18 : decode cX9_costOf 18 = .ok (.getfield 93, 3) := by decide +kernel
theorem dX9_costOf_21 : decode cX9_costOf 21 = .ok (.if_icmp .ge 65, 3) := by decide +kernel
theorem dX9_costOf_24 : decode cX9_costOf 24 = .ok (.aload_n 0, 1) := by decide +kernel
theorem dX9_costOf_25 : decode cX9_costOf 25 = .ok (.getfield 34, 3) := by decide +kernel
theorem dX9_costOf_28 : decode cX9_costOf 28 = .ok (.aload_n 0, 1) := by decide +kernel
theorem dX9_costOf_29 : decode cX9_costOf 29 = .ok (.getfield 18, 3) := by decide +kernel
theorem dX9_costOf_32 : decode cX9_costOf 32 = .ok (.iload 6, 2) := by decide +kernel
theorem dX9_costOf_34 : decode cX9_costOf 34 = .ok (.invokevirtual 285, 3) := by decide +kernel
theorem dX9_costOf_37 : decode cX9_costOf 37 = .ok (.invokevirtual 115, 3) := by decide +kernel
theorem dX9_costOf_40 : decode cX9_costOf 40 = .ok (.astore 7, 2) := by decide +kernel
theorem dX9_costOf_42 : decode cX9_costOf 42 = .ok (.aload 7, 2) := by decide +kernel
theorem dX9_costOf_44 : decode cX9_costOf 44 = .ok (.ifnull 36, 3) := by decide +kernel
theorem dX9_costOf_47 : decode cX9_costOf 47 = .ok (.aload 7, 2) := by decide +kernel
theorem dX9_costOf_49 : decode cX9_costOf 49 = .ok (.getfield 294, 3) := by decide +kernel
theorem dX9_costOf_52 : decode cX9_costOf 52 = .ok (.iload_n 2, 1) := by decide +kernel
theorem dX9_costOf_53 : decode cX9_costOf 53 = .ok (.if_icmp .ne 27, 3) := by decide +kernel
theorem dX9_costOf_56 : decode cX9_costOf 56 = .ok (.aload_n 0, 1) := by decide +kernel
theorem dX9_costOf_57 : decode cX9_costOf 57 = .ok (.getfield 18, 3) := by decide +kernel
theorem dX9_costOf_60 : decode cX9_costOf 60 = .ok (.iload 6, 2) := by decide +kernel
theorem dX9_costOf_62 : decode cX9_costOf 62 = .ok (.iload_n 1, 1) := by decide +kernel
theorem dX9_costOf_63 : decode cX9_costOf 63 = .ok (.iload 5, 2) := by decide +kernel
theorem dX9_costOf_65 : decode cX9_costOf 65 = .ok (.invokevirtual 282, 3) := by decide +kernel
theorem dX9_costOf_68 : decode cX9_costOf 68 = .ok (.ifCond .eq 12, 3) := by decide +kernel
theorem dX9_costOf_71 : decode cX9_costOf 71 = .ok (.lload_n 3, 1) := by decide +kernel
theorem dX9_costOf_72 : decode cX9_costOf 72 = .ok (.aload 7, 2) := by decide +kernel
theorem dX9_costOf_74 : decode cX9_costOf 74 = .ok (.getfield 297, 3) := by decide +kernel
theorem dX9_costOf_77 : decode cX9_costOf 77 = .ok (.i2l, 1) := by decide +kernel
theorem dX9_costOf_78 : decode cX9_costOf 78 = .ok (.ladd, 1) := by decide +kernel
theorem dX9_costOf_79 : decode cX9_costOf 79 = .ok (.lstore_n 3, 1) := by decide +kernel
theorem dX9_costOf_80 : decode cX9_costOf 80 = .ok (.iinc 6 1, 3) := by decide +kernel
theorem dX9_costOf_83 : decode cX9_costOf 83 = .ok (.goto (-71), 3) := by decide +kernel
theorem dX9_costOf_86 : decode cX9_costOf 86 = .ok (.lload_n 3, 1) := by decide +kernel
theorem dX9_costOf_87 : decode cX9_costOf 87 = .ok (.lreturn, 1) := by decide +kernel
def wW_k_X9_costOf (ty : Nat → ClassId) (X : Nat → Nat) (z9_0 : Int32) (z9_1 : Int32) (z9_2 : Int32) (z9_3 : Int32) (z9_4 : Nat → Option Nat) (z9_5 : Int32) (z9_6 : Int32) (z9_7 : Int32) (z9_8 : Int32) (z9_9 : Int32) (z9_10 : Int32) (z9_11 : Int32) (z9_12 : Int32) (z9_13 : Int32) (z9_14 : Int32) (z9_15 : Nat → Int32) (z9_16 : Nat → Int32) (z9_17 : Nat → Int32) (z9_18 : Nat → Int32) (z9_19 : Nat → Int32) : va_W := [((X 1), .inr (8, [.ref (X 2), .int z9_0, .ref (X 3), .int z9_1, .ref (X 4), .ref (X 5), .int z9_2, .ref (X 6), .ref (X 7), .int z9_3])), ((X 3), .inl (ty 4, 20, .inr (.inr (.inr (.inr z9_4))))), ((X 20), .inr (11, [.ref (X 1), .ref (X 8), .ref (X 21), .ref (X 28), .ref (X 35), .int z9_5, .ref (X 36), .ref (X 37), .ref (X 38), .int z9_6, .int z9_7, .int z9_8, .int z9_9, .int z9_10, .int z9_11, .int z9_12, .int z9_13])), ((X 28), .inr (9, [.ref (X 29), .ref (X 30), .ref (X 31), .ref (X 32), .ref (X 33), .ref (X 34), .int z9_14])), ((X 29), .inl (ty 0, 300, .inl z9_15)), ((X 30), .inl (ty 0, 300, .inl z9_16)), ((X 31), .inl (ty 0, 300, .inl z9_17)), ((X 36), .inl (ty 0, 6, .inl z9_18)), ((X 37), .inl (ty 0, 6, .inl z9_19))]
def vs_k_X9_costOf : List Cond := .code yX9_costOf cX9_costOf 8 (some .long) :: ([.methodLink RX9 241 yX9_countsHeld, .instanceMethod yX9_countsHeld, .selects RX9 yX9_countsHeld yX9_countsHeld, .initialized RX9, .fieldLink RX9 18 "AnswerFold$Solver" "weaks" "LAnswerFold$Rows;", .fieldLink RX9 34 "AnswerFold$Solver" "program" "LAnswerFold$Program;", .methodLink RX9 285 yX7_ruleAt, .instanceMethod yX7_ruleAt, .selects RX7 yX7_ruleAt yX7_ruleAt, .initialized RX7, .methodLink RX9 115 yX6_ruleAt, .instanceMethod yX6_ruleAt, .selects RX6 yX6_ruleAt yX6_ruleAt, .initialized RX6, .methodLink RX9 282 yX7_bodyHolds, .instanceMethod yX7_bodyHolds, .selects RX7 yX7_bodyHolds yX7_bodyHolds] ++ (vs_k_X9_countsHeld ++ (u_ws RX9 TX9 17 ++ (u_ws RX7 TX7 7 ++ (vs_k_X7_ruleAt ++ (vs_k_X6_ruleAt ++ (u_ws RX8 TX8 11 ++ (vs_k_X7_bodyHolds))))))))
theorem iv_k_X9_costOf_X7 : ∀ w ∈ u_ws RX7 TX7 7, w ∈ vs_k_X9_costOf := (fun _ h => List.mem_cons_of_mem _ (List.mem_append_right _ (List.mem_append_right _ (List.mem_append_right _ (List.mem_append_left _ h)))))
theorem iv_k_X9_costOf_X8 : ∀ w ∈ u_ws RX8 TX8 11, w ∈ vs_k_X9_costOf := (fun _ h => List.mem_cons_of_mem _ (List.mem_append_right _ (List.mem_append_right _ (List.mem_append_right _ (List.mem_append_right _ (List.mem_append_right _ (List.mem_append_right _ (List.mem_append_left _ h))))))))
theorem iv_k_X9_costOf_X9 : ∀ w ∈ u_ws RX9 TX9 17, w ∈ vs_k_X9_costOf := (fun _ h => List.mem_cons_of_mem _ (List.mem_append_right _ (List.mem_append_right _ (List.mem_append_left _ h))))
set_option maxRecDepth 20000 in
theorem gv_k_X9_costOf_0 : GoodIn vs_k_X9_costOf (wsV RX9 241 RX9 yX9_countsHeld vs_k_X9_countsHeld) := goodIn_app (goodIn_sub (by decide +kernel) (by decide +kernel)) (goodIn_sub (fun _ h => List.mem_cons_of_mem _ (List.mem_append_right _ (List.mem_append_left _ h))) (by decide +kernel))
set_option maxRecDepth 20000 in
theorem gv_k_X9_costOf_1 : GoodIn vs_k_X9_costOf (wsV RX9 285 RX7 yX7_ruleAt vs_k_X7_ruleAt) := goodIn_app (goodIn_sub (by decide +kernel) (by decide +kernel)) (goodIn_sub (fun _ h => List.mem_cons_of_mem _ (List.mem_append_right _ (List.mem_append_right _ (List.mem_append_right _ (List.mem_append_right _ (List.mem_append_left _ h)))))) (by decide +kernel))
set_option maxRecDepth 20000 in
theorem gv_k_X9_costOf_2 : GoodIn vs_k_X9_costOf (wsV RX9 115 RX6 yX6_ruleAt vs_k_X6_ruleAt) := goodIn_app (goodIn_sub (by decide +kernel) (by decide +kernel)) (goodIn_sub (fun _ h => List.mem_cons_of_mem _ (List.mem_append_right _ (List.mem_append_right _ (List.mem_append_right _ (List.mem_append_right _ (List.mem_append_right _ (List.mem_append_left _ h))))))) (by decide +kernel))
set_option maxRecDepth 20000 in
theorem gv_k_X9_costOf_3 : GoodIn vs_k_X9_costOf (wsV RX9 282 RX7 yX7_bodyHolds vs_k_X7_bodyHolds) := goodIn_app (goodIn_sub (by decide +kernel) (by decide +kernel)) (goodIn_sub (fun _ h => List.mem_cons_of_mem _ (List.mem_append_right _ (List.mem_append_right _ (List.mem_append_right _ (List.mem_append_right _ (List.mem_append_right _ (List.mem_append_right _ (List.mem_append_right _ (h))))))))) (by decide +kernel))
set_option maxHeartbeats 4000000 in
set_option maxRecDepth 100000 in
theorem k_X9_costOf (l : Launch) (D : va_G) (ty : Nat → ClassId) (td mi sz : Nat) (pp : pT) (X : Nat → Nat) (pn : Int32) (rn : Int32) (tn : Int32) (en : Int32) (rf : Nat → Option Nat) (an : Int32) (ch : Int32) (cg : Int32) (fb : Int32) (mh : Int32) (ml : Int32) (ih : Int32) (lb : Int32) (ic : Int32) (wn : Int32) (w1 : Nat → Int32) (w2 : Nat → Int32) (w3 : Nat → Int32) (obi : Nat → Int32) (sc : Nat → Int32) (a1 : Int32) (a2 : Int32) (hok : pOK pp) (hru : ∀ (i a : Nat), rf i = some a → a ∈ pRA pp) (TT : r_k_X9_costOf) (hTT : TT = m_k_X9_costOf pp rn rf cg wn w1 w2 w3 obi sc a1 a2) : Met l yX9_costOf vs_k_X9_costOf { frames := 4, cells := 0, slots := 0, locals := 91 } (va_Pc [.ref (X 20), .int a1, .int a2] (wq_P D ty td mi ((wW_k_X9_costOf ty X pn rn tn en rf an ch cg fb mh ml ih lb ic wn w1 w2 w3 obi sc) ++ pw ty pp) sz)) (va_Ql (fun (r : Int64) (u : va_W) => (r = TT ∧ (u = ((wW_k_X9_costOf ty X pn rn tn en rf an ch cg fb mh ml ih lb ic wn w1 w2 w3 obi sc) ++ pw ty pp)))) (wq_B D (va_A ((wW_k_X9_costOf ty X pn rn tn en rf an ch cg fb mh ml ih lb ic wn w1 w2 w3 obi sc) ++ pw ty pp) sz)) (va_A ((wW_k_X9_costOf ty X pn rn tn en rf an ch cg fb mh ml ih lb ic wn w1 w2 w3 obi sc) ++ pw ty pp) sz)) 0 0 (va_A ((wW_k_X9_costOf ty X pn rn tn en rf an ch cg fb mh ml ih lb ic wn w1 w2 w3 obi sc) ++ pw ty pp) sz) := by
  refine Met.ofW (cc := cX9_costOf) (maxL := 8) (ret := (some .long)) (by decide) rfl ?_
  intro p e s m args below meth c s₁ B hml hv
  obtain ⟨rfl, hsz, hP, hK, hD0, hE⟩ := hv
  have hx := B.exec
  have hb := B.bytes
  have hr := B.returns
  have hts := atoms_spec (ws := vs_k_X9_costOf) B.pre
  have hown : s.vm.findClass RX9 = some m.cls := findClass_of_methodNamed B.named
  have hlocks := B.notSynchronized
  subst hsz
  have hD := hD0.self (sz := s.heap.size)
  generalize hAe : va_A ((wW_k_X9_costOf ty X pn rn tn en rf an ch cg fb mh ml ih lb ic wn w1 w2 w3 obi sc) ++ pw ty pp) s.heap.size = A at hD hE ⊢
  have hA : ∀ q : Nat, s.heap.size ≤ q → A q := fun q h => by rw [← hAe]; exact Or.inr h
  have hS : va_S A s.heap s.heap [] := va_S.rf
  have hP : va_P D vwCl ((wW_k_X9_costOf ty X pn rn tn en rf an ch cg fb mh ml ih lb ic wn w1 w2 w3 obi sc) ++ pw ty pp) s.heap := hP
  have hl := lv_entry ([.ref (X 20), .int a1, .int a2]) (n := 8) (Nat.le_of_ble_eq_true rfl)
  rw [lg_entry_eq]
  generalize (lg_sl ([.ref (X 20), .int a1, .int a2]) ++ List.replicate (8 - (lg_sl ([.ref (X 20), .int a1, .int a2])).length) Slot.unset).toArray = ls at hl ⊢
  have hl : lv_has ls 8 [(0, .ref (X 20)), (1, .int a1), (2, .int a2)] := hl
  have END : ∀ (r : Int64), TT = r → ∀ (H : Heap) (locs : List Loc), va_P D vwCl ((wW_k_X9_costOf ty X pn rn tn en rf an ch cg fb mh ml ih lb ic wn w1 w2 w3 obi sc) ++ pw ty pp) H → va_D A ((wW_k_X9_costOf ty X pn rn tn en rf an ch cg fb mh ml ih lb ic wn w1 w2 w3 obi sc) ++ pw ty pp) → va_S A s.heap H locs → ∀ (ls : Array Slot) (pc : Nat), decode cX9_costOf pc = .ok (.lreturn, 1) → W p l e (headSpec vs_k_X9_costOf { frames := 4, cells := 0, slots := 0, locals := 91 }).room s m ([.ref (X 20), .int a1, .int a2] : List Value).toArray below meth c H locs 0 0 (MQ below (va_Ql (fun (r : Int64) (u : va_W) => (r = TT ∧ (u = ((wW_k_X9_costOf ty X pn rn tn en rf an ch cg fb mh ml ih lb ic wn w1 w2 w3 obi sc) ++ pw ty pp)))) (wq_B D A) A) ([.ref (X 20), .int a1, .int a2] : List Value).toArray s 0 0 A) (F0 m pc ls [.long r]) := by
    intro r hT H locs hP hD hS ls pc hd
    have hM : TT = r := hT
    exact W.lret (v := r) hx hb hr (fun t ht hW => ⟨⟨r, ((wW_k_X9_costOf ty X pn rn tn en rf an ch cg fb mh ml ih lb ic wn w1 w2 w3 obi sc) ++ pw ty pp), rfl, ⟨(by rw [hM]), rfl⟩, wq_B.of ht hP hD⟩, hS.F ht⟩) hS.2.2 hd
  have hT := hTT
  rw [m_k_X9_costOf] at hT
  refine lv_lconst (v := 0) hx hb dX9_costOf_0 (by decide) ?_
  refine lv_lstore_n (lv' := [(3, .long 0), (0, .ref (X 20)), (1, .int a1), (2, .int a2)]) hx hb dX9_costOf_1 rfl hl (by decide) rfl (fun ls hl => ?_)
  refine lv_aload_n hx hb dX9_costOf_2 rfl (lv_at hl 1 rfl) ?_
  refine lv_iload_n hx hb dX9_costOf_3 rfl (lv_at hl 2 rfl) ?_
  obtain ⟨t_4, ht_4⟩ : ∃ t, t = m_k_X9_countsHeld pp rn rf cg obi sc a1 := ⟨_, rfl⟩
  rw [lE_eq ht_4] at hT
  refine wq_iPW (wc := (wW_k_X9_countsHeld ty X pn rn tn en rf an ch cg fb mh ml ih lb ic obi sc)) (pl := pw ty pp) (ux := (wW_k_X9_countsHeld ty X pn rn tn en rf an ch cg fb mh ml ih lb ic obi sc)) (va_runV (As := [.int a1]) (rest := []) ⟨hx, hb, hml, hown, hts⟩ (k_X9_countsHeld l D ty td mi s.heap.size pp X pn rn tn en rf an ch cg fb mh ml ih lb ic obi sc a1 hok hru t_4 ht_4) (cwV 1 hts gv_k_X9_costOf_0 rfl rfl rfl (by decide +kernel) ⟨(Nat.le_of_ble_eq_true rfl), (Nat.le_of_ble_eq_true rfl)⟩) (wm_V (wm_preSP hP hD hK hE hS hA [true, true, true, false, false, false, false, true, true] rfl) (va_recv (q0 := 2) (ci := 11) hK hP rfl rfl)) rfl rfl hl.1 rfl (lv_room (Nat.le_of_ble_eq_true rfl)) dX9_costOf_4 ⟨(Nat.le_of_ble_eq_true rfl), (Nat.le_of_ble_eq_true rfl)⟩) hS hA hP hD [true, true, true, false, false, false, false, true, true] rfl rfl (fun _ _ h => h.2) (fun r H locs hw hP hD hS => ?_)
  obtain ⟨hr0, -⟩ := hw
  subst r
  have hP : va_P D vwCl ((wW_k_X9_costOf ty X pn rn tn en rf an ch cg fb mh ml ih lb ic wn w1 w2 w3 obi sc) ++ pw ty pp) H := hP
  have hD : va_D A ((wW_k_X9_costOf ty X pn rn tn en rf an ch cg fb mh ml ih lb ic wn w1 w2 w3 obi sc) ++ pw ty pp) := hD
  refine W.widen (k := 0) (n := 0) (Nat.le_of_ble_eq_true rfl) (Nat.le_of_ble_eq_true rfl) ?_
  refine lv_istore (lv' := [(5, .int t_4), (3, .long 0), (0, .ref (X 20)), (1, .int a1), (2, .int a2)]) hx hb dX9_costOf_7 hl (by decide) rfl (fun ls hl => ?_)
  refine lv_iconst (v := 0) hx hb dX9_costOf_9 (by decide) ?_
  refine lv_istore (lv' := [(6, .int 0), (5, .int t_4), (3, .long 0), (0, .ref (X 20)), (1, .int a1), (2, .int a2)]) hx hb dX9_costOf_10 hl (by decide) rfl (fun ls hl => ?_)
  have L_12 : ∀ (n_12 : Nat) (v3_12 : Int64) (v6_12 : Int32), (2147483648 - v6_12.toInt).toNat < n_12 → TT = m_k_X9_costOf_12 pp rn rf wn w1 w2 w3 a1 a2 t_4 n_12 v3_12 v6_12 → 0 ≤ v6_12.toInt → ∀ (H : Heap) (locs : List Loc), va_P D vwCl ((wW_k_X9_costOf ty X pn rn tn en rf an ch cg fb mh ml ih lb ic wn w1 w2 w3 obi sc) ++ pw ty pp) H → va_D A ((wW_k_X9_costOf ty X pn rn tn en rf an ch cg fb mh ml ih lb ic wn w1 w2 w3 obi sc) ++ pw ty pp) → va_S A s.heap H locs → ∀ ls : Array Slot, lv_has ls 8 [(0, .ref (X 20)), (1, .int a1), (2, .int a2), (3, .long v3_12), (5, .int t_4), (6, .int v6_12)] → W p l e (headSpec vs_k_X9_costOf { frames := 4, cells := 0, slots := 0, locals := 91 }).room s m ([.ref (X 20), .int a1, .int a2] : List Value).toArray below meth c H locs 0 0 (MQ below (va_Ql (fun (r : Int64) (u : va_W) => (r = TT ∧ (u = ((wW_k_X9_costOf ty X pn rn tn en rf an ch cg fb mh ml ih lb ic wn w1 w2 w3 obi sc) ++ pw ty pp)))) (wq_B D A) A) ([.ref (X 20), .int a1, .int a2] : List Value).toArray s 0 0 A) (F0 m 12 ls []) := by
    intro n_12
    induction n_12 with
    | zero => intro v3_12 v6_12 hu; exact absurd hu (Nat.not_lt_zero _)
    | succ n_12 ih_12 =>
      intro v3_12 v6_12 hu_12 hT hn_12 H locs hP hD hS ls hl
      rw [m_k_X9_costOf_12_succ, m_k_X9_costOf_12s] at hT
      refine lv_iload hx hb dX9_costOf_12 (lv_at hl 5 rfl) ?_
      refine lv_aload_n hx hb dX9_costOf_14 rfl (lv_at hl 0 rfl) ?_
      refine va_get (D := D) (ci := 11) (v := .ref (X 28)) (C := RX9) (T := TX9) (N := 17) hx hb hts iv_k_X9_costOf_X9 hown hK hP 2 rfl rfl 3 (by decide) (hts (.fieldLink RX9 18 "AnswerFold$Solver" "weaks" "LAnswerFold$Rows;") (by decide +kernel)) (fun _ h9 => h9) rfl dX9_costOf_15 ?_
      refine va_getN (D := D) (ci := 9) (v := .int wn) (C := RX7) (T := TX7) (N := 7) hx hb hts iv_k_X9_costOf_X7 hown hK hP 3 rfl rfl 6 (by decide) (hE.at (.fieldLinkNest "AnswerFold$Solver" 93 "AnswerFold$Rows" "count" "I" "AnswerFold") (by decide +kernel)) (fun _ h9 => h9) rfl dX9_costOf_18 ?_
      refine lv_icmp_ge (tgt := 86) hx hb dX9_costOf_21 (by decide) (fun c_3 => ?_) (fun c_3 => ?_)
      · rw [if_pos c_3] at hT
        refine lv_lload_n hx hb dX9_costOf_86 rfl (lv_at hl 3 rfl) ?_
        exact END v3_12 hT _ _ hP hD hS _ _ dX9_costOf_87
      · rw [if_neg c_3] at hT
        refine lv_aload_n hx hb dX9_costOf_24 rfl (lv_at hl 0 rfl) ?_
        refine va_get (D := D) (ci := 11) (v := .ref (X 1)) (C := RX9) (T := TX9) (N := 17) hx hb hts iv_k_X9_costOf_X9 hown hK hP 2 rfl rfl 0 (by decide) (hts (.fieldLink RX9 34 "AnswerFold$Solver" "program" "LAnswerFold$Program;") (by decide +kernel)) (fun _ h9 => h9) rfl dX9_costOf_25 ?_
        refine lv_aload_n hx hb dX9_costOf_28 rfl (lv_at hl 0 rfl) ?_
        refine va_get (D := D) (ci := 11) (v := .ref (X 28)) (C := RX9) (T := TX9) (N := 17) hx hb hts iv_k_X9_costOf_X9 hown hK hP 2 rfl rfl 3 (by decide) (hts (.fieldLink RX9 18 "AnswerFold$Solver" "weaks" "LAnswerFold$Rows;") (by decide +kernel)) (fun _ h9 => h9) rfl dX9_costOf_29 ?_
        refine lv_iload hx hb dX9_costOf_32 (lv_at hl 5 rfl) ?_
        obtain ⟨t_34, ht_34⟩ : ∃ t, t = m_k_X7_ruleAt w1 v6_12 := ⟨_, rfl⟩
        rw [lE_eq ht_34] at hT
        refine wq_iQW (wc := (wW_k_X7_ruleAt ty (X 28) (X 29) (X 30) (X 31) (X 32) (X 33) (X 34) wn w1)) (pl := pw ty pp) (va_runV (As := [.int v6_12]) (rest := [.ref (X 1)]) ⟨hx, hb, hml, hown, hts⟩ (k_X7_ruleAt l D ty td mi H.size (X 28) (X 29) (X 30) (X 31) (X 32) (X 33) (X 34) wn w1 v6_12 t_34 ht_34) (cwV 1 hts gv_k_X9_costOf_1 rfl rfl rfl (by decide +kernel) ⟨(Nat.le_of_ble_eq_true rfl), (Nat.le_of_ble_eq_true rfl)⟩) (wm_V (wm_preS (vP_left hP) (vD_left hD) hK hE hS hA [false, false, false, true, true] rfl) (va_recv (q0 := 3) (ci := 9) hK hP rfl rfl)) rfl rfl hl.1 rfl (lv_room (Nat.le_of_ble_eq_true rfl)) dX9_costOf_34 ⟨(Nat.le_of_ble_eq_true rfl), (Nat.le_of_ble_eq_true rfl)⟩) hS hA hP hD [false, false, false, true, true] rfl (fun _ _ h => by rcases h with ⟨-, rfl⟩; rfl) (fun r u H locs hw hP hD hS => ?_)
        obtain ⟨hr0, rfl⟩ := hw
        subst r
        have hP : va_P D vwCl ((wW_k_X9_costOf ty X pn rn tn en rf an ch cg fb mh ml ih lb ic wn w1 w2 w3 obi sc) ++ pw ty pp) H := hP
        have hD : va_D A ((wW_k_X9_costOf ty X pn rn tn en rf an ch cg fb mh ml ih lb ic wn w1 w2 w3 obi sc) ++ pw ty pp) := hD
        refine W.widen (k := 0) (n := 0) (Nat.le_of_ble_eq_true rfl) (Nat.le_of_ble_eq_true rfl) ?_
        obtain ⟨t_37, ht_37⟩ : ∃ t, t = m_k_X6_ruleAt rn rf t_34 := ⟨_, rfl⟩
        rw [lE_eq ht_37] at hT
        refine wq_rPW (wc := (wW_k_X6_ruleAt ty X pn rn tn en rf)) (pl := pw ty pp) (ux := (wW_k_X6_ruleAt ty X pn rn tn en rf)) (va_runV (As := [.int t_34]) (rest := []) ⟨hx, hb, hml, hown, hts⟩ (k_X6_ruleAt l D ty td mi H.size pp X pn rn tn en rf t_34 hok hru t_37 ht_37) (cwV 1 hts gv_k_X9_costOf_2 rfl rfl rfl (by decide +kernel) ⟨(Nat.le_of_ble_eq_true rfl), (Nat.le_of_ble_eq_true rfl)⟩) (wm_V (wm_preSP hP hD hK hE hS hA [true, true] rfl) (va_recv (q0 := 0) (ci := 8) hK hP rfl rfl)) rfl rfl hl.1 rfl (lv_room (Nat.le_of_ble_eq_true rfl)) dX9_costOf_37 ⟨(Nat.le_of_ble_eq_true rfl), (Nat.le_of_ble_eq_true rfl)⟩) hS hA hP hD [true, true] rfl rfl (fun _ _ h => h.2) (fun r H locs hw hP hD hS => ?_)
        obtain ⟨rfl, -⟩ := hw
        have hP : va_P D vwCl ((wW_k_X9_costOf ty X pn rn tn en rf an ch cg fb mh ml ih lb ic wn w1 w2 w3 obi sc) ++ pw ty pp) H := hP
        have hD : va_D A ((wW_k_X9_costOf ty X pn rn tn en rf an ch cg fb mh ml ih lb ic wn w1 w2 w3 obi sc) ++ pw ty pp) := hD
        refine W.widen (k := 0) (n := 0) (Nat.le_of_ble_eq_true rfl) (Nat.le_of_ble_eq_true rfl) ?_
        rcases ho_37 : t_37 with _ | o_37
        · rw [ho_37, oE_none] at hT
          refine W.eq (g2 := F0 m 40 ls [.null]) rfl ?_
          refine lv_astoreN (lv' := [(7, .null), (0, .ref (X 20)), (1, .int a1), (2, .int a2), (3, .long v3_12), (5, .int t_4), (6, .int v6_12)]) hx hb dX9_costOf_40 hl (by decide) rfl (fun ls hl => ?_)
          refine lv_aloadN hx hb dX9_costOf_42 (lv_at hl 0 rfl) ?_
          have J_80 : ∀ (v3_80 : Int64), TT = m_k_X9_costOf_80 (m_k_X9_costOf_12 pp rn rf wn w1 w2 w3 a1 a2 t_4 n_12) v6_12 v3_80 → ∀ (H : Heap) (locs : List Loc), va_P D vwCl ((wW_k_X9_costOf ty X pn rn tn en rf an ch cg fb mh ml ih lb ic wn w1 w2 w3 obi sc) ++ pw ty pp) H → va_D A ((wW_k_X9_costOf ty X pn rn tn en rf an ch cg fb mh ml ih lb ic wn w1 w2 w3 obi sc) ++ pw ty pp) → va_S A s.heap H locs → ∀ ls : Array Slot, lv_has ls 8 [(0, .ref (X 20)), (1, .int a1), (2, .int a2), (3, .long v3_80), (5, .int t_4), (6, .int v6_12)] → W p l e (headSpec vs_k_X9_costOf { frames := 4, cells := 0, slots := 0, locals := 91 }).room s m ([.ref (X 20), .int a1, .int a2] : List Value).toArray below meth c H locs 0 0 (MQ below (va_Ql (fun (r : Int64) (u : va_W) => (r = TT ∧ (u = ((wW_k_X9_costOf ty X pn rn tn en rf an ch cg fb mh ml ih lb ic wn w1 w2 w3 obi sc) ++ pw ty pp)))) (wq_B D A) A) ([.ref (X 20), .int a1, .int a2] : List Value).toArray s 0 0 A) (F0 m 80 ls []) := by
            intro v3_80 hT  H locs hP hD hS ls hl
            rw [m_k_X9_costOf_80] at hT
            refine lv_iinc (v := v6_12 + 1) (lv' := [(6, .int (v6_12 + 1)), (0, .ref (X 20)), (1, .int a1), (2, .int a2), (3, .long v3_80), (5, .int t_4)]) hx hb dX9_costOf_80 hl (k := 5) rfl (by rfl) (by decide) rfl (fun ls hl => ?_)
            refine lv_goto (tgt := 12) hx hb dX9_costOf_83 (by decide) ?_
            exact ih_12 v3_80 (v6_12 + 1) (wi_up hu_12 (Int32.not_le.mp c_3)) hT (wi_inc hn_12 (Int32.not_le.mp c_3)) _ _ hP hD hS _ (lv_sub hl [1, 2, 3, 4, 5, 0] rfl)
          refine lv_ifnullN (tgt := 80) hx hb dX9_costOf_44 (by decide) ?_
          exact J_80 v3_12 hT _ _ hP hD hS _ (lv_sub hl [1, 2, 3, 4, 5, 6] rfl)
        · rw [ho_37, oE_some] at hT
          refine W.eq (g2 := F0 m 40 ls [.ref o_37]) rfl ?_
          refine lv_astore (lv' := [(7, .ref o_37), (0, .ref (X 20)), (1, .int a1), (2, .int a2), (3, .long v3_12), (5, .int t_4), (6, .int v6_12)]) hx hb dX9_costOf_40 hl (by decide) rfl (fun ls hl => ?_)
          refine lv_aload hx hb dX9_costOf_42 (lv_at hl 0 rfl) ?_
          have J_80 : ∀ (v3_80 : Int64), TT = m_k_X9_costOf_80 (m_k_X9_costOf_12 pp rn rf wn w1 w2 w3 a1 a2 t_4 n_12) v6_12 v3_80 → ∀ (H : Heap) (locs : List Loc), va_P D vwCl ((wW_k_X9_costOf ty X pn rn tn en rf an ch cg fb mh ml ih lb ic wn w1 w2 w3 obi sc) ++ pw ty pp) H → va_D A ((wW_k_X9_costOf ty X pn rn tn en rf an ch cg fb mh ml ih lb ic wn w1 w2 w3 obi sc) ++ pw ty pp) → va_S A s.heap H locs → ∀ ls : Array Slot, lv_has ls 8 [(0, .ref (X 20)), (1, .int a1), (2, .int a2), (3, .long v3_80), (5, .int t_4), (6, .int v6_12)] → W p l e (headSpec vs_k_X9_costOf { frames := 4, cells := 0, slots := 0, locals := 91 }).room s m ([.ref (X 20), .int a1, .int a2] : List Value).toArray below meth c H locs 0 0 (MQ below (va_Ql (fun (r : Int64) (u : va_W) => (r = TT ∧ (u = ((wW_k_X9_costOf ty X pn rn tn en rf an ch cg fb mh ml ih lb ic wn w1 w2 w3 obi sc) ++ pw ty pp)))) (wq_B D A) A) ([.ref (X 20), .int a1, .int a2] : List Value).toArray s 0 0 A) (F0 m 80 ls []) := by
            intro v3_80 hT  H locs hP hD hS ls hl
            rw [m_k_X9_costOf_80] at hT
            refine lv_iinc (v := v6_12 + 1) (lv' := [(6, .int (v6_12 + 1)), (0, .ref (X 20)), (1, .int a1), (2, .int a2), (3, .long v3_80), (5, .int t_4)]) hx hb dX9_costOf_80 hl (k := 5) rfl (by rfl) (by decide) rfl (fun ls hl => ?_)
            refine lv_goto (tgt := 12) hx hb dX9_costOf_83 (by decide) ?_
            exact ih_12 v3_80 (v6_12 + 1) (wi_up hu_12 (Int32.not_le.mp c_3)) hT (wi_inc hn_12 (Int32.not_le.mp c_3)) _ _ hP hD hS _ (lv_sub hl [1, 2, 3, 4, 5, 0] rfl)
          refine lv_ifnull hx hb dX9_costOf_44 ?_
          refine lv_aload hx hb dX9_costOf_47 (lv_at hl 0 rfl) ?_
          obtain ⟨k_8, hk_8⟩ := List.getElem?_of_mem (pw_rule (ty := ty) (p := pp) (L := [((X 1), .inr (8, [.ref (X 2), .int pn, .ref (X 3), .int rn, .ref (X 4), .ref (X 5), .int tn, .ref (X 6), .ref (X 7), .int en])), ((X 3), .inl (ty 4, 20, .inr (.inr (.inr (.inr rf))))), ((X 20), .inr (11, [.ref (X 1), .ref (X 8), .ref (X 21), .ref (X 28), .ref (X 35), .int an, .ref (X 36), .ref (X 37), .ref (X 38), .int ch, .int cg, .int fb, .int mh, .int ml, .int ih, .int lb, .int ic])), ((X 28), .inr (9, [.ref (X 29), .ref (X 30), .ref (X 31), .ref (X 32), .ref (X 33), .ref (X 34), .int wn])), ((X 29), .inl (ty 0, 300, .inl w1)), ((X 30), .inl (ty 0, 300, .inl w2)), ((X 31), .inl (ty 0, 300, .inl w3)), ((X 36), .inl (ty 0, 6, .inl obi)), ((X 37), .inl (ty 0, 6, .inl sc))]) (mm_k_X6_ruleAt pp rn rf t_34 hok hru _ (by rw [← ht_37]; exact ho_37)))
          refine va_getN (D := D) (ci := 10) (v := .int (pI pp o_37 6)) (C := RX8) (T := TX8) (N := 11) hx hb hts iv_k_X9_costOf_X8 hown hK hP k_8 hk_8 rfl 6 (by decide) (hE.at (.fieldLinkNest "AnswerFold$Solver" 294 "AnswerFold$Rule" "level" "I" "AnswerFold") (by decide +kernel)) (fun _ h9 => h9) rfl dX9_costOf_49 ?_
          refine lv_iload_n hx hb dX9_costOf_52 rfl (lv_at hl 3 rfl) ?_
          refine lv_icmp_ne (tgt := 80) hx hb dX9_costOf_53 (by decide) (fun c_9 => ?_) (fun c_9 => ?_)
          · rw [if_neg c_9] at hT
            exact J_80 v3_12 hT _ _ hP hD hS _ (lv_sub hl [1, 2, 3, 4, 5, 6] rfl)
          · rw [if_pos c_9] at hT
            refine lv_aload_n hx hb dX9_costOf_56 rfl (lv_at hl 1 rfl) ?_
            refine va_get (D := D) (ci := 11) (v := .ref (X 28)) (C := RX9) (T := TX9) (N := 17) hx hb hts iv_k_X9_costOf_X9 hown hK hP 2 rfl rfl 3 (by decide) (hts (.fieldLink RX9 18 "AnswerFold$Solver" "weaks" "LAnswerFold$Rows;") (by decide +kernel)) (fun _ h9 => h9) rfl dX9_costOf_57 ?_
            refine lv_iload hx hb dX9_costOf_60 (lv_at hl 6 rfl) ?_
            refine lv_iload_n hx hb dX9_costOf_62 rfl (lv_at hl 2 rfl) ?_
            refine lv_iload hx hb dX9_costOf_63 (lv_at hl 5 rfl) ?_
            obtain ⟨t_65, ht_65⟩ : ∃ t, t = m_k_X7_bodyHolds w1 w2 w3 v6_12 a1 t_4 := ⟨_, rfl⟩
            rw [lE_eq ht_65] at hT
            refine wq_iQW (wc := (wW_k_X7_bodyHolds ty (X 28) (X 29) (X 30) (X 31) (X 32) (X 33) (X 34) wn w1 w2 w3)) (pl := pw ty pp) (va_runV (As := [.int v6_12, .int a1, .int t_4]) (rest := []) ⟨hx, hb, hml, hown, hts⟩ (k_X7_bodyHolds l D ty td mi H.size (X 28) (X 29) (X 30) (X 31) (X 32) (X 33) (X 34) wn w1 w2 w3 v6_12 a1 t_4 t_65 ht_65) (cwV 3 hts gv_k_X9_costOf_3 rfl rfl rfl (by decide +kernel) ⟨(Nat.le_of_ble_eq_true rfl), (Nat.le_of_ble_eq_true rfl)⟩) (wm_V (wm_preS (vP_left hP) (vD_left hD) hK hE hS hA [false, false, false, true, true, true, true] rfl) (va_recv (q0 := 3) (ci := 9) hK hP rfl rfl)) rfl rfl hl.1 rfl (lv_room (Nat.le_of_ble_eq_true rfl)) dX9_costOf_65 ⟨(Nat.le_of_ble_eq_true rfl), (Nat.le_of_ble_eq_true rfl)⟩) hS hA hP hD [false, false, false, true, true, true, true] rfl (fun _ _ h => by rcases h with ⟨-, -, rfl⟩; rfl) (fun r u H locs hw hP hD hS => ?_)
            obtain ⟨hr0, c_12, rfl⟩ := hw
            subst r
            have hP : va_P D vwCl ((wW_k_X9_costOf ty X pn rn tn en rf an ch cg fb mh ml ih lb ic wn w1 w2 w3 obi sc) ++ pw ty pp) H := hP
            have hD : va_D A ((wW_k_X9_costOf ty X pn rn tn en rf an ch cg fb mh ml ih lb ic wn w1 w2 w3 obi sc) ++ pw ty pp) := hD
            refine W.widen (k := 0) (n := 0) (Nat.le_of_ble_eq_true rfl) (Nat.le_of_ble_eq_true rfl) ?_
            refine lv_if_eq (tgt := 80) hx hb dX9_costOf_68 (by decide) (fun c_13 => ?_) (fun c_13 => ?_)
            · rw [if_pos c_13] at hT
              exact J_80 v3_12 hT _ _ hP hD hS _ (lv_sub hl [1, 2, 3, 4, 5, 6] rfl)
            · rw [if_neg c_13] at hT
              refine lv_lload_n hx hb dX9_costOf_71 rfl (lv_at hl 4 rfl) ?_
              refine lv_aload hx hb dX9_costOf_72 (lv_at hl 0 rfl) ?_
              obtain ⟨k_14, hk_14⟩ := List.getElem?_of_mem (pw_rule (ty := ty) (p := pp) (L := [((X 1), .inr (8, [.ref (X 2), .int pn, .ref (X 3), .int rn, .ref (X 4), .ref (X 5), .int tn, .ref (X 6), .ref (X 7), .int en])), ((X 3), .inl (ty 4, 20, .inr (.inr (.inr (.inr rf))))), ((X 20), .inr (11, [.ref (X 1), .ref (X 8), .ref (X 21), .ref (X 28), .ref (X 35), .int an, .ref (X 36), .ref (X 37), .ref (X 38), .int ch, .int cg, .int fb, .int mh, .int ml, .int ih, .int lb, .int ic])), ((X 28), .inr (9, [.ref (X 29), .ref (X 30), .ref (X 31), .ref (X 32), .ref (X 33), .ref (X 34), .int wn])), ((X 29), .inl (ty 0, 300, .inl w1)), ((X 30), .inl (ty 0, 300, .inl w2)), ((X 31), .inl (ty 0, 300, .inl w3)), ((X 36), .inl (ty 0, 6, .inl obi)), ((X 37), .inl (ty 0, 6, .inl sc))]) (mm_k_X6_ruleAt pp rn rf t_34 hok hru _ (by rw [← ht_37]; exact ho_37)))
              refine va_getN (D := D) (ci := 10) (v := .int (pI pp o_37 5)) (C := RX8) (T := TX8) (N := 11) hx hb hts iv_k_X9_costOf_X8 hown hK hP k_14 hk_14 rfl 5 (by decide) (hE.at (.fieldLinkNest "AnswerFold$Solver" 297 "AnswerFold$Rule" "weight" "I" "AnswerFold") (by decide +kernel)) (fun _ h9 => h9) rfl dX9_costOf_74 ?_
              refine lv_i2l hx hb dX9_costOf_77 rfl ?_
              refine lv_ladd hx hb dX9_costOf_78 ?_
              refine lv_lstore_n (lv' := [(3, .long (v3_12 + ((pI pp o_37 5).toInt64))), (7, .ref o_37), (0, .ref (X 20)), (1, .int a1), (2, .int a2), (5, .int t_4), (6, .int v6_12)]) hx hb dX9_costOf_79 rfl hl (by decide) rfl (fun ls hl => ?_)
              exact J_80 (v3_12 + ((pI pp o_37 5).toInt64)) hT _ _ hP hD hS _ (lv_sub hl [2, 3, 4, 0, 5, 6] rfl)
  exact L_12 wF 0 0 (wF_up 0) hT (by decide) _ _ hP hD hS _ (lv_sub hl [3, 4, 5, 2, 1, 0] rfl)
theorem dX9_countByAll_0 : decode cX9_countByAll 0 = .ok (.iconst 0, 1) := by decide +kernel
theorem dX9_countByAll_1 : decode cX9_countByAll 1 = .ok (.istore_n 1, 1) := by decide +kernel
theorem dX9_countByAll_2 : decode cX9_countByAll 2 = .ok (.aload_n 0, 1) := by decide +kernel
theorem dX9_countByAll_3 : decode cX9_countByAll 3 = .ok (.invokevirtual 218, 3) := by decide +kernel
theorem dX9_countByAll_6 : decode cX9_countByAll 6 = .ok (.istore_n 2, 1) := by decide +kernel
theorem dX9_countByAll_7 : decode cX9_countByAll 7 = .ok (.iload_n 2, 1) := by decide +kernel
theorem dX9_countByAll_8 : decode cX9_countByAll 8 = .ok (.ifCond .lt 36, 3) := by decide +kernel
theorem dX9_countByAll_11 : decode cX9_countByAll 11 = .ok (.aload_n 0, 1) := by decide +kernel
theorem dX9_countByAll_12 : decode cX9_countByAll 12 = .ok (.iload_n 2, 1) := by decide +kernel
theorem dX9_countByAll_13 : decode cX9_countByAll 13 = .ok (.invokevirtual 221, 3) := by decide +kernel
theorem dX9_countByAll_16 : decode cX9_countByAll 16 = .ok (.ifCond .eq 22, 3) := by decide +kernel
theorem dX9_countByAll_19 : decode cX9_countByAll 19 = .ok (.aload_n 0, 1) := by decide +kernel
theorem dX9_countByAll_20 : decode cX9_countByAll 20 = .ok (.iload_n 2, 1) := by decide +kernel
theorem dX9_countByAll_21 : decode cX9_countByAll 21 = .ok (.invokevirtual 224, 3) := by decide +kernel
theorem dX9_countByAll_24 : decode cX9_countByAll 24 = .ok (.ifCond .eq 14, 3) := by decide +kernel
theorem dX9_countByAll_27 : decode cX9_countByAll 27 = .ok (.aload_n 0, 1) := by decide +kernel
theorem dX9_countByAll_28 : decode cX9_countByAll 28 = .ok (.iload_n 2, 1) := by decide +kernel
theorem dX9_countByAll_29 : decode cX9_countByAll 29 = .ok (.invokevirtual 238, 3) := by decide +kernel
theorem dX9_countByAll_32 : decode cX9_countByAll 32 = .ok (.ifCond .ne 6, 3) := by decide +kernel
theorem dX9_countByAll_35 : decode cX9_countByAll 35 = .ok (.iinc 1 1, 3) := by decide +kernel
theorem dX9_countByAll_38 : decode cX9_countByAll 38 = .ok (.iinc 2 (-1), 3) := by decide +kernel
theorem dX9_countByAll_41 : decode cX9_countByAll 41 = .ok (.goto (-34), 3) := by decide +kernel
theorem dX9_countByAll_44 : decode cX9_countByAll 44 = .ok (.iload_n 1, 1) := by decide +kernel
theorem dX9_countByAll_45 : decode cX9_countByAll 45 = .ok (.ireturn, 1) := by decide +kernel
def wW_k_X9_countByAll (ty : Nat → ClassId) (X : Nat → Nat) (z9_0 : Int32) (z9_1 : Int32) (z9_2 : Int32) (z9_3 : Int32) (z9_4 : Nat → Option Nat) (z9_5 : Int32) (z9_6 : Int32) (z9_7 : Int32) (z9_8 : Int32) (z9_9 : Int32) (z9_10 : Int32) (z9_11 : Int32) (z9_12 : Int32) (z9_13 : Int32) (z9_14 : Int32) (z9_15 : Int32) (z9_16 : Int32) (z9_17 : Int32) (z9_18 : Int32) (z9_19 : Int32) (z9_20 : Int32) (z9_21 : Nat → Int32) (z9_22 : Nat → Int32) (z9_23 : Nat → Int32) (z9_24 : Nat → Int32) (z9_25 : Nat → Int32) (z9_26 : Nat → Int32) (z9_27 : Nat → Int32) (z9_28 : Nat → Int32) (z9_29 : Nat → Int32) : va_W := [((X 1), .inr (8, [.ref (X 2), .int z9_0, .ref (X 3), .int z9_1, .ref (X 4), .ref (X 5), .int z9_2, .ref (X 6), .ref (X 7), .int z9_3])), ((X 3), .inl (ty 4, 20, .inr (.inr (.inr (.inr z9_4))))), ((X 8), .inr (5, [.ref (X 1), .ref (X 9), .ref (X 10), .ref (X 12), .ref (X 14), .int z9_5, .ref (X 15), .ref (X 16), .ref (X 17), .int z9_6, .ref (X 18), .ref (X 19), .int z9_7, .int z9_8, .int z9_9, .int z9_10])), ((X 20), .inr (11, [.ref (X 1), .ref (X 8), .ref (X 21), .ref (X 28), .ref (X 35), .int z9_11, .ref (X 36), .ref (X 37), .ref (X 38), .int z9_12, .int z9_13, .int z9_14, .int z9_15, .int z9_16, .int z9_17, .int z9_18, .int z9_19])), ((X 21), .inr (9, [.ref (X 22), .ref (X 23), .ref (X 24), .ref (X 25), .ref (X 26), .ref (X 27), .int z9_20])), ((X 22), .inl (ty 0, 300, .inl z9_21)), ((X 23), .inl (ty 0, 300, .inl z9_22)), ((X 24), .inl (ty 0, 300, .inl z9_23)), ((X 25), .inl (ty 0, 300, .inl z9_24)), ((X 26), .inl (ty 0, 300, .inl z9_25)), ((X 27), .inl (ty 0, 300, .inl z9_26)), ((X 35), .inl (ty 0, 300, .inl z9_27)), ((X 36), .inl (ty 0, 6, .inl z9_28)), ((X 37), .inl (ty 0, 6, .inl z9_29))]
def vs_k_X9_countByAll : List Cond := .code yX9_countByAll cX9_countByAll 3 (some .int) :: ([.methodLink RX9 218 yX9_fullSet, .instanceMethod yX9_fullSet, .selects RX9 yX9_fullSet yX9_fullSet, .initialized RX9, .methodLink RX9 221 yX9_fits, .instanceMethod yX9_fits, .selects RX9 yX9_fits yX9_fits, .methodLink RX9 224 yX9_isModel, .instanceMethod yX9_isModel, .selects RX9 yX9_isModel yX9_isModel, .methodLink RX9 238 yX9_hasSmallerByAll, .instanceMethod yX9_hasSmallerByAll, .selects RX9 yX9_hasSmallerByAll yX9_hasSmallerByAll] ++ (vs_k_X9_fullSet ++ (vs_k_X9_fits ++ (vs_k_X9_isModel ++ (vs_k_X9_hasSmallerByAll)))))
set_option maxRecDepth 20000 in
theorem gv_k_X9_countByAll_0 : GoodIn vs_k_X9_countByAll (wsV RX9 218 RX9 yX9_fullSet vs_k_X9_fullSet) := goodIn_app (goodIn_sub (by decide +kernel) (by decide +kernel)) (goodIn_sub (fun _ h => List.mem_cons_of_mem _ (List.mem_append_right _ (List.mem_append_left _ h))) (by decide +kernel))
set_option maxRecDepth 20000 in
theorem gv_k_X9_countByAll_1 : GoodIn vs_k_X9_countByAll (wsV RX9 221 RX9 yX9_fits vs_k_X9_fits) := goodIn_app (goodIn_sub (by decide +kernel) (by decide +kernel)) (goodIn_sub (fun _ h => List.mem_cons_of_mem _ (List.mem_append_right _ (List.mem_append_right _ (List.mem_append_left _ h)))) (by decide +kernel))
set_option maxRecDepth 20000 in
theorem gv_k_X9_countByAll_2 : GoodIn vs_k_X9_countByAll (wsV RX9 224 RX9 yX9_isModel vs_k_X9_isModel) := goodIn_app (goodIn_sub (by decide +kernel) (by decide +kernel)) (goodIn_sub (fun _ h => List.mem_cons_of_mem _ (List.mem_append_right _ (List.mem_append_right _ (List.mem_append_right _ (List.mem_append_left _ h))))) (by decide +kernel))
set_option maxRecDepth 20000 in
theorem gv_k_X9_countByAll_3 : GoodIn vs_k_X9_countByAll (wsV RX9 238 RX9 yX9_hasSmallerByAll vs_k_X9_hasSmallerByAll) := goodIn_app (goodIn_sub (by decide +kernel) (by decide +kernel)) (goodIn_sub (fun _ h => List.mem_cons_of_mem _ (List.mem_append_right _ (List.mem_append_right _ (List.mem_append_right _ (List.mem_append_right _ (h)))))) (by decide +kernel))
set_option maxHeartbeats 4000000 in
set_option maxRecDepth 100000 in
theorem k_X9_countByAll (l : Launch) (D : va_G) (ty : Nat → ClassId) (td mi sz : Nat) (pp : pT) (X : Nat → Nat) (pn : Int32) (rn : Int32) (tn : Int32) (en : Int32) (rf : Nat → Option Nat) (hn : Int32) (kn : Int32) (on : Int32) (cu : Int32) (pu : Int32) (gw : Int32) (an : Int32) (ch : Int32) (cg : Int32) (fb : Int32) (mh : Int32) (ml : Int32) (ih : Int32) (lb : Int32) (ic : Int32) (cn : Int32) (c1 : Nat → Int32) (c2 : Nat → Int32) (c3 : Nat → Int32) (c4 : Nat → Int32) (c5 : Nat → Int32) (c6 : Nat → Int32) (ac : Nat → Int32) (obi : Nat → Int32) (sc : Nat → Int32) (hok : pOK pp) (hru : ∀ (i a : Nat), rf i = some a → a ∈ pRA pp) (TT : r_k_X9_countByAll) (hTT : TT = m_k_X9_countByAll pp rn rf on an ch cg fb mh ml ih lb cn c1 c2 c3 c4 c5 c6 ac obi sc) : Met l yX9_countByAll vs_k_X9_countByAll { frames := 6, cells := 0, slots := 0, locals := 140 } (va_Pc [.ref (X 20)] (wq_P D ty td mi ((wW_k_X9_countByAll ty X pn rn tn en rf hn kn on cu pu gw an ch cg fb mh ml ih lb ic cn c1 c2 c3 c4 c5 c6 ac obi sc) ++ pw ty pp) sz)) (va_Qi (fun (r : Int32) (u : va_W) => (r = TT.1 ∧ (u = ((wW_k_X9_countByAll ty X pn rn tn en rf hn kn on cu pu gw TT.2.2.1 ch cg fb mh ml ih TT.2.1 ic cn c1 c2 c3 c4 c5 c6 TT.2.2.2 obi sc) ++ pw ty pp)))) (wq_B D (va_A ((wW_k_X9_countByAll ty X pn rn tn en rf hn kn on cu pu gw an ch cg fb mh ml ih lb ic cn c1 c2 c3 c4 c5 c6 ac obi sc) ++ pw ty pp) sz)) (va_A ((wW_k_X9_countByAll ty X pn rn tn en rf hn kn on cu pu gw an ch cg fb mh ml ih lb ic cn c1 c2 c3 c4 c5 c6 ac obi sc) ++ pw ty pp) sz)) 0 0 (va_A ((wW_k_X9_countByAll ty X pn rn tn en rf hn kn on cu pu gw an ch cg fb mh ml ih lb ic cn c1 c2 c3 c4 c5 c6 ac obi sc) ++ pw ty pp) sz) := by
  refine Met.ofW (cc := cX9_countByAll) (maxL := 3) (ret := (some .int)) (by decide) rfl ?_
  intro p e s m args below meth c s₁ B hml hv
  obtain ⟨rfl, hsz, hP, hK, hD0, hE⟩ := hv
  have hx := B.exec
  have hb := B.bytes
  have hr := B.returns
  have hts := atoms_spec (ws := vs_k_X9_countByAll) B.pre
  have hown : s.vm.findClass RX9 = some m.cls := findClass_of_methodNamed B.named
  have hlocks := B.notSynchronized
  subst hsz
  have hD := hD0.self (sz := s.heap.size)
  generalize hAe : va_A ((wW_k_X9_countByAll ty X pn rn tn en rf hn kn on cu pu gw an ch cg fb mh ml ih lb ic cn c1 c2 c3 c4 c5 c6 ac obi sc) ++ pw ty pp) s.heap.size = A at hD hE ⊢
  have hA : ∀ q : Nat, s.heap.size ≤ q → A q := fun q h => by rw [← hAe]; exact Or.inr h
  have hS : va_S A s.heap s.heap [] := va_S.rf
  have hP : va_P D vwCl ((wW_k_X9_countByAll ty X pn rn tn en rf hn kn on cu pu gw an ch cg fb mh ml ih lb ic cn c1 c2 c3 c4 c5 c6 ac obi sc) ++ pw ty pp) s.heap := hP
  have hl := lv_entry ([.ref (X 20)]) (n := 3) (Nat.le_of_ble_eq_true rfl)
  rw [lg_entry_eq]
  generalize (lg_sl ([.ref (X 20)]) ++ List.replicate (3 - (lg_sl ([.ref (X 20)])).length) Slot.unset).toArray = ls at hl ⊢
  have hl : lv_has ls 3 [(0, .ref (X 20))] := hl
  have END : ∀ (r : Int32) (w9_0 : Int32) (w9_1 : Int32) (w9_2 : Nat → Int32), TT = (r, w9_0, w9_1, w9_2) → ∀ (H : Heap) (locs : List Loc), va_P D vwCl ((wW_k_X9_countByAll ty X pn rn tn en rf hn kn on cu pu gw w9_1 ch cg fb mh ml ih w9_0 ic cn c1 c2 c3 c4 c5 c6 w9_2 obi sc) ++ pw ty pp) H → va_D A ((wW_k_X9_countByAll ty X pn rn tn en rf hn kn on cu pu gw w9_1 ch cg fb mh ml ih w9_0 ic cn c1 c2 c3 c4 c5 c6 w9_2 obi sc) ++ pw ty pp) → va_S A s.heap H locs → ∀ (ls : Array Slot) (pc : Nat), decode cX9_countByAll pc = .ok (.ireturn, 1) → W p l e (headSpec vs_k_X9_countByAll { frames := 6, cells := 0, slots := 0, locals := 140 }).room s m ([.ref (X 20)] : List Value).toArray below meth c H locs 0 0 (MQ below (va_Qi (fun (r : Int32) (u : va_W) => (r = TT.1 ∧ (u = ((wW_k_X9_countByAll ty X pn rn tn en rf hn kn on cu pu gw TT.2.2.1 ch cg fb mh ml ih TT.2.1 ic cn c1 c2 c3 c4 c5 c6 TT.2.2.2 obi sc) ++ pw ty pp)))) (wq_B D A) A) ([.ref (X 20)] : List Value).toArray s 0 0 A) (F0 m pc ls [.int r]) := by
    intro r w9_0 w9_1 w9_2 hT H locs hP hD hS ls pc hd
    have hM : TT = (r, w9_0, w9_1, w9_2) := hT
    exact W.iret (v := r) hx hb hr (fun t ht hW => ⟨⟨r, ((wW_k_X9_countByAll ty X pn rn tn en rf hn kn on cu pu gw w9_1 ch cg fb mh ml ih w9_0 ic cn c1 c2 c3 c4 c5 c6 w9_2 obi sc) ++ pw ty pp), rfl, ⟨(by rw [hM]), (by rw [hM])⟩, wq_B.of ht hP hD⟩, hS.F ht⟩) hS.2.2 hd
  have hT := hTT
  rw [m_k_X9_countByAll] at hT
  refine lv_iconst (v := 0) hx hb dX9_countByAll_0 (by decide) ?_
  refine lv_istore_n (lv' := [(1, .int 0), (0, .ref (X 20))]) hx hb dX9_countByAll_1 rfl hl (by decide) rfl (fun ls hl => ?_)
  refine lv_aload_n hx hb dX9_countByAll_2 rfl (lv_at hl 1 rfl) ?_
  obtain ⟨t_3, ht_3⟩ : ∃ t, t = m_k_X9_fullSet on := ⟨_, rfl⟩
  rw [lE_eq ht_3] at hT
  refine wq_iQW (wc := (wW_k_X9_fullSet ty X hn kn on cu pu gw an ch cg fb mh ml ih lb ic)) (pl := pw ty pp) (va_runV (As := []) (rest := []) ⟨hx, hb, hml, hown, hts⟩ (k_X9_fullSet l D ty td mi s.heap.size X hn kn on cu pu gw an ch cg fb mh ml ih lb ic t_3 ht_3) (cwV 0 hts gv_k_X9_countByAll_0 rfl rfl rfl (by decide +kernel) ⟨(Nat.le_of_ble_eq_true rfl), (Nat.le_of_ble_eq_true rfl)⟩) (wm_V (wm_preS (vP_left hP) (vD_left hD) hK hE hS hA [false, false, true, true] rfl) (va_recv (q0 := 3) (ci := 11) hK hP rfl rfl)) rfl rfl hl.1 rfl (lv_room (Nat.le_of_ble_eq_true rfl)) dX9_countByAll_3 ⟨(Nat.le_of_ble_eq_true rfl), (Nat.le_of_ble_eq_true rfl)⟩) hS hA hP hD [false, false, true, true] rfl (fun _ _ h => by rcases h with ⟨-, rfl⟩; rfl) (fun r u H locs hw hP hD hS => ?_)
  obtain ⟨hr0, rfl⟩ := hw
  subst r
  have hP : va_P D vwCl ((wW_k_X9_countByAll ty X pn rn tn en rf hn kn on cu pu gw an ch cg fb mh ml ih lb ic cn c1 c2 c3 c4 c5 c6 ac obi sc) ++ pw ty pp) H := hP
  have hD : va_D A ((wW_k_X9_countByAll ty X pn rn tn en rf hn kn on cu pu gw an ch cg fb mh ml ih lb ic cn c1 c2 c3 c4 c5 c6 ac obi sc) ++ pw ty pp) := hD
  refine W.widen (k := 0) (n := 0) (Nat.le_of_ble_eq_true rfl) (Nat.le_of_ble_eq_true rfl) ?_
  refine lv_istore_n (lv' := [(2, .int t_3), (1, .int 0), (0, .ref (X 20))]) hx hb dX9_countByAll_6 rfl hl (by decide) rfl (fun ls hl => ?_)
  have L_7 : ∀ (n_7 : Nat) (v1_7 : Int32) (v2_7 : Int32) (x20_15_7 : Int32) (x20_5_7 : Int32) (x35_f_7 : Nat → Int32), (v2_7.toInt + 2147483648).toNat < n_7 → TT = m_k_X9_countByAll_7 pp rn rf ch cg fb mh ml ih cn c1 c2 c3 c4 c5 c6 obi sc n_7 v1_7 v2_7 x20_15_7 x20_5_7 x35_f_7 → ∀ (H : Heap) (locs : List Loc), va_P D vwCl ((wW_k_X9_countByAll ty X pn rn tn en rf hn kn on cu pu gw x20_5_7 ch cg fb mh ml ih x20_15_7 ic cn c1 c2 c3 c4 c5 c6 x35_f_7 obi sc) ++ pw ty pp) H → va_D A ((wW_k_X9_countByAll ty X pn rn tn en rf hn kn on cu pu gw x20_5_7 ch cg fb mh ml ih x20_15_7 ic cn c1 c2 c3 c4 c5 c6 x35_f_7 obi sc) ++ pw ty pp) → va_S A s.heap H locs → ∀ ls : Array Slot, lv_has ls 3 [(0, .ref (X 20)), (1, .int v1_7), (2, .int v2_7)] → W p l e (headSpec vs_k_X9_countByAll { frames := 6, cells := 0, slots := 0, locals := 140 }).room s m ([.ref (X 20)] : List Value).toArray below meth c H locs 0 0 (MQ below (va_Qi (fun (r : Int32) (u : va_W) => (r = TT.1 ∧ (u = ((wW_k_X9_countByAll ty X pn rn tn en rf hn kn on cu pu gw TT.2.2.1 ch cg fb mh ml ih TT.2.1 ic cn c1 c2 c3 c4 c5 c6 TT.2.2.2 obi sc) ++ pw ty pp)))) (wq_B D A) A) ([.ref (X 20)] : List Value).toArray s 0 0 A) (F0 m 7 ls []) := by
    intro n_7
    induction n_7 with
    | zero => intro v1_7 v2_7 x20_15_7 x20_5_7 x35_f_7 hu; exact absurd hu (Nat.not_lt_zero _)
    | succ n_7 ih_7 =>
      intro v1_7 v2_7 x20_15_7 x20_5_7 x35_f_7 hu_7 hT  H locs hP hD hS ls hl
      rw [m_k_X9_countByAll_7_succ, m_k_X9_countByAll_7s] at hT
      refine lv_iload_n hx hb dX9_countByAll_7 rfl (lv_at hl 2 rfl) ?_
      refine lv_if_lt (tgt := 44) hx hb dX9_countByAll_8 (by decide) (fun c_3 => ?_) (fun c_3 => ?_)
      · rw [if_pos c_3] at hT
        refine lv_iload_n hx hb dX9_countByAll_44 rfl (lv_at hl 1 rfl) ?_
        exact END v1_7 x20_15_7 x20_5_7 x35_f_7 hT _ _ hP hD hS _ _ dX9_countByAll_45
      · rw [if_neg c_3] at hT
        refine lv_aload_n hx hb dX9_countByAll_11 rfl (lv_at hl 0 rfl) ?_
        refine lv_iload_n hx hb dX9_countByAll_12 rfl (lv_at hl 2 rfl) ?_
        obtain ⟨t_13, ht_13⟩ : ∃ t, t = m_k_X9_fits mh ml ih v2_7 := ⟨_, rfl⟩
        rw [lE_eq ht_13] at hT
        refine wq_iQW (wc := (wW_k_X9_fits ty X x20_5_7 ch cg fb mh ml ih x20_15_7 ic)) (pl := pw ty pp) (va_runV (As := [.int v2_7]) (rest := []) ⟨hx, hb, hml, hown, hts⟩ (k_X9_fits l D ty td mi H.size X x20_5_7 ch cg fb mh ml ih x20_15_7 ic v2_7 t_13 ht_13) (cwV 1 hts gv_k_X9_countByAll_1 rfl rfl rfl (by decide +kernel) ⟨(Nat.le_of_ble_eq_true rfl), (Nat.le_of_ble_eq_true rfl)⟩) (wm_V (wm_preS (vP_left hP) (vD_left hD) hK hE hS hA [false, false, false, true] rfl) (va_recv (q0 := 3) (ci := 11) hK hP rfl rfl)) rfl rfl hl.1 rfl (lv_room (Nat.le_of_ble_eq_true rfl)) dX9_countByAll_13 ⟨(Nat.le_of_ble_eq_true rfl), (Nat.le_of_ble_eq_true rfl)⟩) hS hA hP hD [false, false, false, true] rfl (fun _ _ h => by rcases h with ⟨-, -, rfl⟩; rfl) (fun r u H locs hw hP hD hS => ?_)
        obtain ⟨hr0, c_6, rfl⟩ := hw
        subst r
        have hP : va_P D vwCl ((wW_k_X9_countByAll ty X pn rn tn en rf hn kn on cu pu gw x20_5_7 ch cg fb mh ml ih x20_15_7 ic cn c1 c2 c3 c4 c5 c6 x35_f_7 obi sc) ++ pw ty pp) H := hP
        have hD : va_D A ((wW_k_X9_countByAll ty X pn rn tn en rf hn kn on cu pu gw x20_5_7 ch cg fb mh ml ih x20_15_7 ic cn c1 c2 c3 c4 c5 c6 x35_f_7 obi sc) ++ pw ty pp) := hD
        refine W.widen (k := 0) (n := 0) (Nat.le_of_ble_eq_true rfl) (Nat.le_of_ble_eq_true rfl) ?_
        have J_38 : ∀ (v1_38 : Int32) (x20_15_38 : Int32) (x20_5_38 : Int32) (x35_f_38 : Nat → Int32), TT = m_k_X9_countByAll_38 (m_k_X9_countByAll_7 pp rn rf ch cg fb mh ml ih cn c1 c2 c3 c4 c5 c6 obi sc n_7) v2_7 v1_38 x20_15_38 x20_5_38 x35_f_38 → ∀ (H : Heap) (locs : List Loc), va_P D vwCl ((wW_k_X9_countByAll ty X pn rn tn en rf hn kn on cu pu gw x20_5_38 ch cg fb mh ml ih x20_15_38 ic cn c1 c2 c3 c4 c5 c6 x35_f_38 obi sc) ++ pw ty pp) H → va_D A ((wW_k_X9_countByAll ty X pn rn tn en rf hn kn on cu pu gw x20_5_38 ch cg fb mh ml ih x20_15_38 ic cn c1 c2 c3 c4 c5 c6 x35_f_38 obi sc) ++ pw ty pp) → va_S A s.heap H locs → ∀ ls : Array Slot, lv_has ls 3 [(0, .ref (X 20)), (1, .int v1_38), (2, .int v2_7)] → W p l e (headSpec vs_k_X9_countByAll { frames := 6, cells := 0, slots := 0, locals := 140 }).room s m ([.ref (X 20)] : List Value).toArray below meth c H locs 0 0 (MQ below (va_Qi (fun (r : Int32) (u : va_W) => (r = TT.1 ∧ (u = ((wW_k_X9_countByAll ty X pn rn tn en rf hn kn on cu pu gw TT.2.2.1 ch cg fb mh ml ih TT.2.1 ic cn c1 c2 c3 c4 c5 c6 TT.2.2.2 obi sc) ++ pw ty pp)))) (wq_B D A) A) ([.ref (X 20)] : List Value).toArray s 0 0 A) (F0 m 38 ls []) := by
          intro v1_38 x20_15_38 x20_5_38 x35_f_38 hT  H locs hP hD hS ls hl
          rw [m_k_X9_countByAll_38] at hT
          refine lv_iinc (v := v2_7 + (-1)) (lv' := [(2, .int (v2_7 + (-1))), (0, .ref (X 20)), (1, .int v1_38)]) hx hb dX9_countByAll_38 hl (k := 2) rfl (by rfl) (by decide) rfl (fun ls hl => ?_)
          refine lv_goto (tgt := 7) hx hb dX9_countByAll_41 (by decide) ?_
          exact ih_7 v1_38 (v2_7 + (-1)) x20_15_38 x20_5_38 x35_f_38 (wi_dn hu_7 (wi_lo c_3)) hT _ _ hP hD hS _ (lv_sub hl [1, 2, 0] rfl)
        refine lv_if_eq (tgt := 38) hx hb dX9_countByAll_16 (by decide) (fun c_7 => ?_) (fun c_7 => ?_)
        · rw [if_pos c_7] at hT
          exact J_38 v1_7 x20_15_7 x20_5_7 x35_f_7 hT _ _ hP hD hS _ (lv_sub hl [0, 1, 2] rfl)
        · rw [if_neg c_7] at hT
          refine lv_aload_n hx hb dX9_countByAll_19 rfl (lv_at hl 0 rfl) ?_
          refine lv_iload_n hx hb dX9_countByAll_20 rfl (lv_at hl 2 rfl) ?_
          obtain ⟨t_21, ht_21⟩ : ∃ t, t = m_k_X9_isModel pp rn rf cg x20_15_7 cn c1 c2 c3 c4 c5 c6 obi sc v2_7 := ⟨_, rfl⟩
          rw [lE_eq ht_21] at hT
          refine wq_iPW (wc := (wW_k_X9_isModel ty X pn rn tn en rf x20_5_7 ch cg fb mh ml ih x20_15_7 ic cn c1 c2 c3 c4 c5 c6 obi sc)) (pl := pw ty pp) (ux := (wW_k_X9_isModel ty X pn rn tn en rf x20_5_7 ch cg fb mh ml ih t_21.2 ic cn c1 c2 c3 c4 c5 c6 obi sc)) (va_runV (As := [.int v2_7]) (rest := []) ⟨hx, hb, hml, hown, hts⟩ (k_X9_isModel l D ty td mi H.size pp X pn rn tn en rf x20_5_7 ch cg fb mh ml ih x20_15_7 ic cn c1 c2 c3 c4 c5 c6 obi sc v2_7 hok hru t_21 ht_21) (cwV 1 hts gv_k_X9_countByAll_2 rfl rfl rfl (by decide +kernel) ⟨(Nat.le_of_ble_eq_true rfl), (Nat.le_of_ble_eq_true rfl)⟩) (wm_V (wm_preSP hP hD hK hE hS hA [true, true, false, true, true, true, true, true, true, true, true, false, true, true] rfl) (va_recv (q0 := 3) (ci := 11) hK hP rfl rfl)) rfl rfl hl.1 rfl (lv_room (Nat.le_of_ble_eq_true rfl)) dX9_countByAll_21 ⟨(Nat.le_of_ble_eq_true rfl), (Nat.le_of_ble_eq_true rfl)⟩) hS hA hP hD [true, true, false, true, true, true, true, true, true, true, true, false, true, true] rfl rfl (fun _ _ h => h.2.2) (fun r H locs hw hP hD hS => ?_)
          obtain ⟨rfl, c_10, -⟩ := hw
          have hP : va_P D vwCl ((wW_k_X9_countByAll ty X pn rn tn en rf hn kn on cu pu gw x20_5_7 ch cg fb mh ml ih t_21.2 ic cn c1 c2 c3 c4 c5 c6 x35_f_7 obi sc) ++ pw ty pp) H := hP
          have hD : va_D A ((wW_k_X9_countByAll ty X pn rn tn en rf hn kn on cu pu gw x20_5_7 ch cg fb mh ml ih t_21.2 ic cn c1 c2 c3 c4 c5 c6 x35_f_7 obi sc) ++ pw ty pp) := hD
          refine W.widen (k := 0) (n := 0) (Nat.le_of_ble_eq_true rfl) (Nat.le_of_ble_eq_true rfl) ?_
          refine lv_if_eq (tgt := 38) hx hb dX9_countByAll_24 (by decide) (fun c_11 => ?_) (fun c_11 => ?_)
          · rw [if_pos c_11] at hT
            exact J_38 v1_7 t_21.2 x20_5_7 x35_f_7 hT _ _ hP hD hS _ (lv_sub hl [0, 1, 2] rfl)
          · rw [if_neg c_11] at hT
            refine lv_aload_n hx hb dX9_countByAll_27 rfl (lv_at hl 0 rfl) ?_
            refine lv_iload_n hx hb dX9_countByAll_28 rfl (lv_at hl 2 rfl) ?_
            obtain ⟨t_29, ht_29⟩ : ∃ t, t = m_k_X9_hasSmallerByAll pp rn rf ch cg fb cn c1 c2 c3 c4 x35_f_7 obi sc v2_7 := ⟨_, rfl⟩
            rw [lE_eq ht_29] at hT
            refine wq_iPW (wc := (wW_k_X9_hasSmallerByAll ty X pn rn tn en rf x20_5_7 ch cg fb mh ml ih t_21.2 ic cn c1 c2 c3 c4 x35_f_7 obi sc)) (pl := pw ty pp) (ux := (wW_k_X9_hasSmallerByAll ty X pn rn tn en rf t_29.2.1 ch cg fb mh ml ih t_21.2 ic cn c1 c2 c3 c4 t_29.2.2 obi sc)) (va_runV (As := [.int v2_7]) (rest := []) ⟨hx, hb, hml, hown, hts⟩ (k_X9_hasSmallerByAll l D ty td mi H.size pp X pn rn tn en rf x20_5_7 ch cg fb mh ml ih t_21.2 ic cn c1 c2 c3 c4 x35_f_7 obi sc v2_7 hok hru t_29 ht_29) (cwV 1 hts gv_k_X9_countByAll_3 rfl rfl rfl (by decide +kernel) ⟨(Nat.le_of_ble_eq_true rfl), (Nat.le_of_ble_eq_true rfl)⟩) (wm_V (wm_preSP hP hD hK hE hS hA [true, true, false, true, true, true, true, true, true, false, false, true, true, true] rfl) (va_recv (q0 := 3) (ci := 11) hK hP rfl rfl)) rfl rfl hl.1 rfl (lv_room (Nat.le_of_ble_eq_true rfl)) dX9_countByAll_29 ⟨(Nat.le_of_ble_eq_true rfl), (Nat.le_of_ble_eq_true rfl)⟩) hS hA hP hD [true, true, false, true, true, true, true, true, true, false, false, true, true, true] rfl rfl (fun _ _ h => h.2.2) (fun r H locs hw hP hD hS => ?_)
            obtain ⟨rfl, c_14, -⟩ := hw
            have hP : va_P D vwCl ((wW_k_X9_countByAll ty X pn rn tn en rf hn kn on cu pu gw t_29.2.1 ch cg fb mh ml ih t_21.2 ic cn c1 c2 c3 c4 c5 c6 t_29.2.2 obi sc) ++ pw ty pp) H := hP
            have hD : va_D A ((wW_k_X9_countByAll ty X pn rn tn en rf hn kn on cu pu gw t_29.2.1 ch cg fb mh ml ih t_21.2 ic cn c1 c2 c3 c4 c5 c6 t_29.2.2 obi sc) ++ pw ty pp) := hD
            refine W.widen (k := 0) (n := 0) (Nat.le_of_ble_eq_true rfl) (Nat.le_of_ble_eq_true rfl) ?_
            refine lv_if_ne (tgt := 38) hx hb dX9_countByAll_32 (by decide) (fun c_15 => ?_) (fun c_15 => ?_)
            · rw [if_neg c_15] at hT
              exact J_38 v1_7 t_21.2 t_29.2.1 t_29.2.2 hT _ _ hP hD hS _ (lv_sub hl [0, 1, 2] rfl)
            · rw [if_pos c_15] at hT
              refine lv_iinc (v := v1_7 + 1) (lv' := [(1, .int (v1_7 + 1)), (0, .ref (X 20)), (2, .int v2_7)]) hx hb dX9_countByAll_35 hl (k := 1) rfl (by rfl) (by decide) rfl (fun ls hl => ?_)
              exact J_38 (v1_7 + 1) t_21.2 t_29.2.1 t_29.2.2 hT _ _ hP hD hS _ (lv_sub hl [1, 0, 2] rfl)
  exact L_7 wF 0 t_3 lb an ac (wF_dn t_3) hT _ _ hP hD hS _ (lv_sub hl [2, 1, 0] rfl)
theorem dX9_findAnswers_0 : decode cX9_findAnswers 0 = .ok (.aload_n 1, 1) := by decide +kernel
theorem dX9_findAnswers_1 : decode cX9_findAnswers 1 = .ok (.iconst 0, 1) := by decide +kernel
theorem dX9_findAnswers_2 : decode cX9_findAnswers 2 = .ok (.putfield 215, 3) := by decide +kernel
theorem dX9_findAnswers_5 : decode cX9_findAnswers 5 = .ok (.aload_n 0, 1) := by decide +kernel
theorem dX9_findAnswers_6 : decode cX9_findAnswers 6 = .ok (.invokevirtual 218, 3) := by decide +kernel
theorem dX9_findAnswers_9 : decode cX9_findAnswers 9 = .ok (.istore_n 2, 1) := by decide +kernel
theorem dX9_findAnswers_10 : decode cX9_findAnswers 10 = .ok (.iload_n 2, 1) := by decide +kernel
theorem dX9_findAnswers_11 : decode cX9_findAnswers 11 = .ok (.ifCond .lt 61, 3) := by decide +kernel
theorem dX9_findAnswers_14 : decode cX9_findAnswers 14 = .ok (.aload_n 0, 1) := by decide +kernel
theorem dX9_findAnswers_15 : decode cX9_findAnswers 15 = .ok (.iload_n 2, 1) := by decide +kernel
theorem dX9_findAnswers_16 : decode cX9_findAnswers 16 = .ok (.invokevirtual 221, 3) := by decide +kernel
theorem dX9_findAnswers_19 : decode cX9_findAnswers 19 = .ok (.ifCond .eq 47, 3) := by decide +kernel
theorem dX9_findAnswers_22 : decode cX9_findAnswers 22 = .ok (.aload_n 0, 1) := by decide +kernel
theorem dX9_findAnswers_23 : decode cX9_findAnswers 23 = .ok (.iload_n 2, 1) := by decide +kernel
theorem dX9_findAnswers_24 : decode cX9_findAnswers 24 = .ok (.invokevirtual 224, 3) := by decide +kernel
theorem dX9_findAnswers_27 : decode cX9_findAnswers 27 = .ok (.ifCond .eq 39, 3) := by decide +kernel
theorem dX9_findAnswers_30 : decode cX9_findAnswers 30 = .ok (.aload_n 0, 1) := by decide +kernel
theorem dX9_findAnswers_31 : decode cX9_findAnswers 31 = .ok (.iload_n 2, 1) := by decide +kernel
theorem dX9_findAnswers_32 : decode cX9_findAnswers 32 = .ok (.invokevirtual 227, 3) := by decide +kernel
theorem dX9_findAnswers_35 : decode cX9_findAnswers 35 = .ok (.ifCond .ne 31, 3) := by decide +kernel
theorem dX9_findAnswers_38 : decode cX9_findAnswers 38 = .ok (.aload_n 1, 1) := by decide +kernel
theorem dX9_findAnswers_39 : decode cX9_findAnswers 39 = .ok (.iload_n 2, 1) := by decide +kernel
theorem dX9_findAnswers_40 : decode cX9_findAnswers 40 = .ok (.aload_n 0, 1) := by decide +kernel
theorem dX9_findAnswers_41 : decode cX9_findAnswers 41 = .ok (.iload_n 2, 1) := by decide +kernel
theorem dX9_findAnswers_42 : decode cX9_findAnswers 42 = .ok (.iconst 1, 1) := by decide +kernel
theorem dX9_findAnswers_43 : decode cX9_findAnswers 43 = .ok (.invokevirtual 230, 3) := by decide +kernel
theorem dX9_findAnswers_46 : decode cX9_findAnswers 46 = .ok (.aload_n 0, 1) := by decide +kernel
theorem dX9_findAnswers_47 : decode cX9_findAnswers 47 = .ok (.iload_n 2, 1) := by decide +kernel
theorem dX9_findAnswers_48 : decode cX9_findAnswers 48 = .ok (.iconst 2, 1) := by decide +kernel
theorem dX9_findAnswers_49 : decode cX9_findAnswers 49 = .ok (.invokevirtual 230, 3) := by decide +kernel
theorem dX9_findAnswers_52 : decode cX9_findAnswers 52 = .ok (.aload_n 0, 1) := by decide +kernel
theorem dX9_findAnswers_53 : decode cX9_findAnswers 53 = .ok (.iload_n 2, 1) := by decide +kernel
theorem dX9_findAnswers_54 : decode cX9_findAnswers 54 = .ok (.iconst 3, 1) := by decide +kernel
theorem dX9_findAnswers_55 : decode cX9_findAnswers 55 = .ok (.invokevirtual 230, 3) := by decide +kernel
theorem dX9_findAnswers_58 : decode cX9_findAnswers 58 = .ok (.invokevirtual 234, 3) := by decide +kernel
theorem dX9_findAnswers_61 : decode cX9_findAnswers 61 = .ok (.ifCond .ne 5, 3) := by decide +kernel
theorem dX9_findAnswers_64 : decode cX9_findAnswers 64 = .ok (.iconst 0, 1) := by decide +kernel
theorem dX9_findAnswers_65 : decode cX9_findAnswers 65 = .ok (.ireturn, 1) := by decide +kernel
theorem dX9_findAnswers_66 : decode cX9_findAnswers 66 = .ok (.iinc 2 (-1), 3) := by decide +kernel
theorem dX9_findAnswers_69 : decode cX9_findAnswers 69 = .ok (.goto (-59), 3) := by decide +kernel
theorem dX9_findAnswers_72 : decode cX9_findAnswers 72 = .ok (.iconst 1, 1) := by decide +kernel
theorem dX9_findAnswers_73 : decode cX9_findAnswers 73 = .ok (.ireturn, 1) := by decide +kernel
def wW_k_X9_findAnswers (ty : Nat → ClassId) (X : Nat → Nat) (z9_0 : Int32) (z9_1 : Int32) (z9_2 : Int32) (z9_3 : Int32) (z9_4 : Nat → Option Nat) (z9_5 : Int32) (z9_6 : Int32) (z9_7 : Int32) (z9_8 : Int32) (z9_9 : Int32) (z9_10 : Int32) (z9_11 : Int32) (z9_12 : Int32) (z9_13 : Int32) (z9_14 : Int32) (z9_15 : Int32) (z9_16 : Int32) (z9_17 : Int32) (z9_18 : Int32) (z9_19 : Int32) (z9_20 : Int32) (z9_21 : Nat → Int32) (z9_22 : Nat → Int32) (z9_23 : Nat → Int32) (z9_24 : Nat → Int32) (z9_25 : Nat → Int32) (z9_26 : Nat → Int32) (z9_27 : Int32) (z9_28 : Nat → Int32) (z9_29 : Nat → Int32) (z9_30 : Nat → Int32) (z9_31 : Nat → Int32) (z9_32 : Nat → Int32) (z9_33 : Nat → Int32) (z9_34 : Nat → Int32) (z9_35 : Int32) (z9_36 : Int32) (z9_37 : Nat → Int32) (z9_38 : Nat → Int64) : va_W := [((X 1), .inr (8, [.ref (X 2), .int z9_0, .ref (X 3), .int z9_1, .ref (X 4), .ref (X 5), .int z9_2, .ref (X 6), .ref (X 7), .int z9_3])), ((X 3), .inl (ty 4, 20, .inr (.inr (.inr (.inr z9_4))))), ((X 8), .inr (5, [.ref (X 1), .ref (X 9), .ref (X 10), .ref (X 12), .ref (X 14), .int z9_5, .ref (X 15), .ref (X 16), .ref (X 17), .int z9_6, .ref (X 18), .ref (X 19), .int z9_7, .int z9_8, .int z9_9, .int z9_10])), ((X 20), .inr (11, [.ref (X 1), .ref (X 8), .ref (X 21), .ref (X 28), .ref (X 35), .int z9_11, .ref (X 36), .ref (X 37), .ref (X 38), .int z9_12, .int z9_13, .int z9_14, .int z9_15, .int z9_16, .int z9_17, .int z9_18, .int z9_19])), ((X 21), .inr (9, [.ref (X 22), .ref (X 23), .ref (X 24), .ref (X 25), .ref (X 26), .ref (X 27), .int z9_20])), ((X 22), .inl (ty 0, 300, .inl z9_21)), ((X 23), .inl (ty 0, 300, .inl z9_22)), ((X 24), .inl (ty 0, 300, .inl z9_23)), ((X 25), .inl (ty 0, 300, .inl z9_24)), ((X 26), .inl (ty 0, 300, .inl z9_25)), ((X 27), .inl (ty 0, 300, .inl z9_26)), ((X 28), .inr (9, [.ref (X 29), .ref (X 30), .ref (X 31), .ref (X 32), .ref (X 33), .ref (X 34), .int z9_27])), ((X 29), .inl (ty 0, 300, .inl z9_28)), ((X 30), .inl (ty 0, 300, .inl z9_29)), ((X 31), .inl (ty 0, 300, .inl z9_30)), ((X 35), .inl (ty 0, 300, .inl z9_31)), ((X 36), .inl (ty 0, 6, .inl z9_32)), ((X 37), .inl (ty 0, 6, .inl z9_33)), ((X 38), .inl (ty 0, 26, .inl z9_34)), ((X 45), .inr (2, [.ref (X 46), .ref (X 47), .int z9_35, .int z9_36])), ((X 46), .inl (ty 0, 64, .inl z9_37)), ((X 47), .inl (ty 1, 192, .inr (.inl z9_38)))]
def vs_k_X9_findAnswers : List Cond := .code yX9_findAnswers cX9_findAnswers 3 (some .boolean) :: ([.methodLink RX9 218 yX9_fullSet, .instanceMethod yX9_fullSet, .selects RX9 yX9_fullSet yX9_fullSet, .initialized RX9, .methodLink RX9 221 yX9_fits, .instanceMethod yX9_fits, .selects RX9 yX9_fits yX9_fits, .methodLink RX9 224 yX9_isModel, .instanceMethod yX9_isModel, .selects RX9 yX9_isModel yX9_isModel, .methodLink RX9 227 yX9_hasSmaller, .instanceMethod yX9_hasSmaller, .selects RX9 yX9_hasSmaller yX9_hasSmaller, .methodLink RX9 230 yX9_costOf, .instanceMethod yX9_costOf, .selects RX9 yX9_costOf yX9_costOf, .methodLink RX9 234 yX0_insert, .instanceMethod yX0_insert, .selects RX0 yX0_insert yX0_insert, .initialized RX0] ++ (u_ws RX0 TX0 4 ++ (vs_k_X9_fullSet ++ (vs_k_X9_fits ++ (vs_k_X9_isModel ++ (vs_k_X9_hasSmaller ++ (vs_k_X9_costOf ++ (vs_k_X0_insert))))))))
theorem iv_k_X9_findAnswers_X0 : ∀ w ∈ u_ws RX0 TX0 4, w ∈ vs_k_X9_findAnswers := (fun _ h => List.mem_cons_of_mem _ (List.mem_append_right _ (List.mem_append_left _ h)))
set_option maxRecDepth 20000 in
theorem gv_k_X9_findAnswers_0 : GoodIn vs_k_X9_findAnswers (wsV RX9 218 RX9 yX9_fullSet vs_k_X9_fullSet) := goodIn_app (goodIn_sub (by decide +kernel) (by decide +kernel)) (goodIn_sub (fun _ h => List.mem_cons_of_mem _ (List.mem_append_right _ (List.mem_append_right _ (List.mem_append_left _ h)))) (by decide +kernel))
set_option maxRecDepth 20000 in
theorem gv_k_X9_findAnswers_1 : GoodIn vs_k_X9_findAnswers (wsV RX9 221 RX9 yX9_fits vs_k_X9_fits) := goodIn_app (goodIn_sub (by decide +kernel) (by decide +kernel)) (goodIn_sub (fun _ h => List.mem_cons_of_mem _ (List.mem_append_right _ (List.mem_append_right _ (List.mem_append_right _ (List.mem_append_left _ h))))) (by decide +kernel))
set_option maxRecDepth 20000 in
theorem gv_k_X9_findAnswers_2 : GoodIn vs_k_X9_findAnswers (wsV RX9 224 RX9 yX9_isModel vs_k_X9_isModel) := goodIn_app (goodIn_sub (by decide +kernel) (by decide +kernel)) (goodIn_sub (fun _ h => List.mem_cons_of_mem _ (List.mem_append_right _ (List.mem_append_right _ (List.mem_append_right _ (List.mem_append_right _ (List.mem_append_left _ h)))))) (by decide +kernel))
set_option maxRecDepth 20000 in
theorem gv_k_X9_findAnswers_3 : GoodIn vs_k_X9_findAnswers (wsV RX9 227 RX9 yX9_hasSmaller vs_k_X9_hasSmaller) := goodIn_app (goodIn_sub (by decide +kernel) (by decide +kernel)) (goodIn_sub (fun _ h => List.mem_cons_of_mem _ (List.mem_append_right _ (List.mem_append_right _ (List.mem_append_right _ (List.mem_append_right _ (List.mem_append_right _ (List.mem_append_left _ h))))))) (by decide +kernel))
set_option maxRecDepth 20000 in
theorem gv_k_X9_findAnswers_4 : GoodIn vs_k_X9_findAnswers (wsV RX9 230 RX9 yX9_costOf vs_k_X9_costOf) := goodIn_app (goodIn_sub (by decide +kernel) (by decide +kernel)) (goodIn_sub (fun _ h => List.mem_cons_of_mem _ (List.mem_append_right _ (List.mem_append_right _ (List.mem_append_right _ (List.mem_append_right _ (List.mem_append_right _ (List.mem_append_right _ (List.mem_append_left _ h)))))))) (by decide +kernel))
set_option maxRecDepth 20000 in
theorem gv_k_X9_findAnswers_5 : GoodIn vs_k_X9_findAnswers (wsV RX9 230 RX9 yX9_costOf vs_k_X9_costOf) := goodIn_app (goodIn_sub (by decide +kernel) (by decide +kernel)) (goodIn_sub (fun _ h => List.mem_cons_of_mem _ (List.mem_append_right _ (List.mem_append_right _ (List.mem_append_right _ (List.mem_append_right _ (List.mem_append_right _ (List.mem_append_right _ (List.mem_append_left _ h)))))))) (by decide +kernel))
set_option maxRecDepth 20000 in
theorem gv_k_X9_findAnswers_6 : GoodIn vs_k_X9_findAnswers (wsV RX9 230 RX9 yX9_costOf vs_k_X9_costOf) := goodIn_app (goodIn_sub (by decide +kernel) (by decide +kernel)) (goodIn_sub (fun _ h => List.mem_cons_of_mem _ (List.mem_append_right _ (List.mem_append_right _ (List.mem_append_right _ (List.mem_append_right _ (List.mem_append_right _ (List.mem_append_right _ (List.mem_append_left _ h)))))))) (by decide +kernel))
set_option maxRecDepth 20000 in
theorem gv_k_X9_findAnswers_7 : GoodIn vs_k_X9_findAnswers (wsV RX9 234 RX0 yX0_insert vs_k_X0_insert) := goodIn_app (goodIn_sub (by decide +kernel) (by decide +kernel)) (goodIn_sub (fun _ h => List.mem_cons_of_mem _ (List.mem_append_right _ (List.mem_append_right _ (List.mem_append_right _ (List.mem_append_right _ (List.mem_append_right _ (List.mem_append_right _ (List.mem_append_right _ (h))))))))) (by decide +kernel))
set_option maxHeartbeats 4000000 in
set_option maxRecDepth 100000 in
theorem k_X9_findAnswers (l : Launch) (D : va_G) (ty : Nat → ClassId) (td mi sz : Nat) (pp : pT) (X : Nat → Nat) (pn : Int32) (rn : Int32) (tn : Int32) (en : Int32) (rf : Nat → Option Nat) (hn : Int32) (kn : Int32) (on : Int32) (cu : Int32) (pu : Int32) (gw : Int32) (an : Int32) (ch : Int32) (cg : Int32) (fb : Int32) (mh : Int32) (ml : Int32) (ih : Int32) (lb : Int32) (ic : Int32) (cn : Int32) (c1 : Nat → Int32) (c2 : Nat → Int32) (c3 : Nat → Int32) (c4 : Nat → Int32) (c5 : Nat → Int32) (c6 : Nat → Int32) (wn : Int32) (w1 : Nat → Int32) (w2 : Nat → Int32) (w3 : Nat → Int32) (ac : Nat → Int32) (obi : Nat → Int32) (sc : Nat → Int32) (br : Nat → Int32) (nn : Int32) (kp : Int32) (se : Nat → Int32) (co : Nat → Int64) (hok : pOK pp) (hru : ∀ (i a : Nat), rf i = some a → a ∈ pRA pp) (TT : r_k_X9_findAnswers) (hTT : TT = m_k_X9_findAnswers pp rn rf on an ch cg fb mh ml ih lb cn c1 c2 c3 c4 c5 c6 wn w1 w2 w3 ac obi sc br se co) : Met l yX9_findAnswers vs_k_X9_findAnswers { frames := 6, cells := 0, slots := 0, locals := 148 } (va_Pc [.ref (X 20), .ref (X 45)] (wq_P D ty td mi ((wW_k_X9_findAnswers ty X pn rn tn en rf hn kn on cu pu gw an ch cg fb mh ml ih lb ic cn c1 c2 c3 c4 c5 c6 wn w1 w2 w3 ac obi sc br nn kp se co) ++ pw ty pp) sz)) (va_Qi (fun (r : Int32) (u : va_W) => (r = TT.1 ∧ (TT.1 = 0 ∨ TT.1 = 1) ∧ (u = ((wW_k_X9_findAnswers ty X pn rn tn en rf hn kn on cu pu gw TT.2.2.1 ch cg fb mh ml ih TT.2.1 ic cn c1 c2 c3 c4 c5 c6 wn w1 w2 w3 TT.2.2.2.1 obi sc TT.2.2.2.2.1 TT.2.2.2.2.2.1 kp TT.2.2.2.2.2.2.1 TT.2.2.2.2.2.2.2) ++ pw ty pp)))) (wq_B D (va_A ((wW_k_X9_findAnswers ty X pn rn tn en rf hn kn on cu pu gw an ch cg fb mh ml ih lb ic cn c1 c2 c3 c4 c5 c6 wn w1 w2 w3 ac obi sc br nn kp se co) ++ pw ty pp) sz)) (va_A ((wW_k_X9_findAnswers ty X pn rn tn en rf hn kn on cu pu gw an ch cg fb mh ml ih lb ic cn c1 c2 c3 c4 c5 c6 wn w1 w2 w3 ac obi sc br nn kp se co) ++ pw ty pp) sz)) 0 0 (va_A ((wW_k_X9_findAnswers ty X pn rn tn en rf hn kn on cu pu gw an ch cg fb mh ml ih lb ic cn c1 c2 c3 c4 c5 c6 wn w1 w2 w3 ac obi sc br nn kp se co) ++ pw ty pp) sz) := by
  refine Met.ofW (cc := cX9_findAnswers) (maxL := 3) (ret := (some .boolean)) (by decide) rfl ?_
  intro p e s m args below meth c s₁ B hml hv
  obtain ⟨rfl, hsz, hP, hK, hD0, hE⟩ := hv
  have hx := B.exec
  have hb := B.bytes
  have hr := B.returns
  have hts := atoms_spec (ws := vs_k_X9_findAnswers) B.pre
  have hown : s.vm.findClass RX9 = some m.cls := findClass_of_methodNamed B.named
  have hlocks := B.notSynchronized
  subst hsz
  have hD := hD0.self (sz := s.heap.size)
  generalize hAe : va_A ((wW_k_X9_findAnswers ty X pn rn tn en rf hn kn on cu pu gw an ch cg fb mh ml ih lb ic cn c1 c2 c3 c4 c5 c6 wn w1 w2 w3 ac obi sc br nn kp se co) ++ pw ty pp) s.heap.size = A at hD hE ⊢
  have hA : ∀ q : Nat, s.heap.size ≤ q → A q := fun q h => by rw [← hAe]; exact Or.inr h
  have hS : va_S A s.heap s.heap [] := va_S.rf
  have hP : va_P D vwCl ((wW_k_X9_findAnswers ty X pn rn tn en rf hn kn on cu pu gw an ch cg fb mh ml ih lb ic cn c1 c2 c3 c4 c5 c6 wn w1 w2 w3 ac obi sc br nn kp se co) ++ pw ty pp) s.heap := hP
  have hl := lv_entry ([.ref (X 20), .ref (X 45)]) (n := 3) (Nat.le_of_ble_eq_true rfl)
  rw [lg_entry_eq]
  generalize (lg_sl ([.ref (X 20), .ref (X 45)]) ++ List.replicate (3 - (lg_sl ([.ref (X 20), .ref (X 45)])).length) Slot.unset).toArray = ls at hl ⊢
  have hl : lv_has ls 3 [(0, .ref (X 20)), (1, .ref (X 45))] := hl
  have END : ∀ (r : Int32) (w9_0 : Int32) (w9_1 : Int32) (w9_2 : Nat → Int32) (w9_3 : Nat → Int32) (w9_4 : Int32) (w9_5 : Nat → Int32) (w9_6 : Nat → Int64), TT = (r, w9_0, w9_1, w9_2, w9_3, w9_4, w9_5, w9_6) → (r = 0 ∨ r = 1) → ∀ (H : Heap) (locs : List Loc), va_P D vwCl ((wW_k_X9_findAnswers ty X pn rn tn en rf hn kn on cu pu gw w9_1 ch cg fb mh ml ih w9_0 ic cn c1 c2 c3 c4 c5 c6 wn w1 w2 w3 w9_2 obi sc w9_3 w9_4 kp w9_5 w9_6) ++ pw ty pp) H → va_D A ((wW_k_X9_findAnswers ty X pn rn tn en rf hn kn on cu pu gw w9_1 ch cg fb mh ml ih w9_0 ic cn c1 c2 c3 c4 c5 c6 wn w1 w2 w3 w9_2 obi sc w9_3 w9_4 kp w9_5 w9_6) ++ pw ty pp) → va_S A s.heap H locs → ∀ (ls : Array Slot) (pc : Nat), decode cX9_findAnswers pc = .ok (.ireturn, 1) → W p l e (headSpec vs_k_X9_findAnswers { frames := 6, cells := 0, slots := 0, locals := 148 }).room s m ([.ref (X 20), .ref (X 45)] : List Value).toArray below meth c H locs 0 0 (MQ below (va_Qi (fun (r : Int32) (u : va_W) => (r = TT.1 ∧ (TT.1 = 0 ∨ TT.1 = 1) ∧ (u = ((wW_k_X9_findAnswers ty X pn rn tn en rf hn kn on cu pu gw TT.2.2.1 ch cg fb mh ml ih TT.2.1 ic cn c1 c2 c3 c4 c5 c6 wn w1 w2 w3 TT.2.2.2.1 obi sc TT.2.2.2.2.1 TT.2.2.2.2.2.1 kp TT.2.2.2.2.2.2.1 TT.2.2.2.2.2.2.2) ++ pw ty pp)))) (wq_B D A) A) ([.ref (X 20), .ref (X 45)] : List Value).toArray s 0 0 A) (F0 m pc ls [.int r]) := by
    intro r w9_0 w9_1 w9_2 w9_3 w9_4 w9_5 w9_6 hT hb01 H locs hP hD hS ls pc hd
    have hM : TT = (r, w9_0, w9_1, w9_2, w9_3, w9_4, w9_5, w9_6) := hT
    exact W.zret (v := r) hx hb hr (wz_nar hb01) (fun t ht hW => ⟨⟨r, ((wW_k_X9_findAnswers ty X pn rn tn en rf hn kn on cu pu gw w9_1 ch cg fb mh ml ih w9_0 ic cn c1 c2 c3 c4 c5 c6 wn w1 w2 w3 w9_2 obi sc w9_3 w9_4 kp w9_5 w9_6) ++ pw ty pp), rfl, ⟨(by rw [hM]), (by rw [hM]; exact hb01), (by rw [hM])⟩, wq_B.of ht hP hD⟩, hS.F ht⟩) hS.2.2 hd
  have hT := hTT
  rw [m_k_X9_findAnswers] at hT
  refine lv_aload_n hx hb dX9_findAnswers_0 rfl (lv_at hl 1 rfl) ?_
  refine lv_iconst (v := 0) hx hb dX9_findAnswers_1 (by decide) ?_
  refine va_putN (D := D) (ci := 2) (v := .int 0) (ty := tyX0 2) (C := RX0) (T := TX0) (N := 4) hx hb hts iv_k_X9_findAnswers_X0 tyX0 tyX0_ok nmX0 hown hK hP hD hS 19 rfl rfl 2 (by decide) (hE.at (.fieldLinkNest "AnswerFold$Solver" 215 "AnswerFold$Answers" "count" "I" "AnswerFold") (by decide +kernel)) (fun _ h9 => h9) rfl (by decide +kernel) rfl rfl (Nat.le_of_ble_eq_true rfl) dX9_findAnswers_2 (fun H locs hP hD hS => ?_)
  have hP : va_P D vwCl ((wW_k_X9_findAnswers ty X pn rn tn en rf hn kn on cu pu gw an ch cg fb mh ml ih lb ic cn c1 c2 c3 c4 c5 c6 wn w1 w2 w3 ac obi sc br (0) kp se co) ++ pw ty pp) H := hP
  have hD : va_D A ((wW_k_X9_findAnswers ty X pn rn tn en rf hn kn on cu pu gw an ch cg fb mh ml ih lb ic cn c1 c2 c3 c4 c5 c6 wn w1 w2 w3 ac obi sc br (0) kp se co) ++ pw ty pp) := hD
  refine lv_aload_n hx hb dX9_findAnswers_5 rfl (lv_at hl 0 rfl) ?_
  obtain ⟨t_6, ht_6⟩ : ∃ t, t = m_k_X9_fullSet on := ⟨_, rfl⟩
  rw [lE_eq ht_6] at hT
  refine wq_iQW (wc := (wW_k_X9_fullSet ty X hn kn on cu pu gw an ch cg fb mh ml ih lb ic)) (pl := pw ty pp) (va_runV (As := []) (rest := []) ⟨hx, hb, hml, hown, hts⟩ (k_X9_fullSet l D ty td mi H.size X hn kn on cu pu gw an ch cg fb mh ml ih lb ic t_6 ht_6) (cwV 0 hts gv_k_X9_findAnswers_0 rfl rfl rfl (by decide +kernel) ⟨(Nat.le_of_ble_eq_true rfl), (Nat.le_of_ble_eq_true rfl)⟩) (wm_V (wm_preS (vP_left hP) (vD_left hD) hK hE hS hA [false, false, true, true] rfl) (va_recv (q0 := 3) (ci := 11) hK hP rfl rfl)) rfl rfl hl.1 rfl (lv_room (Nat.le_of_ble_eq_true rfl)) dX9_findAnswers_6 ⟨(Nat.le_of_ble_eq_true rfl), (Nat.le_of_ble_eq_true rfl)⟩) hS hA hP hD [false, false, true, true] rfl (fun _ _ h => by rcases h with ⟨-, rfl⟩; rfl) (fun r u H locs hw hP hD hS => ?_)
  obtain ⟨hr0, rfl⟩ := hw
  subst r
  have hP : va_P D vwCl ((wW_k_X9_findAnswers ty X pn rn tn en rf hn kn on cu pu gw an ch cg fb mh ml ih lb ic cn c1 c2 c3 c4 c5 c6 wn w1 w2 w3 ac obi sc br (0) kp se co) ++ pw ty pp) H := hP
  have hD : va_D A ((wW_k_X9_findAnswers ty X pn rn tn en rf hn kn on cu pu gw an ch cg fb mh ml ih lb ic cn c1 c2 c3 c4 c5 c6 wn w1 w2 w3 ac obi sc br (0) kp se co) ++ pw ty pp) := hD
  refine W.widen (k := 0) (n := 0) (Nat.le_of_ble_eq_true rfl) (Nat.le_of_ble_eq_true rfl) ?_
  refine lv_istore_n (lv' := [(2, .int t_6), (0, .ref (X 20)), (1, .ref (X 45))]) hx hb dX9_findAnswers_9 rfl hl (by decide) rfl (fun ls hl => ?_)
  have L_10 : ∀ (n_10 : Nat) (v2_10 : Int32) (x20_15_10 : Int32) (x20_5_10 : Int32) (x35_f_10 : Nat → Int32) (x38_f_10 : Nat → Int32) (x45_2_10 : Int32) (x46_f_10 : Nat → Int32) (x47_f_10 : Nat → Int64), (v2_10.toInt + 2147483648).toNat < n_10 → TT = m_k_X9_findAnswers_10 pp rn rf ch cg fb mh ml ih cn c1 c2 c3 c4 c5 c6 wn w1 w2 w3 obi sc n_10 v2_10 x20_15_10 x20_5_10 x35_f_10 x38_f_10 x45_2_10 x46_f_10 x47_f_10 → ∀ (H : Heap) (locs : List Loc), va_P D vwCl ((wW_k_X9_findAnswers ty X pn rn tn en rf hn kn on cu pu gw x20_5_10 ch cg fb mh ml ih x20_15_10 ic cn c1 c2 c3 c4 c5 c6 wn w1 w2 w3 x35_f_10 obi sc x38_f_10 x45_2_10 kp x46_f_10 x47_f_10) ++ pw ty pp) H → va_D A ((wW_k_X9_findAnswers ty X pn rn tn en rf hn kn on cu pu gw x20_5_10 ch cg fb mh ml ih x20_15_10 ic cn c1 c2 c3 c4 c5 c6 wn w1 w2 w3 x35_f_10 obi sc x38_f_10 x45_2_10 kp x46_f_10 x47_f_10) ++ pw ty pp) → va_S A s.heap H locs → ∀ ls : Array Slot, lv_has ls 3 [(0, .ref (X 20)), (1, .ref (X 45)), (2, .int v2_10)] → W p l e (headSpec vs_k_X9_findAnswers { frames := 6, cells := 0, slots := 0, locals := 148 }).room s m ([.ref (X 20), .ref (X 45)] : List Value).toArray below meth c H locs 0 0 (MQ below (va_Qi (fun (r : Int32) (u : va_W) => (r = TT.1 ∧ (TT.1 = 0 ∨ TT.1 = 1) ∧ (u = ((wW_k_X9_findAnswers ty X pn rn tn en rf hn kn on cu pu gw TT.2.2.1 ch cg fb mh ml ih TT.2.1 ic cn c1 c2 c3 c4 c5 c6 wn w1 w2 w3 TT.2.2.2.1 obi sc TT.2.2.2.2.1 TT.2.2.2.2.2.1 kp TT.2.2.2.2.2.2.1 TT.2.2.2.2.2.2.2) ++ pw ty pp)))) (wq_B D A) A) ([.ref (X 20), .ref (X 45)] : List Value).toArray s 0 0 A) (F0 m 10 ls []) := by
    intro n_10
    induction n_10 with
    | zero => intro v2_10 x20_15_10 x20_5_10 x35_f_10 x38_f_10 x45_2_10 x46_f_10 x47_f_10 hu; exact absurd hu (Nat.not_lt_zero _)
    | succ n_10 ih_10 =>
      intro v2_10 x20_15_10 x20_5_10 x35_f_10 x38_f_10 x45_2_10 x46_f_10 x47_f_10 hu_10 hT  H locs hP hD hS ls hl
      rw [m_k_X9_findAnswers_10_succ, m_k_X9_findAnswers_10s] at hT
      refine lv_iload_n hx hb dX9_findAnswers_10 rfl (lv_at hl 2 rfl) ?_
      refine lv_if_lt (tgt := 72) hx hb dX9_findAnswers_11 (by decide) (fun c_3 => ?_) (fun c_3 => ?_)
      · rw [if_pos c_3] at hT
        refine lv_iconst (v := 1) hx hb dX9_findAnswers_72 (by decide) ?_
        exact END 1 x20_15_10 x20_5_10 x35_f_10 x38_f_10 x45_2_10 x46_f_10 x47_f_10 hT (by decide) _ _ hP hD hS _ _ dX9_findAnswers_73
      · rw [if_neg c_3] at hT
        refine lv_aload_n hx hb dX9_findAnswers_14 rfl (lv_at hl 0 rfl) ?_
        refine lv_iload_n hx hb dX9_findAnswers_15 rfl (lv_at hl 2 rfl) ?_
        obtain ⟨t_16, ht_16⟩ : ∃ t, t = m_k_X9_fits mh ml ih v2_10 := ⟨_, rfl⟩
        rw [lE_eq ht_16] at hT
        refine wq_iQW (wc := (wW_k_X9_fits ty X x20_5_10 ch cg fb mh ml ih x20_15_10 ic)) (pl := pw ty pp) (va_runV (As := [.int v2_10]) (rest := []) ⟨hx, hb, hml, hown, hts⟩ (k_X9_fits l D ty td mi H.size X x20_5_10 ch cg fb mh ml ih x20_15_10 ic v2_10 t_16 ht_16) (cwV 1 hts gv_k_X9_findAnswers_1 rfl rfl rfl (by decide +kernel) ⟨(Nat.le_of_ble_eq_true rfl), (Nat.le_of_ble_eq_true rfl)⟩) (wm_V (wm_preS (vP_left hP) (vD_left hD) hK hE hS hA [false, false, false, true] rfl) (va_recv (q0 := 3) (ci := 11) hK hP rfl rfl)) rfl rfl hl.1 rfl (lv_room (Nat.le_of_ble_eq_true rfl)) dX9_findAnswers_16 ⟨(Nat.le_of_ble_eq_true rfl), (Nat.le_of_ble_eq_true rfl)⟩) hS hA hP hD [false, false, false, true] rfl (fun _ _ h => by rcases h with ⟨-, -, rfl⟩; rfl) (fun r u H locs hw hP hD hS => ?_)
        obtain ⟨hr0, c_6, rfl⟩ := hw
        subst r
        have hP : va_P D vwCl ((wW_k_X9_findAnswers ty X pn rn tn en rf hn kn on cu pu gw x20_5_10 ch cg fb mh ml ih x20_15_10 ic cn c1 c2 c3 c4 c5 c6 wn w1 w2 w3 x35_f_10 obi sc x38_f_10 x45_2_10 kp x46_f_10 x47_f_10) ++ pw ty pp) H := hP
        have hD : va_D A ((wW_k_X9_findAnswers ty X pn rn tn en rf hn kn on cu pu gw x20_5_10 ch cg fb mh ml ih x20_15_10 ic cn c1 c2 c3 c4 c5 c6 wn w1 w2 w3 x35_f_10 obi sc x38_f_10 x45_2_10 kp x46_f_10 x47_f_10) ++ pw ty pp) := hD
        refine W.widen (k := 0) (n := 0) (Nat.le_of_ble_eq_true rfl) (Nat.le_of_ble_eq_true rfl) ?_
        have J_66 : ∀ (x20_15_66 : Int32) (x20_5_66 : Int32) (x35_f_66 : Nat → Int32) (x38_f_66 : Nat → Int32) (x45_2_66 : Int32) (x46_f_66 : Nat → Int32) (x47_f_66 : Nat → Int64), TT = m_k_X9_findAnswers_66 (m_k_X9_findAnswers_10 pp rn rf ch cg fb mh ml ih cn c1 c2 c3 c4 c5 c6 wn w1 w2 w3 obi sc n_10) v2_10 x20_15_66 x20_5_66 x35_f_66 x38_f_66 x45_2_66 x46_f_66 x47_f_66 → ∀ (H : Heap) (locs : List Loc), va_P D vwCl ((wW_k_X9_findAnswers ty X pn rn tn en rf hn kn on cu pu gw x20_5_66 ch cg fb mh ml ih x20_15_66 ic cn c1 c2 c3 c4 c5 c6 wn w1 w2 w3 x35_f_66 obi sc x38_f_66 x45_2_66 kp x46_f_66 x47_f_66) ++ pw ty pp) H → va_D A ((wW_k_X9_findAnswers ty X pn rn tn en rf hn kn on cu pu gw x20_5_66 ch cg fb mh ml ih x20_15_66 ic cn c1 c2 c3 c4 c5 c6 wn w1 w2 w3 x35_f_66 obi sc x38_f_66 x45_2_66 kp x46_f_66 x47_f_66) ++ pw ty pp) → va_S A s.heap H locs → ∀ ls : Array Slot, lv_has ls 3 [(0, .ref (X 20)), (1, .ref (X 45)), (2, .int v2_10)] → W p l e (headSpec vs_k_X9_findAnswers { frames := 6, cells := 0, slots := 0, locals := 148 }).room s m ([.ref (X 20), .ref (X 45)] : List Value).toArray below meth c H locs 0 0 (MQ below (va_Qi (fun (r : Int32) (u : va_W) => (r = TT.1 ∧ (TT.1 = 0 ∨ TT.1 = 1) ∧ (u = ((wW_k_X9_findAnswers ty X pn rn tn en rf hn kn on cu pu gw TT.2.2.1 ch cg fb mh ml ih TT.2.1 ic cn c1 c2 c3 c4 c5 c6 wn w1 w2 w3 TT.2.2.2.1 obi sc TT.2.2.2.2.1 TT.2.2.2.2.2.1 kp TT.2.2.2.2.2.2.1 TT.2.2.2.2.2.2.2) ++ pw ty pp)))) (wq_B D A) A) ([.ref (X 20), .ref (X 45)] : List Value).toArray s 0 0 A) (F0 m 66 ls []) := by
          intro x20_15_66 x20_5_66 x35_f_66 x38_f_66 x45_2_66 x46_f_66 x47_f_66 hT  H locs hP hD hS ls hl
          rw [m_k_X9_findAnswers_66] at hT
          refine lv_iinc (v := v2_10 + (-1)) (lv' := [(2, .int (v2_10 + (-1))), (0, .ref (X 20)), (1, .ref (X 45))]) hx hb dX9_findAnswers_66 hl (k := 2) rfl (by rfl) (by decide) rfl (fun ls hl => ?_)
          refine lv_goto (tgt := 10) hx hb dX9_findAnswers_69 (by decide) ?_
          exact ih_10 (v2_10 + (-1)) x20_15_66 x20_5_66 x35_f_66 x38_f_66 x45_2_66 x46_f_66 x47_f_66 (wi_dn hu_10 (wi_lo c_3)) hT _ _ hP hD hS _ (lv_sub hl [1, 2, 0] rfl)
        refine lv_if_eq (tgt := 66) hx hb dX9_findAnswers_19 (by decide) (fun c_7 => ?_) (fun c_7 => ?_)
        · rw [if_pos c_7] at hT
          exact J_66 x20_15_10 x20_5_10 x35_f_10 x38_f_10 x45_2_10 x46_f_10 x47_f_10 hT _ _ hP hD hS _ (lv_sub hl [0, 1, 2] rfl)
        · rw [if_neg c_7] at hT
          refine lv_aload_n hx hb dX9_findAnswers_22 rfl (lv_at hl 0 rfl) ?_
          refine lv_iload_n hx hb dX9_findAnswers_23 rfl (lv_at hl 2 rfl) ?_
          obtain ⟨t_24, ht_24⟩ : ∃ t, t = m_k_X9_isModel pp rn rf cg x20_15_10 cn c1 c2 c3 c4 c5 c6 obi sc v2_10 := ⟨_, rfl⟩
          rw [lE_eq ht_24] at hT
          refine wq_iPW (wc := (wW_k_X9_isModel ty X pn rn tn en rf x20_5_10 ch cg fb mh ml ih x20_15_10 ic cn c1 c2 c3 c4 c5 c6 obi sc)) (pl := pw ty pp) (ux := (wW_k_X9_isModel ty X pn rn tn en rf x20_5_10 ch cg fb mh ml ih t_24.2 ic cn c1 c2 c3 c4 c5 c6 obi sc)) (va_runV (As := [.int v2_10]) (rest := []) ⟨hx, hb, hml, hown, hts⟩ (k_X9_isModel l D ty td mi H.size pp X pn rn tn en rf x20_5_10 ch cg fb mh ml ih x20_15_10 ic cn c1 c2 c3 c4 c5 c6 obi sc v2_10 hok hru t_24 ht_24) (cwV 1 hts gv_k_X9_findAnswers_2 rfl rfl rfl (by decide +kernel) ⟨(Nat.le_of_ble_eq_true rfl), (Nat.le_of_ble_eq_true rfl)⟩) (wm_V (wm_preSP hP hD hK hE hS hA [true, true, false, true, true, true, true, true, true, true, true, false, false, false, false, false, true, true] rfl) (va_recv (q0 := 3) (ci := 11) hK hP rfl rfl)) rfl rfl hl.1 rfl (lv_room (Nat.le_of_ble_eq_true rfl)) dX9_findAnswers_24 ⟨(Nat.le_of_ble_eq_true rfl), (Nat.le_of_ble_eq_true rfl)⟩) hS hA hP hD [true, true, false, true, true, true, true, true, true, true, true, false, false, false, false, false, true, true] rfl rfl (fun _ _ h => h.2.2) (fun r H locs hw hP hD hS => ?_)
          obtain ⟨rfl, c_10, -⟩ := hw
          have hP : va_P D vwCl ((wW_k_X9_findAnswers ty X pn rn tn en rf hn kn on cu pu gw x20_5_10 ch cg fb mh ml ih t_24.2 ic cn c1 c2 c3 c4 c5 c6 wn w1 w2 w3 x35_f_10 obi sc x38_f_10 x45_2_10 kp x46_f_10 x47_f_10) ++ pw ty pp) H := hP
          have hD : va_D A ((wW_k_X9_findAnswers ty X pn rn tn en rf hn kn on cu pu gw x20_5_10 ch cg fb mh ml ih t_24.2 ic cn c1 c2 c3 c4 c5 c6 wn w1 w2 w3 x35_f_10 obi sc x38_f_10 x45_2_10 kp x46_f_10 x47_f_10) ++ pw ty pp) := hD
          refine W.widen (k := 0) (n := 0) (Nat.le_of_ble_eq_true rfl) (Nat.le_of_ble_eq_true rfl) ?_
          refine lv_if_eq (tgt := 66) hx hb dX9_findAnswers_27 (by decide) (fun c_11 => ?_) (fun c_11 => ?_)
          · rw [if_pos c_11] at hT
            exact J_66 t_24.2 x20_5_10 x35_f_10 x38_f_10 x45_2_10 x46_f_10 x47_f_10 hT _ _ hP hD hS _ (lv_sub hl [0, 1, 2] rfl)
          · rw [if_neg c_11] at hT
            refine lv_aload_n hx hb dX9_findAnswers_30 rfl (lv_at hl 0 rfl) ?_
            refine lv_iload_n hx hb dX9_findAnswers_31 rfl (lv_at hl 2 rfl) ?_
            obtain ⟨t_32, ht_32⟩ : ∃ t, t = m_k_X9_hasSmaller pp rn rf ch cg fb cn c1 c2 c3 c4 x35_f_10 obi sc x38_f_10 v2_10 := ⟨_, rfl⟩
            rw [lE_eq ht_32] at hT
            refine wq_iPW (wc := (wW_k_X9_hasSmaller ty X pn rn tn en rf x20_5_10 ch cg fb mh ml ih t_24.2 ic cn c1 c2 c3 c4 x35_f_10 obi sc x38_f_10)) (pl := pw ty pp) (ux := (wW_k_X9_hasSmaller ty X pn rn tn en rf t_32.2.1 ch cg fb mh ml ih t_24.2 ic cn c1 c2 c3 c4 t_32.2.2.1 obi sc t_32.2.2.2)) (va_runV (As := [.int v2_10]) (rest := []) ⟨hx, hb, hml, hown, hts⟩ (k_X9_hasSmaller l D ty td mi H.size pp X pn rn tn en rf x20_5_10 ch cg fb mh ml ih t_24.2 ic cn c1 c2 c3 c4 x35_f_10 obi sc x38_f_10 v2_10 hok hru t_32 ht_32) (cwV 1 hts gv_k_X9_findAnswers_3 rfl rfl rfl (by decide +kernel) ⟨(Nat.le_of_ble_eq_true rfl), (Nat.le_of_ble_eq_true rfl)⟩) (wm_V (wm_preSP hP hD hK hE hS hA [true, true, false, true, true, true, true, true, true, false, false, false, false, false, false, true, true, true, true] rfl) (va_recv (q0 := 3) (ci := 11) hK hP rfl rfl)) rfl rfl hl.1 rfl (lv_room (Nat.le_of_ble_eq_true rfl)) dX9_findAnswers_32 ⟨(Nat.le_of_ble_eq_true rfl), (Nat.le_of_ble_eq_true rfl)⟩) hS hA hP hD [true, true, false, true, true, true, true, true, true, false, false, false, false, false, false, true, true, true, true] rfl rfl (fun _ _ h => h.2.2) (fun r H locs hw hP hD hS => ?_)
            obtain ⟨rfl, c_14, -⟩ := hw
            have hP : va_P D vwCl ((wW_k_X9_findAnswers ty X pn rn tn en rf hn kn on cu pu gw t_32.2.1 ch cg fb mh ml ih t_24.2 ic cn c1 c2 c3 c4 c5 c6 wn w1 w2 w3 t_32.2.2.1 obi sc t_32.2.2.2 x45_2_10 kp x46_f_10 x47_f_10) ++ pw ty pp) H := hP
            have hD : va_D A ((wW_k_X9_findAnswers ty X pn rn tn en rf hn kn on cu pu gw t_32.2.1 ch cg fb mh ml ih t_24.2 ic cn c1 c2 c3 c4 c5 c6 wn w1 w2 w3 t_32.2.2.1 obi sc t_32.2.2.2 x45_2_10 kp x46_f_10 x47_f_10) ++ pw ty pp) := hD
            refine W.widen (k := 0) (n := 0) (Nat.le_of_ble_eq_true rfl) (Nat.le_of_ble_eq_true rfl) ?_
            refine lv_if_ne (tgt := 66) hx hb dX9_findAnswers_35 (by decide) (fun c_15 => ?_) (fun c_15 => ?_)
            · rw [if_neg c_15] at hT
              exact J_66 t_24.2 t_32.2.1 t_32.2.2.1 t_32.2.2.2 x45_2_10 x46_f_10 x47_f_10 hT _ _ hP hD hS _ (lv_sub hl [0, 1, 2] rfl)
            · rw [if_pos c_15] at hT
              refine lv_aload_n hx hb dX9_findAnswers_38 rfl (lv_at hl 1 rfl) ?_
              refine lv_iload_n hx hb dX9_findAnswers_39 rfl (lv_at hl 2 rfl) ?_
              refine lv_aload_n hx hb dX9_findAnswers_40 rfl (lv_at hl 0 rfl) ?_
              refine lv_iload_n hx hb dX9_findAnswers_41 rfl (lv_at hl 2 rfl) ?_
              refine lv_iconst (v := 1) hx hb dX9_findAnswers_42 (by decide) ?_
              obtain ⟨t_43, ht_43⟩ : ∃ t, t = m_k_X9_costOf pp rn rf cg wn w1 w2 w3 obi sc v2_10 1 := ⟨_, rfl⟩
              rw [lE_eq ht_43] at hT
              refine wq_lPW (wc := (wW_k_X9_costOf ty X pn rn tn en rf t_32.2.1 ch cg fb mh ml ih t_24.2 ic wn w1 w2 w3 obi sc)) (pl := pw ty pp) (ux := (wW_k_X9_costOf ty X pn rn tn en rf t_32.2.1 ch cg fb mh ml ih t_24.2 ic wn w1 w2 w3 obi sc)) (va_runV (As := [.int v2_10, .int 1]) (rest := [.int v2_10, .ref (X 45)]) ⟨hx, hb, hml, hown, hts⟩ (k_X9_costOf l D ty td mi H.size pp X pn rn tn en rf t_32.2.1 ch cg fb mh ml ih t_24.2 ic wn w1 w2 w3 obi sc v2_10 1 hok hru t_43 ht_43) (cwV 2 hts gv_k_X9_findAnswers_4 rfl rfl rfl (by decide +kernel) ⟨(Nat.le_of_ble_eq_true rfl), (Nat.le_of_ble_eq_true rfl)⟩) (wm_V (wm_preSP hP hD hK hE hS hA [true, true, false, true, false, false, false, false, false, false, false, true, true, true, true, false, true, true] rfl) (va_recv (q0 := 3) (ci := 11) hK hP rfl rfl)) rfl rfl hl.1 rfl (lv_room (Nat.le_of_ble_eq_true rfl)) dX9_findAnswers_43 ⟨(Nat.le_of_ble_eq_true rfl), (Nat.le_of_ble_eq_true rfl)⟩) hS hA hP hD [true, true, false, true, false, false, false, false, false, false, false, true, true, true, true, false, true, true] rfl rfl (fun _ _ h => h.2) (fun r H locs hw hP hD hS => ?_)
              obtain ⟨hr0, -⟩ := hw
              subst r
              have hP : va_P D vwCl ((wW_k_X9_findAnswers ty X pn rn tn en rf hn kn on cu pu gw t_32.2.1 ch cg fb mh ml ih t_24.2 ic cn c1 c2 c3 c4 c5 c6 wn w1 w2 w3 t_32.2.2.1 obi sc t_32.2.2.2 x45_2_10 kp x46_f_10 x47_f_10) ++ pw ty pp) H := hP
              have hD : va_D A ((wW_k_X9_findAnswers ty X pn rn tn en rf hn kn on cu pu gw t_32.2.1 ch cg fb mh ml ih t_24.2 ic cn c1 c2 c3 c4 c5 c6 wn w1 w2 w3 t_32.2.2.1 obi sc t_32.2.2.2 x45_2_10 kp x46_f_10 x47_f_10) ++ pw ty pp) := hD
              refine W.widen (k := 0) (n := 0) (Nat.le_of_ble_eq_true rfl) (Nat.le_of_ble_eq_true rfl) ?_
              refine lv_aload_n hx hb dX9_findAnswers_46 rfl (lv_at hl 0 rfl) ?_
              refine lv_iload_n hx hb dX9_findAnswers_47 rfl (lv_at hl 2 rfl) ?_
              refine lv_iconst (v := 2) hx hb dX9_findAnswers_48 (by decide) ?_
              obtain ⟨t_49, ht_49⟩ : ∃ t, t = m_k_X9_costOf pp rn rf cg wn w1 w2 w3 obi sc v2_10 2 := ⟨_, rfl⟩
              rw [lE_eq ht_49] at hT
              refine wq_lPW (wc := (wW_k_X9_costOf ty X pn rn tn en rf t_32.2.1 ch cg fb mh ml ih t_24.2 ic wn w1 w2 w3 obi sc)) (pl := pw ty pp) (ux := (wW_k_X9_costOf ty X pn rn tn en rf t_32.2.1 ch cg fb mh ml ih t_24.2 ic wn w1 w2 w3 obi sc)) (va_runV (As := [.int v2_10, .int 2]) (rest := [.long t_43, .int v2_10, .ref (X 45)]) ⟨hx, hb, hml, hown, hts⟩ (k_X9_costOf l D ty td mi H.size pp X pn rn tn en rf t_32.2.1 ch cg fb mh ml ih t_24.2 ic wn w1 w2 w3 obi sc v2_10 2 hok hru t_49 ht_49) (cwV 2 hts gv_k_X9_findAnswers_5 rfl rfl rfl (by decide +kernel) ⟨(Nat.le_of_ble_eq_true rfl), (Nat.le_of_ble_eq_true rfl)⟩) (wm_V (wm_preSP hP hD hK hE hS hA [true, true, false, true, false, false, false, false, false, false, false, true, true, true, true, false, true, true] rfl) (va_recv (q0 := 3) (ci := 11) hK hP rfl rfl)) rfl rfl hl.1 rfl (lv_room (Nat.le_of_ble_eq_true rfl)) dX9_findAnswers_49 ⟨(Nat.le_of_ble_eq_true rfl), (Nat.le_of_ble_eq_true rfl)⟩) hS hA hP hD [true, true, false, true, false, false, false, false, false, false, false, true, true, true, true, false, true, true] rfl rfl (fun _ _ h => h.2) (fun r H locs hw hP hD hS => ?_)
              obtain ⟨hr0, -⟩ := hw
              subst r
              have hP : va_P D vwCl ((wW_k_X9_findAnswers ty X pn rn tn en rf hn kn on cu pu gw t_32.2.1 ch cg fb mh ml ih t_24.2 ic cn c1 c2 c3 c4 c5 c6 wn w1 w2 w3 t_32.2.2.1 obi sc t_32.2.2.2 x45_2_10 kp x46_f_10 x47_f_10) ++ pw ty pp) H := hP
              have hD : va_D A ((wW_k_X9_findAnswers ty X pn rn tn en rf hn kn on cu pu gw t_32.2.1 ch cg fb mh ml ih t_24.2 ic cn c1 c2 c3 c4 c5 c6 wn w1 w2 w3 t_32.2.2.1 obi sc t_32.2.2.2 x45_2_10 kp x46_f_10 x47_f_10) ++ pw ty pp) := hD
              refine W.widen (k := 0) (n := 0) (Nat.le_of_ble_eq_true rfl) (Nat.le_of_ble_eq_true rfl) ?_
              refine lv_aload_n hx hb dX9_findAnswers_52 rfl (lv_at hl 0 rfl) ?_
              refine lv_iload_n hx hb dX9_findAnswers_53 rfl (lv_at hl 2 rfl) ?_
              refine lv_iconst (v := 3) hx hb dX9_findAnswers_54 (by decide) ?_
              obtain ⟨t_55, ht_55⟩ : ∃ t, t = m_k_X9_costOf pp rn rf cg wn w1 w2 w3 obi sc v2_10 3 := ⟨_, rfl⟩
              rw [lE_eq ht_55] at hT
              refine wq_lPW (wc := (wW_k_X9_costOf ty X pn rn tn en rf t_32.2.1 ch cg fb mh ml ih t_24.2 ic wn w1 w2 w3 obi sc)) (pl := pw ty pp) (ux := (wW_k_X9_costOf ty X pn rn tn en rf t_32.2.1 ch cg fb mh ml ih t_24.2 ic wn w1 w2 w3 obi sc)) (va_runV (As := [.int v2_10, .int 3]) (rest := [.long t_49, .long t_43, .int v2_10, .ref (X 45)]) ⟨hx, hb, hml, hown, hts⟩ (k_X9_costOf l D ty td mi H.size pp X pn rn tn en rf t_32.2.1 ch cg fb mh ml ih t_24.2 ic wn w1 w2 w3 obi sc v2_10 3 hok hru t_55 ht_55) (cwV 2 hts gv_k_X9_findAnswers_6 rfl rfl rfl (by decide +kernel) ⟨(Nat.le_of_ble_eq_true rfl), (Nat.le_of_ble_eq_true rfl)⟩) (wm_V (wm_preSP hP hD hK hE hS hA [true, true, false, true, false, false, false, false, false, false, false, true, true, true, true, false, true, true] rfl) (va_recv (q0 := 3) (ci := 11) hK hP rfl rfl)) rfl rfl hl.1 rfl (lv_room (Nat.le_of_ble_eq_true rfl)) dX9_findAnswers_55 ⟨(Nat.le_of_ble_eq_true rfl), (Nat.le_of_ble_eq_true rfl)⟩) hS hA hP hD [true, true, false, true, false, false, false, false, false, false, false, true, true, true, true, false, true, true] rfl rfl (fun _ _ h => h.2) (fun r H locs hw hP hD hS => ?_)
              obtain ⟨hr0, -⟩ := hw
              subst r
              have hP : va_P D vwCl ((wW_k_X9_findAnswers ty X pn rn tn en rf hn kn on cu pu gw t_32.2.1 ch cg fb mh ml ih t_24.2 ic cn c1 c2 c3 c4 c5 c6 wn w1 w2 w3 t_32.2.2.1 obi sc t_32.2.2.2 x45_2_10 kp x46_f_10 x47_f_10) ++ pw ty pp) H := hP
              have hD : va_D A ((wW_k_X9_findAnswers ty X pn rn tn en rf hn kn on cu pu gw t_32.2.1 ch cg fb mh ml ih t_24.2 ic cn c1 c2 c3 c4 c5 c6 wn w1 w2 w3 t_32.2.2.1 obi sc t_32.2.2.2 x45_2_10 kp x46_f_10 x47_f_10) ++ pw ty pp) := hD
              refine W.widen (k := 0) (n := 0) (Nat.le_of_ble_eq_true rfl) (Nat.le_of_ble_eq_true rfl) ?_
              obtain ⟨t_58, ht_58⟩ : ∃ t, t = m_k_X0_insert x45_2_10 x46_f_10 x47_f_10 v2_10 t_43 t_49 t_55 := ⟨_, rfl⟩
              rw [lE_eq ht_58] at hT
              refine wq_iQW (wc := (wW_k_X0_insert ty (X 45) (X 46) (X 47) x45_2_10 kp x46_f_10 x47_f_10)) (pl := pw ty pp) (va_runV (As := [.int v2_10, .long t_43, .long t_49, .long t_55]) (rest := []) ⟨hx, hb, hml, hown, hts⟩ (k_X0_insert l D ty td mi H.size (X 45) (X 46) (X 47) x45_2_10 kp x46_f_10 x47_f_10 v2_10 t_43 t_49 t_55 t_58 ht_58) (cwV 4 hts gv_k_X9_findAnswers_7 rfl rfl rfl (by decide +kernel) ⟨(Nat.le_of_ble_eq_true rfl), (Nat.le_of_ble_eq_true rfl)⟩) (wm_V (wm_preS (vP_left hP) (vD_left hD) hK hE hS hA [false, false, false, false, false, false, false, false, false, false, false, false, false, false, false, false, false, false, false, true, true, true] rfl) (va_recv (q0 := 19) (ci := 2) hK hP rfl rfl)) rfl rfl hl.1 rfl (lv_room (Nat.le_of_ble_eq_true rfl)) dX9_findAnswers_58 ⟨(Nat.le_of_ble_eq_true rfl), (Nat.le_of_ble_eq_true rfl)⟩) hS hA hP hD [false, false, false, false, false, false, false, false, false, false, false, false, false, false, false, false, false, false, false, true, true, true] rfl (fun _ _ h => by rcases h with ⟨-, -, rfl⟩; rfl) (fun r u H locs hw hP hD hS => ?_)
              obtain ⟨rfl, c_24, rfl⟩ := hw
              have hP : va_P D vwCl ((wW_k_X9_findAnswers ty X pn rn tn en rf hn kn on cu pu gw t_32.2.1 ch cg fb mh ml ih t_24.2 ic cn c1 c2 c3 c4 c5 c6 wn w1 w2 w3 t_32.2.2.1 obi sc t_32.2.2.2 t_58.2.1 kp t_58.2.2.1 t_58.2.2.2) ++ pw ty pp) H := hP
              have hD : va_D A ((wW_k_X9_findAnswers ty X pn rn tn en rf hn kn on cu pu gw t_32.2.1 ch cg fb mh ml ih t_24.2 ic cn c1 c2 c3 c4 c5 c6 wn w1 w2 w3 t_32.2.2.1 obi sc t_32.2.2.2 t_58.2.1 kp t_58.2.2.1 t_58.2.2.2) ++ pw ty pp) := hD
              refine W.widen (k := 0) (n := 0) (Nat.le_of_ble_eq_true rfl) (Nat.le_of_ble_eq_true rfl) ?_
              refine lv_if_ne (tgt := 66) hx hb dX9_findAnswers_61 (by decide) (fun c_25 => ?_) (fun c_25 => ?_)
              · rw [if_neg c_25] at hT
                exact J_66 t_24.2 t_32.2.1 t_32.2.2.1 t_32.2.2.2 t_58.2.1 t_58.2.2.1 t_58.2.2.2 hT _ _ hP hD hS _ (lv_sub hl [0, 1, 2] rfl)
              · rw [if_pos c_25] at hT
                refine lv_iconst (v := 0) hx hb dX9_findAnswers_64 (by decide) ?_
                exact END 0 t_24.2 t_32.2.1 t_32.2.2.1 t_32.2.2.2 t_58.2.1 t_58.2.2.1 t_58.2.2.2 hT (by decide) _ _ hP hD hS _ _ dX9_findAnswers_65
  exact L_10 wF t_6 lb an ac br 0 se co (wF_dn t_6) hT _ _ hP hD hS _ (lv_sub hl [1, 2, 0] rfl)
