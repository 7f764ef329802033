theorem dX3_numberOpenAtoms_0 : decode cX3_numberOpenAtoms 0 = .ok (.aload_n 0, 1) := by decide +kernel
theorem dX3_numberOpenAtoms_1 : decode cX3_numberOpenAtoms 1 = .ok (.iconst 0, 1) := by decide +kernel
theorem dX3_numberOpenAtoms_2 : decode cX3_numberOpenAtoms 2 = .ok (.putfield 216, 3) := by decide +kernel
theorem dX3_numberOpenAtoms_5 : decode cX3_numberOpenAtoms 5 = .ok (.iconst 0, 1) := by decide +kernel
theorem dX3_numberOpenAtoms_6 : decode cX3_numberOpenAtoms 6 = .ok (.istore_n 1, 1) := by decide +kernel
theorem dX3_numberOpenAtoms_7 : decode cX3_numberOpenAtoms 7 = .ok (.iload_n 1, 1) := by decide +kernel
theorem dX3_numberOpenAtoms_8 : decode cX3_numberOpenAtoms 8 = .ok (.sipush 384, 3) := by decide +kernel
theorem dX3_numberOpenAtoms_11 : decode cX3_numberOpenAtoms 11 = .ok (.if_icmp .ge 78, 3) := by decide +kernel
theorem dX3_numberOpenAtoms_14 : decode cX3_numberOpenAtoms 14 = .ok (.aload_n 0, 1) := by decide +kernel
theorem dX3_numberOpenAtoms_15 : decode cX3_numberOpenAtoms 15 = .ok (.getfield 44, 3) := by decide +kernel
theorem dX3_numberOpenAtoms_18 : decode cX3_numberOpenAtoms 18 = .ok (.iload_n 1, 1) := by decide +kernel
theorem dX3_numberOpenAtoms_19 : decode cX3_numberOpenAtoms 19 = .ok (.iconst (-1), 1) := by decide +kernel
theorem dX3_numberOpenAtoms_20 : decode cX3_numberOpenAtoms 20 = .ok (.iastore, 1) := by decide +kernel
theorem dX3_numberOpenAtoms_21 : decode cX3_numberOpenAtoms 21 = .ok (.aload_n 0, 1) := by decide +kernel
theorem dX3_numberOpenAtoms_22 : decode cX3_numberOpenAtoms 22 = .ok (.getfield 25, 3) := by decide +kernel
theorem dX3_numberOpenAtoms_25 : decode cX3_numberOpenAtoms 25 = .ok (.iload_n 1, 1) := by decide +kernel
theorem dX3_numberOpenAtoms_26 : decode cX3_numberOpenAtoms 26 = .ok (.invokevirtual 179, 3) := by decide +kernel
theorem dX3_numberOpenAtoms_29 : decode cX3_numberOpenAtoms 29 = .ok (.ifCond .eq 54, 3) := by decide +kernel
theorem dX3_numberOpenAtoms_32 : decode cX3_numberOpenAtoms 32 = .ok (.aload_n 0, 1) := by decide +kernel
theorem dX3_numberOpenAtoms_33 : decode cX3_numberOpenAtoms 33 = .ok (.getfield 21, 3) := by decide +kernel
theorem dX3_numberOpenAtoms_36 : decode cX3_numberOpenAtoms 36 = .ok (.iload_n 1, 1) := by decide +kernel
theorem dX3_numberOpenAtoms_37 : decode cX3_numberOpenAtoms 37 = .ok (.invokevirtual 179, 3) := by decide +kernel
theorem dX3_numberOpenAtoms_40 : decode cX3_numberOpenAtoms 40 = .ok (.ifCond .ne 43, 3) := by decide +kernel
theorem dX3_numberOpenAtoms_43 : decode cX3_numberOpenAtoms 43 = .ok (.aload_n 0, 1) := by decide +kernel
theorem dX3_numberOpenAtoms_44 : decode cX3_numberOpenAtoms 44 = .ok (.getfield 216, 3) := by decide +kernel
theorem dX3_numberOpenAtoms_47 : decode cX3_numberOpenAtoms 47 = .ok (.sipush 384, 3) := by decide +kernel
theorem dX3_numberOpenAtoms_50 : decode cX3_numberOpenAtoms 50 = .ok (.if_icmp .ge 33, 3) := by decide +kernel
theorem dX3_numberOpenAtoms_53 : decode cX3_numberOpenAtoms 53 = .ok (.aload_n 0, 1) := by decide +kernel
theorem dX3_numberOpenAtoms_54 : decode cX3_numberOpenAtoms 54 = .ok (.getfield 44, 3) := by decide +kernel
theorem dX3_numberOpenAtoms_57 : decode cX3_numberOpenAtoms 57 = .ok (.iload_n 1, 1) := by decide +kernel
theorem dX3_numberOpenAtoms_58 : decode cX3_numberOpenAtoms 58 = .ok (.aload_n 0, 1) := by decide +kernel
theorem dX3_numberOpenAtoms_59 : decode cX3_numberOpenAtoms 59 = .ok (.getfield 216, 3) := by decide +kernel
theorem dX3_numberOpenAtoms_62 : decode cX3_numberOpenAtoms 62 = .ok (.iastore, 1) := by decide +kernel
theorem dX3_numberOpenAtoms_63 : decode cX3_numberOpenAtoms 63 = .ok (.aload_n 0, 1) := by decide +kernel
theorem dX3_numberOpenAtoms_64 : decode cX3_numberOpenAtoms 64 = .ok (.getfield 41, 3) := by decide +kernel
theorem dX3_numberOpenAtoms_67 : decode cX3_numberOpenAtoms 67 = .ok (.aload_n 0, 1) := by decide +kernel
theorem dX3_numberOpenAtoms_68 : decode cX3_numberOpenAtoms 68 = .ok (.getfield 216, 3) := by decide +kernel
theorem dX3_numberOpenAtoms_71 : decode cX3_numberOpenAtoms 71 = .ok (.iload_n 1, 1) := by decide +kernel
theorem dX3_numberOpenAtoms_72 : decode cX3_numberOpenAtoms 72 = .ok (.iastore, 1) := by decide +kernel
theorem dX3_numberOpenAtoms_73 : decode cX3_numberOpenAtoms 73 = .ok (.aload_n 0, 1) := by decide +kernel
theorem dX3_numberOpenAtoms_74 : decode cX3_numberOpenAtoms 74 = .ok (.dup, 1) := by decide +kernel
theorem dX3_numberOpenAtoms_75 : decode cX3_numberOpenAtoms 75 = .ok (.getfield 216, 3) := by decide +kernel
theorem dX3_numberOpenAtoms_78 : decode cX3_numberOpenAtoms 78 = .ok (.iconst 1, 1) := by decide +kernel
theorem dX3_numberOpenAtoms_79 : decode cX3_numberOpenAtoms 79 = .ok (.iadd, 1) := by decide +kernel
theorem dX3_numberOpenAtoms_80 : decode cX3_numberOpenAtoms 80 = .ok (.putfield 216, 3) := by decide +kernel
theorem dX3_numberOpenAtoms_83 : decode cX3_numberOpenAtoms 83 = .ok (.iinc 1 1, 3) := by decide +kernel
theorem dX3_numberOpenAtoms_86 : decode cX3_numberOpenAtoms 86 = .ok (.goto (-79), 3) := by decide +kernel
theorem dX3_numberOpenAtoms_89 : decode cX3_numberOpenAtoms 89 = .ok (.return_, 1) := by decide +kernel
def wW_k_X3_numberOpenAtoms (ty : Nat → ClassId) (X : Nat → Nat) (z9_0 : Int32) (z9_1 : Int32) (z9_2 : Int32) (z9_3 : Int32) (z9_4 : Int32) (z9_5 : Int32) (z9_6 : Nat → Int64) (z9_7 : Nat → Int64) (z9_8 : Nat → Int32) (z9_9 : Nat → Int32) : va_W := [((X 8), .inr (5, [.ref (X 1), .ref (X 9), .ref (X 10), .ref (X 12), .ref (X 14), .int z9_0, .ref (X 15), .ref (X 16), .ref (X 17), .int z9_1, .ref (X 18), .ref (X 19), .int z9_2, .int z9_3, .int z9_4, .int z9_5])), ((X 10), .inr (3, [.ref (X 11)])), ((X 11), .inl (ty 1, 6, .inr (.inl z9_6))), ((X 12), .inr (3, [.ref (X 13)])), ((X 13), .inl (ty 1, 6, .inr (.inl z9_7))), ((X 18), .inl (ty 0, 384, .inl z9_8)), ((X 19), .inl (ty 0, 384, .inl z9_9))]
def vs_k_X3_numberOpenAtoms : List Cond := .code yX3_numberOpenAtoms cX3_numberOpenAtoms 2 none :: ([.fieldLink RX3 216 "AnswerFold$Grounding" "openCount" "I", .fieldLink RX3 44 "AnswerFold$Grounding" "openNumbers" "[I", .fieldLink RX3 25 "AnswerFold$Grounding" "possible" "LAnswerFold$AtomSet;", .methodLink RX3 179 yX1_contains, .instanceMethod yX1_contains, .selects RX1 yX1_contains yX1_contains, .initialized RX1, .fieldLink RX3 21 "AnswerFold$Grounding" "sure" "LAnswerFold$AtomSet;", .fieldLink RX3 41 "AnswerFold$Grounding" "openAtoms" "[I"] ++ (u_ws RX3 TX3 16 ++ (vs_k_X1_contains)))
theorem iv_k_X3_numberOpenAtoms_X3 : ∀ w ∈ u_ws RX3 TX3 16, w ∈ vs_k_X3_numberOpenAtoms := (fun _ h => List.mem_cons_of_mem _ (List.mem_append_right _ (List.mem_append_left _ h)))
set_option maxRecDepth 20000 in
theorem gv_k_X3_numberOpenAtoms_0 : GoodIn vs_k_X3_numberOpenAtoms (wsV RX3 179 RX1 yX1_contains vs_k_X1_contains) := goodIn_app (goodIn_sub (by decide +kernel) (by decide +kernel)) (goodIn_sub (fun _ h => List.mem_cons_of_mem _ (List.mem_append_right _ (List.mem_append_right _ (h)))) (by decide +kernel))
set_option maxRecDepth 20000 in
theorem gv_k_X3_numberOpenAtoms_1 : GoodIn vs_k_X3_numberOpenAtoms (wsV RX3 179 RX1 yX1_contains vs_k_X1_contains) := goodIn_app (goodIn_sub (by decide +kernel) (by decide +kernel)) (goodIn_sub (fun _ h => List.mem_cons_of_mem _ (List.mem_append_right _ (List.mem_append_right _ (h)))) (by decide +kernel))
theorem om_k_X3_numberOpenAtoms_0 (x8_12_83 : Int32) (v1_7 : Int32) (x8_12_7 : Int32) (hn_7 : 0 ≤ v1_7.toInt) (hw0_7 : 0 ≤ (x8_12_7 : Int32).toInt) (c_1 : ¬ (384 ≤ v1_7)) (hw0_83 : 0 ≤ (x8_12_83 : Int32).toInt) : 0 ≤ (x8_12_83 : Int32).toInt := by
  have f_0 := hn_7
  have f_1 := hw0_7
  have f_2 := Int32.lt_iff_toInt_lt.mp (Int32.not_le.mp c_1)
  have f_3 := hw0_83
  have nl_384 : (384 : Int32).toInt = 384 := rfl
  have r_x8_12_83 := wi_rng x8_12_83
  omega
theorem om_k_X3_numberOpenAtoms_1 (x8_12_7 : Int32) (v1_7 : Int32) (t_26 : r_k_X1_contains) (hn_7 : 0 ≤ v1_7.toInt) (hw0_7 : 0 ≤ (x8_12_7 : Int32).toInt) (c_1 : ¬ (384 ≤ v1_7)) (c_5 : t_26 = 0) : 0 ≤ (x8_12_7 : Int32).toInt := by
  have f_0 := hn_7
  have f_1 := hw0_7
  have f_2 := Int32.lt_iff_toInt_lt.mp (Int32.not_le.mp c_1)
  have f_3 := congrArg Int32.toInt c_5
  have nl_0 : (0 : Int32).toInt = 0 := rfl
  have nl_384 : (384 : Int32).toInt = 384 := rfl
  have r_x8_12_7 := wi_rng x8_12_7
  omega
theorem om_k_X3_numberOpenAtoms_2 (x8_12_7 : Int32) (v1_7 : Int32) (t_26 : r_k_X1_contains) (t_37 : r_k_X1_contains) (hn_7 : 0 ≤ v1_7.toInt) (hw0_7 : 0 ≤ (x8_12_7 : Int32).toInt) (c_1 : ¬ (384 ≤ v1_7)) (c_5 : ¬ (t_26 = 0)) (c_9 : ¬ (t_37 = 0)) : 0 ≤ (x8_12_7 : Int32).toInt := by
  have f_0 := hn_7
  have f_1 := hw0_7
  have f_2 := Int32.lt_iff_toInt_lt.mp (Int32.not_le.mp c_1)
  have f_3 : ¬ (t_26 : Int32).toInt = (0 : Int32).toInt := fun h => c_5 (Int32.toInt_inj.mp h)
  have f_4 : ¬ (t_37 : Int32).toInt = (0 : Int32).toInt := fun h => c_9 (Int32.toInt_inj.mp h)
  have nl_0 : (0 : Int32).toInt = 0 := rfl
  have nl_384 : (384 : Int32).toInt = 384 := rfl
  have r_x8_12_7 := wi_rng x8_12_7
  omega
theorem om_k_X3_numberOpenAtoms_3 (x8_12_7 : Int32) (v1_7 : Int32) (t_26 : r_k_X1_contains) (t_37 : r_k_X1_contains) (hn_7 : 0 ≤ v1_7.toInt) (hw0_7 : 0 ≤ (x8_12_7 : Int32).toInt) (c_1 : ¬ (384 ≤ v1_7)) (c_5 : ¬ (t_26 = 0)) (c_9 : t_37 = 0) (c_10 : 384 ≤ x8_12_7) : 0 ≤ (x8_12_7 : Int32).toInt := by
  have f_0 := hn_7
  have f_1 := hw0_7
  have f_2 := Int32.lt_iff_toInt_lt.mp (Int32.not_le.mp c_1)
  have f_3 : ¬ (t_26 : Int32).toInt = (0 : Int32).toInt := fun h => c_5 (Int32.toInt_inj.mp h)
  have f_4 := congrArg Int32.toInt c_9
  have f_5 := Int32.le_iff_toInt_le.mp (c_10)
  have nl_0 : (0 : Int32).toInt = 0 := rfl
  have nl_384 : (384 : Int32).toInt = 384 := rfl
  have r_x8_12_7 := wi_rng x8_12_7
  omega
theorem om_k_X3_numberOpenAtoms_4 (x8_12_7 : Int32) (v1_7 : Int32) (t_26 : r_k_X1_contains) (t_37 : r_k_X1_contains) (hn_7 : 0 ≤ v1_7.toInt) (hw0_7 : 0 ≤ (x8_12_7 : Int32).toInt) (c_1 : ¬ (384 ≤ v1_7)) (c_5 : ¬ (t_26 = 0)) (c_9 : t_37 = 0) (c_10 : ¬ (384 ≤ x8_12_7)) : vp_in (x8_12_7) 384 := by
  have f_0 := hn_7
  have f_1 := hw0_7
  have f_2 := Int32.lt_iff_toInt_lt.mp (Int32.not_le.mp c_1)
  have f_3 : ¬ (t_26 : Int32).toInt = (0 : Int32).toInt := fun h => c_5 (Int32.toInt_inj.mp h)
  have f_4 := congrArg Int32.toInt c_9
  have f_5 := Int32.lt_iff_toInt_lt.mp (Int32.not_le.mp c_10)
  have nl_0 : (0 : Int32).toInt = 0 := rfl
  have nl_384 : (384 : Int32).toInt = 384 := rfl
  have r_x8_12_7 := wi_rng x8_12_7
  exact wi_in (by omega) (by omega)
theorem om_k_X3_numberOpenAtoms_5 (x8_12_7 : Int32) (v1_7 : Int32) (t_26 : r_k_X1_contains) (t_37 : r_k_X1_contains) (hn_7 : 0 ≤ v1_7.toInt) (hw0_7 : 0 ≤ (x8_12_7 : Int32).toInt) (c_1 : ¬ (384 ≤ v1_7)) (c_5 : ¬ (t_26 = 0)) (c_9 : t_37 = 0) (c_10 : ¬ (384 ≤ x8_12_7)) : 0 ≤ (x8_12_7 + 1 : Int32).toInt := by
  have f_0 := hn_7
  have f_1 := hw0_7
  have f_2 := Int32.lt_iff_toInt_lt.mp (Int32.not_le.mp c_1)
  have f_3 : ¬ (t_26 : Int32).toInt = (0 : Int32).toInt := fun h => c_5 (Int32.toInt_inj.mp h)
  have f_4 := congrArg Int32.toInt c_9
  have f_5 := Int32.lt_iff_toInt_lt.mp (Int32.not_le.mp c_10)
  have nl_0 : (0 : Int32).toInt = 0 := rfl
  have nl_1 : (1 : Int32).toInt = 1 := rfl
  have nl_384 : (384 : Int32).toInt = 384 := rfl
  have r_x8_12_7 := wi_rng x8_12_7
  have q_1 : (x8_12_7 + 1).toInt = (x8_12_7 : Int32).toInt + (1 : Int32).toInt := wi_add (by omega) (by omega)
  omega
theorem om_k_X3_numberOpenAtoms_6 : 0 ≤ (0 : Int32).toInt := by
  have nl_0 : (0 : Int32).toInt = 0 := rfl
  omega
set_option maxHeartbeats 4000000 in
set_option maxRecDepth 100000 in
theorem k_X3_numberOpenAtoms (l : Launch) (D : va_G) (ty : Nat → ClassId) (td mi sz : Nat) (X : Nat → Nat) (hn : Int32) (kn : Int32) (on : Int32) (cu : Int32) (pu : Int32) (gw : Int32) (su : Nat → Int64) (po : Nat → Int64) (oa : Nat → Int32) (ob : Nat → Int32) (TT : r_k_X3_numberOpenAtoms) (hTT : TT = m_k_X3_numberOpenAtoms su po oa ob) : Met l yX3_numberOpenAtoms vs_k_X3_numberOpenAtoms { frames := 1, cells := 0, slots := 0, locals := 21 } (va_Pc [.ref (X 8)] (wq_P D ty td mi (wW_k_X3_numberOpenAtoms ty X hn kn on cu pu gw su po oa ob) sz)) (va_Qv (fun u : va_W => ((u = (wW_k_X3_numberOpenAtoms ty X hn kn TT.2.2 cu pu gw su po TT.1 TT.2.1)))) (wq_B D (va_A (wW_k_X3_numberOpenAtoms ty X hn kn on cu pu gw su po oa ob) sz)) (va_A (wW_k_X3_numberOpenAtoms ty X hn kn on cu pu gw su po oa ob) sz)) 0 0 (va_A (wW_k_X3_numberOpenAtoms ty X hn kn on cu pu gw su po oa ob) sz) := by
  refine Met.ofW (cc := cX3_numberOpenAtoms) (maxL := 2) (ret := none) (by decide) rfl ?_
  intro p e s m args below meth c s₁ B hml hv
  obtain ⟨rfl, hsz, hP, hK, hD0, hE⟩ := hv
  have hx := B.exec
  have hb := B.bytes
  have hr := B.returns
  have hts := atoms_spec (ws := vs_k_X3_numberOpenAtoms) B.pre
  have hown : s.vm.findClass RX3 = some m.cls := findClass_of_methodNamed B.named
  have hlocks := B.notSynchronized
  subst hsz
  have hD := hD0.self (sz := s.heap.size)
  generalize hAe : va_A (wW_k_X3_numberOpenAtoms ty X hn kn on cu pu gw su po oa ob) s.heap.size = A at hD hE ⊢
  have hA : ∀ q : Nat, s.heap.size ≤ q → A q := fun q h => by rw [← hAe]; exact Or.inr h
  have hS : va_S A s.heap s.heap [] := va_S.rf
  have hP : va_P D vwCl (wW_k_X3_numberOpenAtoms ty X hn kn on cu pu gw su po oa ob) s.heap := hP
  have hl := lv_entry ([.ref (X 8)]) (n := 2) (Nat.le_of_ble_eq_true rfl)
  rw [lg_entry_eq]
  generalize (lg_sl ([.ref (X 8)]) ++ List.replicate (2 - (lg_sl ([.ref (X 8)])).length) Slot.unset).toArray = ls at hl ⊢
  have hl : lv_has ls 2 [(0, .ref (X 8))] := hl
  have END : ∀ (w9_0 : Nat → Int32) (w9_1 : Nat → Int32) (w9_2 : Int32), TT = (w9_0, w9_1, w9_2) → ∀ (H : Heap) (locs : List Loc), va_P D vwCl (wW_k_X3_numberOpenAtoms ty X hn kn w9_2 cu pu gw su po w9_0 w9_1) H → va_D A (wW_k_X3_numberOpenAtoms ty X hn kn w9_2 cu pu gw su po w9_0 w9_1) → va_S A s.heap H locs → ∀ (ls : Array Slot) (pc : Nat), decode cX3_numberOpenAtoms pc = .ok (.return_, 1) → W p l e (headSpec vs_k_X3_numberOpenAtoms { frames := 1, cells := 0, slots := 0, locals := 21 }).room s m ([.ref (X 8)] : List Value).toArray below meth c H locs 0 0 (MQ below (va_Qv (fun u : va_W => ((u = (wW_k_X3_numberOpenAtoms ty X hn kn TT.2.2 cu pu gw su po TT.1 TT.2.1)))) (wq_B D A) A) ([.ref (X 8)] : List Value).toArray s 0 0 A) (F0 m pc ls []) := by
    intro w9_0 w9_1 w9_2 hT H locs hP hD hS ls pc hd
    have hM : TT = (w9_0, w9_1, w9_2) := hT
    exact W.vret hx hb hr (fun t ht hW => ⟨⟨(wW_k_X3_numberOpenAtoms ty X hn kn w9_2 cu pu gw su po w9_0 w9_1), rfl, (by rw [hM]), wq_B.of ht hP hD⟩, hS.F ht⟩) hS.2.2 hd
  have hT := hTT
  rw [m_k_X3_numberOpenAtoms] at hT
  refine lv_aload_n hx hb dX3_numberOpenAtoms_0 rfl (lv_at hl 0 rfl) ?_
  refine lv_iconst (v := 0) hx hb dX3_numberOpenAtoms_1 (by decide) ?_
  refine va_put (D := D) (ci := 5) (v := .int 0) (ty := tyX3 12) (C := RX3) (T := TX3) (N := 16) hx hb hts iv_k_X3_numberOpenAtoms_X3 tyX3 tyX3_ok nmX3 hown hK hP hD hS 0 rfl rfl 12 (by decide) (hts (.fieldLink RX3 216 "AnswerFold$Grounding" "openCount" "I") (by decide +kernel)) (fun _ h9 => h9) rfl (by decide +kernel) rfl rfl (Nat.le_of_ble_eq_true rfl) dX3_numberOpenAtoms_2 (fun H locs hP hD hS => ?_)
  have hP : va_P D vwCl (wW_k_X3_numberOpenAtoms ty X hn kn (0) cu pu gw su po oa ob) H := hP
  have hD : va_D A (wW_k_X3_numberOpenAtoms ty X hn kn (0) cu pu gw su po oa ob) := hD
  refine lv_iconst (v := 0) hx hb dX3_numberOpenAtoms_5 (by decide) ?_
  refine lv_istore_n (lv' := [(1, .int 0), (0, .ref (X 8))]) hx hb dX3_numberOpenAtoms_6 rfl hl (by decide) rfl (fun ls hl => ?_)
  have L_7 : ∀ (n_7 : Nat) (v1_7 : Int32) (x18_f_7 : Nat → Int32) (x19_f_7 : Nat → Int32) (x8_12_7 : Int32), (2147483648 - v1_7.toInt).toNat < n_7 → TT = m_k_X3_numberOpenAtoms_7 su po n_7 v1_7 x18_f_7 x19_f_7 x8_12_7 → 0 ≤ v1_7.toInt → 0 ≤ (x8_12_7 : Int32).toInt → ∀ (H : Heap) (locs : List Loc), va_P D vwCl (wW_k_X3_numberOpenAtoms ty X hn kn x8_12_7 cu pu gw su po x18_f_7 x19_f_7) H → va_D A (wW_k_X3_numberOpenAtoms ty X hn kn x8_12_7 cu pu gw su po x18_f_7 x19_f_7) → va_S A s.heap H locs → ∀ ls : Array Slot, lv_has ls 2 [(0, .ref (X 8)), (1, .int v1_7)] → W p l e (headSpec vs_k_X3_numberOpenAtoms { frames := 1, cells := 0, slots := 0, locals := 21 }).room s m ([.ref (X 8)] : List Value).toArray below meth c H locs 0 0 (MQ below (va_Qv (fun u : va_W => ((u = (wW_k_X3_numberOpenAtoms ty X hn kn TT.2.2 cu pu gw su po TT.1 TT.2.1)))) (wq_B D A) A) ([.ref (X 8)] : List Value).toArray s 0 0 A) (F0 m 7 ls []) := by
    intro n_7
    induction n_7 with
    | zero => intro v1_7 x18_f_7 x19_f_7 x8_12_7 hu; exact absurd hu (Nat.not_lt_zero _)
    | succ n_7 ih_7 =>
      intro v1_7 x18_f_7 x19_f_7 x8_12_7 hu_7 hT hn_7 hw0_7 H locs hP hD hS ls hl
      rw [m_k_X3_numberOpenAtoms_7_succ, m_k_X3_numberOpenAtoms_7s] at hT
      refine lv_iload_n hx hb dX3_numberOpenAtoms_7 rfl (lv_at hl 1 rfl) ?_
      refine lv_sipush (v := 384) hx hb dX3_numberOpenAtoms_8 (by decide) ?_
      refine lv_icmp_ge (tgt := 89) hx hb dX3_numberOpenAtoms_11 (by decide) (fun c_1 => ?_) (fun c_1 => ?_)
      · rw [if_pos c_1] at hT
        exact END x18_f_7 x19_f_7 x8_12_7 hT _ _ hP hD hS _ _ dX3_numberOpenAtoms_89
      · rw [if_neg c_1] at hT
        refine lv_aload_n hx hb dX3_numberOpenAtoms_14 rfl (lv_at hl 0 rfl) ?_
        refine va_get (D := D) (ci := 5) (v := .ref (X 19)) (C := RX3) (T := TX3) (N := 16) hx hb hts iv_k_X3_numberOpenAtoms_X3 hown hK hP 0 rfl rfl 11 (by decide) (hts (.fieldLink RX3 44 "AnswerFold$Grounding" "openNumbers" "[I") (by decide +kernel)) (fun _ h9 => h9) rfl dX3_numberOpenAtoms_15 ?_
        refine lv_iload_n hx hb dX3_numberOpenAtoms_18 rfl (lv_at hl 1 rfl) ?_
        refine lv_iconst (v := (-1)) hx hb dX3_numberOpenAtoms_19 (by decide) ?_
        refine va_iast (D := D) hx hb hK hP hD hS 6 0 rfl rfl (wi_in hn_7 (wi_hi c_1 (by decide))) dX3_numberOpenAtoms_20 (fun H locs hP hD hS => ?_)
        have hP : va_P D vwCl (wW_k_X3_numberOpenAtoms ty X hn kn x8_12_7 cu pu gw su po x18_f_7 (upd x19_f_7 v1_7.toNatClampNeg (-1))) H := hP
        have hD : va_D A (wW_k_X3_numberOpenAtoms ty X hn kn x8_12_7 cu pu gw su po x18_f_7 (upd x19_f_7 v1_7.toNatClampNeg (-1))) := hD
        refine lv_aload_n hx hb dX3_numberOpenAtoms_21 rfl (lv_at hl 0 rfl) ?_
        refine va_get (D := D) (ci := 5) (v := .ref (X 12)) (C := RX3) (T := TX3) (N := 16) hx hb hts iv_k_X3_numberOpenAtoms_X3 hown hK hP 0 rfl rfl 3 (by decide) (hts (.fieldLink RX3 25 "AnswerFold$Grounding" "possible" "LAnswerFold$AtomSet;") (by decide +kernel)) (fun _ h9 => h9) rfl dX3_numberOpenAtoms_22 ?_
        refine lv_iload_n hx hb dX3_numberOpenAtoms_25 rfl (lv_at hl 1 rfl) ?_
        obtain ⟨t_26, ht_26⟩ : ∃ t, t = m_k_X1_contains po v1_7 := ⟨_, rfl⟩
        rw [lE_eq ht_26] at hT
        refine wq_iW (wc := (wW_k_X1_contains ty (X 12) (X 13) po)) (va_runV (As := [.int v1_7]) (rest := []) ⟨hx, hb, hml, hown, hts⟩ (k_X1_contains l D ty td mi H.size (X 12) (X 13) po v1_7 t_26 ht_26) (cwV 1 hts gv_k_X3_numberOpenAtoms_0 rfl rfl rfl (by decide +kernel) ⟨(Nat.le_of_ble_eq_true rfl), (Nat.le_of_ble_eq_true rfl)⟩) (wm_V (wm_preS hP hD hK hE hS hA [false, false, false, true, true] rfl) (va_recv (q0 := 3) (ci := 3) hK hP rfl rfl)) rfl rfl hl.1 rfl (lv_room (Nat.le_of_ble_eq_true rfl)) dX3_numberOpenAtoms_26 ⟨(Nat.le_of_ble_eq_true rfl), (Nat.le_of_ble_eq_true rfl)⟩) hS hA hP hD [false, false, false, true, true] rfl (fun _ _ h => by rcases h with ⟨-, -, rfl⟩; rfl) (fun r u H locs hw hP hD hS => ?_)
        obtain ⟨hr0, c_4, rfl⟩ := hw
        subst r
        have hP : va_P D vwCl (wW_k_X3_numberOpenAtoms ty X hn kn x8_12_7 cu pu gw su po x18_f_7 (upd x19_f_7 v1_7.toNatClampNeg (-1))) H := hP
        have hD : va_D A (wW_k_X3_numberOpenAtoms ty X hn kn x8_12_7 cu pu gw su po x18_f_7 (upd x19_f_7 v1_7.toNatClampNeg (-1))) := hD
        refine W.widen (k := 0) (n := 0) (Nat.le_of_ble_eq_true rfl) (Nat.le_of_ble_eq_true rfl) ?_
        have J_83 : ∀ (x18_f_83 : Nat → Int32) (x19_f_83 : Nat → Int32) (x8_12_83 : Int32), TT = m_k_X3_numberOpenAtoms_83 (m_k_X3_numberOpenAtoms_7 su po n_7) v1_7 x18_f_83 x19_f_83 x8_12_83 → 0 ≤ (x8_12_83 : Int32).toInt → ∀ (H : Heap) (locs : List Loc), va_P D vwCl (wW_k_X3_numberOpenAtoms ty X hn kn x8_12_83 cu pu gw su po x18_f_83 x19_f_83) H → va_D A (wW_k_X3_numberOpenAtoms ty X hn kn x8_12_83 cu pu gw su po x18_f_83 x19_f_83) → va_S A s.heap H locs → ∀ ls : Array Slot, lv_has ls 2 [(0, .ref (X 8)), (1, .int v1_7)] → W p l e (headSpec vs_k_X3_numberOpenAtoms { frames := 1, cells := 0, slots := 0, locals := 21 }).room s m ([.ref (X 8)] : List Value).toArray below meth c H locs 0 0 (MQ below (va_Qv (fun u : va_W => ((u = (wW_k_X3_numberOpenAtoms ty X hn kn TT.2.2 cu pu gw su po TT.1 TT.2.1)))) (wq_B D A) A) ([.ref (X 8)] : List Value).toArray s 0 0 A) (F0 m 83 ls []) := by
          intro x18_f_83 x19_f_83 x8_12_83 hT hw0_83 H locs hP hD hS ls hl
          rw [m_k_X3_numberOpenAtoms_83] at hT
          refine lv_iinc (v := v1_7 + 1) (lv' := [(1, .int (v1_7 + 1)), (0, .ref (X 8))]) hx hb dX3_numberOpenAtoms_83 hl (k := 1) rfl (by rfl) (by decide) rfl (fun ls hl => ?_)
          refine lv_goto (tgt := 7) hx hb dX3_numberOpenAtoms_86 (by decide) ?_
          exact ih_7 (v1_7 + 1) x18_f_83 x19_f_83 x8_12_83 (wi_up hu_7 (Int32.not_le.mp c_1)) hT (wi_inc hn_7 (Int32.not_le.mp c_1)) (om_k_X3_numberOpenAtoms_0 x8_12_83 v1_7 x8_12_7 hn_7 hw0_7 c_1 hw0_83) _ _ hP hD hS _ (lv_sub hl [1, 0] rfl)
        refine lv_if_eq (tgt := 83) hx hb dX3_numberOpenAtoms_29 (by decide) (fun c_5 => ?_) (fun c_5 => ?_)
        · rw [if_pos c_5] at hT
          exact J_83 x18_f_7 (upd x19_f_7 v1_7.toNatClampNeg (-1)) x8_12_7 hT (om_k_X3_numberOpenAtoms_1 x8_12_7 v1_7 t_26 hn_7 hw0_7 c_1 c_5) _ _ hP hD hS _ (lv_sub hl [0, 1] rfl)
        · rw [if_neg c_5] at hT
          refine lv_aload_n hx hb dX3_numberOpenAtoms_32 rfl (lv_at hl 0 rfl) ?_
          refine va_get (D := D) (ci := 5) (v := .ref (X 10)) (C := RX3) (T := TX3) (N := 16) hx hb hts iv_k_X3_numberOpenAtoms_X3 hown hK hP 0 rfl rfl 2 (by decide) (hts (.fieldLink RX3 21 "AnswerFold$Grounding" "sure" "LAnswerFold$AtomSet;") (by decide +kernel)) (fun _ h9 => h9) rfl dX3_numberOpenAtoms_33 ?_
          refine lv_iload_n hx hb dX3_numberOpenAtoms_36 rfl (lv_at hl 1 rfl) ?_
          obtain ⟨t_37, ht_37⟩ : ∃ t, t = m_k_X1_contains su v1_7 := ⟨_, rfl⟩
          rw [lE_eq ht_37] at hT
          refine wq_iW (wc := (wW_k_X1_contains ty (X 10) (X 11) su)) (va_runV (As := [.int v1_7]) (rest := []) ⟨hx, hb, hml, hown, hts⟩ (k_X1_contains l D ty td mi H.size (X 10) (X 11) su v1_7 t_37 ht_37) (cwV 1 hts gv_k_X3_numberOpenAtoms_1 rfl rfl rfl (by decide +kernel) ⟨(Nat.le_of_ble_eq_true rfl), (Nat.le_of_ble_eq_true rfl)⟩) (wm_V (wm_preS hP hD hK hE hS hA [false, true, true] rfl) (va_recv (q0 := 1) (ci := 3) hK hP rfl rfl)) rfl rfl hl.1 rfl (lv_room (Nat.le_of_ble_eq_true rfl)) dX3_numberOpenAtoms_37 ⟨(Nat.le_of_ble_eq_true rfl), (Nat.le_of_ble_eq_true rfl)⟩) hS hA hP hD [false, true, true] rfl (fun _ _ h => by rcases h with ⟨-, -, rfl⟩; rfl) (fun r u H locs hw hP hD hS => ?_)
          obtain ⟨hr0, c_8, rfl⟩ := hw
          subst r
          have hP : va_P D vwCl (wW_k_X3_numberOpenAtoms ty X hn kn x8_12_7 cu pu gw su po x18_f_7 (upd x19_f_7 v1_7.toNatClampNeg (-1))) H := hP
          have hD : va_D A (wW_k_X3_numberOpenAtoms ty X hn kn x8_12_7 cu pu gw su po x18_f_7 (upd x19_f_7 v1_7.toNatClampNeg (-1))) := hD
          refine W.widen (k := 0) (n := 0) (Nat.le_of_ble_eq_true rfl) (Nat.le_of_ble_eq_true rfl) ?_
          refine lv_if_ne (tgt := 83) hx hb dX3_numberOpenAtoms_40 (by decide) (fun c_9 => ?_) (fun c_9 => ?_)
          · rw [if_neg c_9] at hT
            exact J_83 x18_f_7 (upd x19_f_7 v1_7.toNatClampNeg (-1)) x8_12_7 hT (om_k_X3_numberOpenAtoms_2 x8_12_7 v1_7 t_26 t_37 hn_7 hw0_7 c_1 c_5 c_9) _ _ hP hD hS _ (lv_sub hl [0, 1] rfl)
          · rw [if_pos c_9] at hT
            refine lv_aload_n hx hb dX3_numberOpenAtoms_43 rfl (lv_at hl 0 rfl) ?_
            refine va_get (D := D) (ci := 5) (v := .int x8_12_7) (C := RX3) (T := TX3) (N := 16) hx hb hts iv_k_X3_numberOpenAtoms_X3 hown hK hP 0 rfl rfl 12 (by decide) (hts (.fieldLink RX3 216 "AnswerFold$Grounding" "openCount" "I") (by decide +kernel)) (fun _ h9 => h9) rfl dX3_numberOpenAtoms_44 ?_
            refine lv_sipush (v := 384) hx hb dX3_numberOpenAtoms_47 (by decide) ?_
            refine lv_icmp_ge (tgt := 83) hx hb dX3_numberOpenAtoms_50 (by decide) (fun c_10 => ?_) (fun c_10 => ?_)
            · rw [if_pos c_10] at hT
              exact J_83 x18_f_7 (upd x19_f_7 v1_7.toNatClampNeg (-1)) x8_12_7 hT (om_k_X3_numberOpenAtoms_3 x8_12_7 v1_7 t_26 t_37 hn_7 hw0_7 c_1 c_5 c_9 c_10) _ _ hP hD hS _ (lv_sub hl [0, 1] rfl)
            · rw [if_neg c_10] at hT
              refine lv_aload_n hx hb dX3_numberOpenAtoms_53 rfl (lv_at hl 0 rfl) ?_
              refine va_get (D := D) (ci := 5) (v := .ref (X 19)) (C := RX3) (T := TX3) (N := 16) hx hb hts iv_k_X3_numberOpenAtoms_X3 hown hK hP 0 rfl rfl 11 (by decide) (hts (.fieldLink RX3 44 "AnswerFold$Grounding" "openNumbers" "[I") (by decide +kernel)) (fun _ h9 => h9) rfl dX3_numberOpenAtoms_54 ?_
              refine lv_iload_n hx hb dX3_numberOpenAtoms_57 rfl (lv_at hl 1 rfl) ?_
              refine lv_aload_n hx hb dX3_numberOpenAtoms_58 rfl (lv_at hl 0 rfl) ?_
              refine va_get (D := D) (ci := 5) (v := .int x8_12_7) (C := RX3) (T := TX3) (N := 16) hx hb hts iv_k_X3_numberOpenAtoms_X3 hown hK hP 0 rfl rfl 12 (by decide) (hts (.fieldLink RX3 216 "AnswerFold$Grounding" "openCount" "I") (by decide +kernel)) (fun _ h9 => h9) rfl dX3_numberOpenAtoms_59 ?_
              refine va_iast (D := D) hx hb hK hP hD hS 6 0 rfl rfl (wi_in hn_7 (wi_hi c_1 (by decide))) dX3_numberOpenAtoms_62 (fun H locs hP hD hS => ?_)
              have hP : va_P D vwCl (wW_k_X3_numberOpenAtoms ty X hn kn x8_12_7 cu pu gw su po x18_f_7 (upd (upd x19_f_7 v1_7.toNatClampNeg (-1)) v1_7.toNatClampNeg x8_12_7)) H := hP
              have hD : va_D A (wW_k_X3_numberOpenAtoms ty X hn kn x8_12_7 cu pu gw su po x18_f_7 (upd (upd x19_f_7 v1_7.toNatClampNeg (-1)) v1_7.toNatClampNeg x8_12_7)) := hD
              refine lv_aload_n hx hb dX3_numberOpenAtoms_63 rfl (lv_at hl 0 rfl) ?_
              refine va_get (D := D) (ci := 5) (v := .ref (X 18)) (C := RX3) (T := TX3) (N := 16) hx hb hts iv_k_X3_numberOpenAtoms_X3 hown hK hP 0 rfl rfl 10 (by decide) (hts (.fieldLink RX3 41 "AnswerFold$Grounding" "openAtoms" "[I") (by decide +kernel)) (fun _ h9 => h9) rfl dX3_numberOpenAtoms_64 ?_
              refine lv_aload_n hx hb dX3_numberOpenAtoms_67 rfl (lv_at hl 0 rfl) ?_
              refine va_get (D := D) (ci := 5) (v := .int x8_12_7) (C := RX3) (T := TX3) (N := 16) hx hb hts iv_k_X3_numberOpenAtoms_X3 hown hK hP 0 rfl rfl 12 (by decide) (hts (.fieldLink RX3 216 "AnswerFold$Grounding" "openCount" "I") (by decide +kernel)) (fun _ h9 => h9) rfl dX3_numberOpenAtoms_68 ?_
              refine lv_iload_n hx hb dX3_numberOpenAtoms_71 rfl (lv_at hl 1 rfl) ?_
              refine va_iast (D := D) hx hb hK hP hD hS 5 0 rfl rfl (om_k_X3_numberOpenAtoms_4 x8_12_7 v1_7 t_26 t_37 hn_7 hw0_7 c_1 c_5 c_9 c_10) dX3_numberOpenAtoms_72 (fun H locs hP hD hS => ?_)
              have hP : va_P D vwCl (wW_k_X3_numberOpenAtoms ty X hn kn x8_12_7 cu pu gw su po (upd x18_f_7 x8_12_7.toNatClampNeg v1_7) (upd (upd x19_f_7 v1_7.toNatClampNeg (-1)) v1_7.toNatClampNeg x8_12_7)) H := hP
              have hD : va_D A (wW_k_X3_numberOpenAtoms ty X hn kn x8_12_7 cu pu gw su po (upd x18_f_7 x8_12_7.toNatClampNeg v1_7) (upd (upd x19_f_7 v1_7.toNatClampNeg (-1)) v1_7.toNatClampNeg x8_12_7)) := hD
              refine lv_aload_n hx hb dX3_numberOpenAtoms_73 rfl (lv_at hl 0 rfl) ?_
              refine lv_dup hx hb dX3_numberOpenAtoms_74 rfl ?_
              refine va_get (D := D) (ci := 5) (v := .int x8_12_7) (C := RX3) (T := TX3) (N := 16) hx hb hts iv_k_X3_numberOpenAtoms_X3 hown hK hP 0 rfl rfl 12 (by decide) (hts (.fieldLink RX3 216 "AnswerFold$Grounding" "openCount" "I") (by decide +kernel)) (fun _ h9 => h9) rfl dX3_numberOpenAtoms_75 ?_
              refine lv_iconst (v := 1) hx hb dX3_numberOpenAtoms_78 (by decide) ?_
              refine lv_iadd hx hb dX3_numberOpenAtoms_79 ?_
              refine va_put (D := D) (ci := 5) (v := .int (x8_12_7 + 1)) (ty := tyX3 12) (C := RX3) (T := TX3) (N := 16) hx hb hts iv_k_X3_numberOpenAtoms_X3 tyX3 tyX3_ok nmX3 hown hK hP hD hS 0 rfl rfl 12 (by decide) (hts (.fieldLink RX3 216 "AnswerFold$Grounding" "openCount" "I") (by decide +kernel)) (fun _ h9 => h9) rfl (by decide +kernel) rfl rfl (Nat.le_of_ble_eq_true rfl) dX3_numberOpenAtoms_80 (fun H locs hP hD hS => ?_)
              have hP : va_P D vwCl (wW_k_X3_numberOpenAtoms ty X hn kn (x8_12_7 + 1) cu pu gw su po (upd x18_f_7 x8_12_7.toNatClampNeg v1_7) (upd (upd x19_f_7 v1_7.toNatClampNeg (-1)) v1_7.toNatClampNeg x8_12_7)) H := hP
              have hD : va_D A (wW_k_X3_numberOpenAtoms ty X hn kn (x8_12_7 + 1) cu pu gw su po (upd x18_f_7 x8_12_7.toNatClampNeg v1_7) (upd (upd x19_f_7 v1_7.toNatClampNeg (-1)) v1_7.toNatClampNeg x8_12_7)) := hD
              exact J_83 (upd x18_f_7 x8_12_7.toNatClampNeg v1_7) (upd (upd x19_f_7 v1_7.toNatClampNeg (-1)) v1_7.toNatClampNeg x8_12_7) (x8_12_7 + 1) hT (om_k_X3_numberOpenAtoms_5 x8_12_7 v1_7 t_26 t_37 hn_7 hw0_7 c_1 c_5 c_9 c_10) _ _ hP hD hS _ (lv_sub hl [0, 1] rfl)
  exact L_7 wF 0 oa ob 0 (wF_up 0) hT (by decide) (om_k_X3_numberOpenAtoms_6) _ _ hP hD hS _ (lv_sub hl [1, 0] rfl)
theorem dX3_listHeads_0 : decode cX3_listHeads 0 = .ok (.aload_n 0, 1) := by decide +kernel
theorem dX3_listHeads_1 : decode cX3_listHeads 1 = .ok (.iconst 0, 1) := by decide +kernel
theorem dX3_listHeads_2 : decode cX3_listHeads 2 = .ok (.putfield 196, 3) := by decide +kernel
theorem dX3_listHeads_5 : decode cX3_listHeads 5 = .ok (.aload_n 1, 1) := by decide +kernel
theorem dX3_listHeads_6 : decode cX3_listHeads 6 = .ok (.invokevirtual 202, 3) := by decide +kernel
theorem dX3_listHeads_9 : decode cX3_listHeads 9 = .ok (.istore_n 2, 1) := by decide +kernel
theorem dX3_listHeads_10 : decode cX3_listHeads 10 = .ok (.iload_n 2, 1) := by decide +kernel
theorem dX3_listHeads_11 : decode cX3_listHeads 11 = .ok (.ifCond .eq 8, 3) := by decide +kernel
theorem dX3_listHeads_14 : decode cX3_listHeads 14 = .ok (.bipush 8, 2) := by decide +kernel
theorem dX3_listHeads_16 : decode cX3_listHeads 16 = .ok (.goto 4, 3) := by decide +kernel
theorem dX3_listHeads_19 : decode cX3_listHeads 19 = .ok (.iconst 1, 1) := by decide +kernel
theorem dX3_listHeads_20 : decode cX3_listHeads 20 = .ok (.istore_n 3, 1) := by decide +kernel
theorem dX3_listHeads_21 : decode cX3_listHeads 21 = .ok (.iconst 0, 1) := by decide +kernel
theorem dX3_listHeads_22 : decode cX3_listHeads 22 = .ok (.istore 4, 2) := by decide +kernel
theorem dX3_listHeads_24 : decode cX3_listHeads 24 = .ok (.iload 4, 2) := by decide +kernel
theorem dX3_listHeads_26 : decode cX3_listHeads 26 = .ok (.iload_n 3, 1) := by decide +kernel
theorem dX3_listHeads_27 : decode cX3_listHeads 27 = .ok (.if_icmp .ge 107, 3) := by decide +kernel
theorem dX3_listHeads_30 : decode cX3_listHeads 30 = .ok (.iload_n 2, 1) := by decide +kernel
theorem dX3_listHeads_31 : decode cX3_listHeads 31 = .ok (.ifCond .eq 38, 3) := by decide +kernel
theorem dX3_listHeads_34 : decode cX3_listHeads 34 = .ok (.aload_n 0, 1) := by decide +kernel
theorem dX3_listHeads_35 : decode cX3_listHeads 35 = .ok (.getfield 21, 3) := by decide +kernel
theorem dX3_listHeads_38 : decode cX3_listHeads 38 = .ok (.aload_n 1, 1) := by decide +kernel
theorem dX3_listHeads_39 : decode cX3_listHeads 39 = .ok (.getfield 205, 3) := by decide +kernel
theorem dX3_listHeads_42 : decode cX3_listHeads 42 = .ok (.bipush 64, 2) := by decide +kernel
theorem dX3_listHeads_44 : decode cX3_listHeads 44 = .ok (.imul, 1) := by decide +kernel
theorem dX3_listHeads_45 : decode cX3_listHeads 45 = .ok (.iload 4, 2) := by decide +kernel
theorem dX3_listHeads_47 : decode cX3_listHeads 47 = .ok (.bipush 8, 2) := by decide +kernel
theorem dX3_listHeads_49 : decode cX3_listHeads 49 = .ok (.imul, 1) := by decide +kernel
theorem dX3_listHeads_50 : decode cX3_listHeads 50 = .ok (.iadd, 1) := by decide +kernel
theorem dX3_listHeads_51 : decode cX3_listHeads 51 = .ok (.invokevirtual 179, 3) := by decide +kernel
theorem dX3_listHeads_54 : decode cX3_listHeads 54 = .ok (.ifCond .ne 6, 3) := by decide +kernel
theorem dX3_listHeads_57 : decode cX3_listHeads 57 = .ok (.goto 71, 3) := by decide +kernel
theorem dX3_listHeads_60 : decode cX3_listHeads 60 = .ok (.aload_n 0, 1) := by decide +kernel
theorem dX3_listHeads_61 : decode cX3_listHeads 61 = .ok (.getfield 12, 3) := by decide +kernel
theorem dX3_listHeads_64 : decode cX3_listHeads 64 = .ok (.iload 4, 2) := by decide +kernel
theorem dX3_listHeads_66 : decode cX3_listHeads 66 = .ok (.putfield 151, 3) := by decide +kernel
theorem dX3_listHeads_69 : decode cX3_listHeads 69 = .ok (.iconst 0, 1) := by decide +kernel
theorem dX3_listHeads_70 : decode cX3_listHeads 70 = .ok (.istore 5, 2) := by decide +kernel
theorem dX3_listHeads_72 : decode cX3_listHeads 72 = .ok (.iload 5, 2) := by decide +kernel
theorem dX3_listHeads_74 : decode cX3_listHeads 74 = .ok (.aload_n 1, 1) := by decide +kernel
theorem dX3_listHeads_75 : decode cX3_listHeads 75 = .ok (.getfield 208, 3) := by decide +kernel
theorem dX3_listHeads_78 : decode cX3_listHeads 78 = .ok (.if_icmp .ge 50, 3) := by decide +kernel
theorem dX3_listHeads_81 : decode cX3_listHeads 81 = .ok (.aload_n 0, 1) := by decide +kernel
theorem dX3_listHeads_82 : decode cX3_listHeads 82 = .ok (.getfield 12, 3) := by decide +kernel
theorem dX3_listHeads_85 : decode cX3_listHeads 85 = .ok (.aload_n 1, 1) := by decide +kernel
theorem dX3_listHeads_86 : decode cX3_listHeads 86 = .ok (.iload 5, 2) := by decide +kernel
theorem dX3_listHeads_88 : decode cX3_listHeads 88 = .ok (.invokevirtual 209, 3) := by decide +kernel
theorem dX3_listHeads_91 : decode cX3_listHeads 91 = .ok (.invokevirtual 175, 3) := by decide +kernel
theorem dX3_listHeads_94 : decode cX3_listHeads 94 = .ok (.istore 6, 2) := by decide +kernel
theorem dX3_listHeads_96 : decode cX3_listHeads 96 = .ok (.iload 6, 2) := by decide +kernel
theorem dX3_listHeads_98 : decode cX3_listHeads 98 = .ok (.iconst (-1), 1) := by decide +kernel
theorem dX3_listHeads_99 : decode cX3_listHeads 99 = .ok (.if_icmp .eq 12, 3) := by decide +kernel
theorem dX3_listHeads_102 : decode cX3_listHeads 102 = .ok (.aload_n 0, 1) := by decide +kernel
theorem dX3_listHeads_103 : decode cX3_listHeads 103 = .ok (.iload 6, 2) := by decide +kernel
theorem dX3_listHeads_105 : decode cX3_listHeads 105 = .ok (.invokevirtual 212, 3) := by decide +kernel
theorem dX3_listHeads_108 : decode cX3_listHeads 108 = .ok (.goto 14, 3) := by decide +kernel
theorem dX3_listHeads_111 : decode cX3_listHeads 111 = .ok (.aload_n 1, 1) := by decide +kernel
theorem dX3_listHeads_112 : decode cX3_listHeads 112 = .ok (.getfield 120, 3) := by decide +kernel
theorem dX3_listHeads_115 : decode cX3_listHeads 115 = .ok (.bipush 100, 2) := by decide +kernel
theorem dX3_listHeads_117 : decode cX3_listHeads 117 = .ok (.if_icmp .ne 5, 3) := by decide +kernel
theorem dX3_listHeads_120 : decode cX3_listHeads 120 = .ok (.iconst 0, 1) := by decide +kernel
theorem dX3_listHeads_121 : decode cX3_listHeads 121 = .ok (.ireturn, 1) := by decide +kernel
theorem dX3_listHeads_122 : decode cX3_listHeads 122 = .ok (.iinc 5 1, 3) := by decide +kernel
theorem dX3_listHeads_125 : decode cX3_listHeads 125 = .ok (.goto (-53), 3) := by decide +kernel
theorem dX3_listHeads_128 : decode cX3_listHeads 128 = .ok (.iinc 4 1, 3) := by decide +kernel
theorem dX3_listHeads_131 : decode cX3_listHeads 131 = .ok (.goto (-107), 3) := by decide +kernel
theorem dX3_listHeads_134 : decode cX3_listHeads 134 = .ok (.iconst 1, 1) := by decide +kernel
theorem dX3_listHeads_135 : decode cX3_listHeads 135 = .ok (.ireturn, 1) := by decide +kernel
def wW_k_X3_listHeads (ty : Nat → ClassId) (X : Nat → Nat) (z9_0 : Int32) (z9_1 : Int32) (z9_2 : Int32) (z9_3 : Int32) (z9_4 : Int32) (z9_5 : Int32) (z9_6 : Int32) (z9_7 : Int32) (z9_8 : Int32) (z9_9 : Int32) (z9_10 : Nat → Int64) (z9_11 : Nat → Int32) : va_W := [((X 8), .inr (5, [.ref (X 1), .ref (X 9), .ref (X 10), .ref (X 12), .ref (X 14), .int z9_0, .ref (X 15), .ref (X 16), .ref (X 17), .int z9_1, .ref (X 18), .ref (X 19), .int z9_2, .int z9_3, .int z9_4, .int z9_5])), ((X 9), .inr (4, [.int z9_6, .int z9_7, .int z9_8, .int z9_9])), ((X 10), .inr (3, [.ref (X 11)])), ((X 11), .inl (ty 1, 6, .inr (.inl z9_10))), ((X 14), .inl (ty 0, 16, .inl z9_11))]
def vs_k_X3_listHeads : List Cond := .code yX3_listHeads cX3_listHeads 7 (some .boolean) :: ([.fieldLink RX3 196 "AnswerFold$Grounding" "headCount" "I", .methodLink RX3 202 yX8_hasSpan, .instanceMethod yX8_hasSpan, .selects RX8 yX8_hasSpan yX8_hasSpan, .initialized RX8, .fieldLink RX3 12 "AnswerFold$Grounding" "binding" "LAnswerFold$Binding;", .methodLink RX3 209 yX8_headAt, .instanceMethod yX8_headAt, .selects RX8 yX8_headAt yX8_headAt, .methodLink RX3 175 yX2_atomOf, .instanceMethod yX2_atomOf, .selects RX2 yX2_atomOf yX2_atomOf, .initialized RX2, .methodLink RX3 212 yX3_listHead, .instanceMethod yX3_listHead, .selects RX3 yX3_listHead yX3_listHead, .initialized RX3, .fieldLink RX3 21 "AnswerFold$Grounding" "sure" "LAnswerFold$AtomSet;", .methodLink RX3 179 yX1_contains, .instanceMethod yX1_contains, .selects RX1 yX1_contains yX1_contains, .initialized RX1] ++ (u_ws RX3 TX3 16 ++ (vs_k_X8_hasSpan ++ (u_ws RX8 TX8 11 ++ (vs_k_X8_headAt ++ (vs_k_X2_atomOf_z ++ (vs_k_X3_listHead ++ (vs_k_X2_atomOf ++ (vs_k_X1_contains ++ (u_ws RX2 TX2 4))))))))))
theorem iv_k_X3_listHeads_X2 : ∀ w ∈ u_ws RX2 TX2 4, w ∈ vs_k_X3_listHeads := (fun _ h => List.mem_cons_of_mem _ (List.mem_append_right _ (List.mem_append_right _ (List.mem_append_right _ (List.mem_append_right _ (List.mem_append_right _ (List.mem_append_right _ (List.mem_append_right _ (List.mem_append_right _ (List.mem_append_right _ (h)))))))))))
theorem iv_k_X3_listHeads_X3 : ∀ w ∈ u_ws RX3 TX3 16, w ∈ vs_k_X3_listHeads := (fun _ h => List.mem_cons_of_mem _ (List.mem_append_right _ (List.mem_append_left _ h)))
theorem iv_k_X3_listHeads_X8 : ∀ w ∈ u_ws RX8 TX8 11, w ∈ vs_k_X3_listHeads := (fun _ h => List.mem_cons_of_mem _ (List.mem_append_right _ (List.mem_append_right _ (List.mem_append_right _ (List.mem_append_left _ h)))))
set_option maxRecDepth 20000 in
theorem gv_k_X3_listHeads_0 : GoodIn vs_k_X3_listHeads (wsV RX3 202 RX8 yX8_hasSpan vs_k_X8_hasSpan) := goodIn_app (goodIn_sub (by decide +kernel) (by decide +kernel)) (goodIn_sub (fun _ h => List.mem_cons_of_mem _ (List.mem_append_right _ (List.mem_append_right _ (List.mem_append_left _ h)))) (by decide +kernel))
set_option maxRecDepth 20000 in
theorem gv_k_X3_listHeads_1 : GoodIn vs_k_X3_listHeads (wsV RX3 209 RX8 yX8_headAt vs_k_X8_headAt) := goodIn_app (goodIn_sub (by decide +kernel) (by decide +kernel)) (goodIn_sub (fun _ h => List.mem_cons_of_mem _ (List.mem_append_right _ (List.mem_append_right _ (List.mem_append_right _ (List.mem_append_right _ (List.mem_append_left _ h)))))) (by decide +kernel))
set_option maxRecDepth 20000 in
theorem gv_k_X3_listHeads_2 : GoodIn vs_k_X3_listHeads (wsV RX3 175 RX2 yX2_atomOf vs_k_X2_atomOf_z) := goodIn_app (goodIn_sub (by decide +kernel) (by decide +kernel)) (goodIn_sub (fun _ h => List.mem_cons_of_mem _ (List.mem_append_right _ (List.mem_append_right _ (List.mem_append_right _ (List.mem_append_right _ (List.mem_append_right _ (List.mem_append_left _ h))))))) (by decide +kernel))
set_option maxRecDepth 20000 in
theorem gv_k_X3_listHeads_3 : GoodIn vs_k_X3_listHeads (wsV RX3 212 RX3 yX3_listHead vs_k_X3_listHead) := goodIn_app (goodIn_sub (by decide +kernel) (by decide +kernel)) (goodIn_sub (fun _ h => List.mem_cons_of_mem _ (List.mem_append_right _ (List.mem_append_right _ (List.mem_append_right _ (List.mem_append_right _ (List.mem_append_right _ (List.mem_append_right _ (List.mem_append_left _ h)))))))) (by decide +kernel))
set_option maxRecDepth 20000 in
theorem gv_k_X3_listHeads_4 : GoodIn vs_k_X3_listHeads (wsV RX3 175 RX2 yX2_atomOf vs_k_X2_atomOf) := goodIn_app (goodIn_sub (by decide +kernel) (by decide +kernel)) (goodIn_sub (fun _ h => List.mem_cons_of_mem _ (List.mem_append_right _ (List.mem_append_right _ (List.mem_append_right _ (List.mem_append_right _ (List.mem_append_right _ (List.mem_append_right _ (List.mem_append_right _ (List.mem_append_left _ h))))))))) (by decide +kernel))
set_option maxRecDepth 20000 in
theorem gv_k_X3_listHeads_5 : GoodIn vs_k_X3_listHeads (wsV RX3 212 RX3 yX3_listHead vs_k_X3_listHead) := goodIn_app (goodIn_sub (by decide +kernel) (by decide +kernel)) (goodIn_sub (fun _ h => List.mem_cons_of_mem _ (List.mem_append_right _ (List.mem_append_right _ (List.mem_append_right _ (List.mem_append_right _ (List.mem_append_right _ (List.mem_append_right _ (List.mem_append_left _ h)))))))) (by decide +kernel))
set_option maxRecDepth 20000 in
theorem gv_k_X3_listHeads_6 : GoodIn vs_k_X3_listHeads (wsV RX3 179 RX1 yX1_contains vs_k_X1_contains) := goodIn_app (goodIn_sub (by decide +kernel) (by decide +kernel)) (goodIn_sub (fun _ h => List.mem_cons_of_mem _ (List.mem_append_right _ (List.mem_append_right _ (List.mem_append_right _ (List.mem_append_right _ (List.mem_append_right _ (List.mem_append_right _ (List.mem_append_right _ (List.mem_append_right _ (List.mem_append_left _ h)))))))))) (by decide +kernel))
set_option maxHeartbeats 4000000 in
set_option maxRecDepth 100000 in
theorem k_X3_listHeads (l : Launch) (D : va_G) (ty : Nat → ClassId) (td mi sz : Nat) (pp : pT) (X : Nat → Nat) (hn : Int32) (kn : Int32) (on : Int32) (cu : Int32) (pu : Int32) (gw : Int32) (b_1 : Int32) (b_2 : Int32) (b_3 : Int32) (b_p : Int32) (su : Nat → Int64) (hds : Nat → Int32) (a0 : Nat) (hok : pOK pp) (hm_a0 : a0 ∈ pRA pp) (TT : r_k_X3_listHeads) (hTT : TT = m_k_X3_listHeads pp b_1 b_2 b_3 b_p su hds a0) : Met l yX3_listHeads vs_k_X3_listHeads { frames := 2, cells := 0, slots := 0, locals := 45 } (va_Pc [.ref (X 8), .ref a0] (wq_P D ty td mi ((wW_k_X3_listHeads ty X hn kn on cu pu gw b_1 b_2 b_3 b_p su hds) ++ pw ty pp) sz)) (va_Qi (fun (r : Int32) (u : va_W) => (r = TT.1 ∧ (TT.1 = 0 ∨ TT.1 = 1) ∧ (u = ((wW_k_X3_listHeads ty X TT.2.2.1 kn on cu pu gw b_1 b_2 TT.2.2.2 b_p su TT.2.1) ++ pw ty pp)))) (wq_B D (va_A ((wW_k_X3_listHeads ty X hn kn on cu pu gw b_1 b_2 b_3 b_p su hds) ++ pw ty pp) sz)) (va_A ((wW_k_X3_listHeads ty X hn kn on cu pu gw b_1 b_2 b_3 b_p su hds) ++ pw ty pp) sz)) 0 0 (va_A ((wW_k_X3_listHeads ty X hn kn on cu pu gw b_1 b_2 b_3 b_p su hds) ++ pw ty pp) sz) := by
  refine Met.ofW (cc := cX3_listHeads) (maxL := 7) (ret := (some .boolean)) (by decide) rfl ?_
  intro p e s m args below meth c s₁ B hml hv
  obtain ⟨rfl, hsz, hP, hK, hD0, hE⟩ := hv
  have hx := B.exec
  have hb := B.bytes
  have hr := B.returns
  have hts := atoms_spec (ws := vs_k_X3_listHeads) B.pre
  have hown : s.vm.findClass RX3 = some m.cls := findClass_of_methodNamed B.named
  have hlocks := B.notSynchronized
  subst hsz
  have hD := hD0.self (sz := s.heap.size)
  generalize hAe : va_A ((wW_k_X3_listHeads ty X hn kn on cu pu gw b_1 b_2 b_3 b_p su hds) ++ pw ty pp) s.heap.size = A at hD hE ⊢
  have hA : ∀ q : Nat, s.heap.size ≤ q → A q := fun q h => by rw [← hAe]; exact Or.inr h
  have hS : va_S A s.heap s.heap [] := va_S.rf
  have hP : va_P D vwCl ((wW_k_X3_listHeads ty X hn kn on cu pu gw b_1 b_2 b_3 b_p su hds) ++ pw ty pp) s.heap := hP
  have hl := lv_entry ([.ref (X 8), .ref a0]) (n := 7) (Nat.le_of_ble_eq_true rfl)
  rw [lg_entry_eq]
  generalize (lg_sl ([.ref (X 8), .ref a0]) ++ List.replicate (7 - (lg_sl ([.ref (X 8), .ref a0])).length) Slot.unset).toArray = ls at hl ⊢
  have hl : lv_has ls 7 [(0, .ref (X 8)), (1, .ref a0)] := hl
  have END : ∀ (r : Int32) (w9_0 : Nat → Int32) (w9_1 : Int32) (w9_2 : Int32), TT = (r, w9_0, w9_1, w9_2) → (r = 0 ∨ r = 1) → ∀ (H : Heap) (locs : List Loc), va_P D vwCl ((wW_k_X3_listHeads ty X w9_1 kn on cu pu gw b_1 b_2 w9_2 b_p su w9_0) ++ pw ty pp) H → va_D A ((wW_k_X3_listHeads ty X w9_1 kn on cu pu gw b_1 b_2 w9_2 b_p su w9_0) ++ pw ty pp) → va_S A s.heap H locs → ∀ (ls : Array Slot) (pc : Nat), decode cX3_listHeads pc = .ok (.ireturn, 1) → W p l e (headSpec vs_k_X3_listHeads { frames := 2, cells := 0, slots := 0, locals := 45 }).room s m ([.ref (X 8), .ref a0] : List Value).toArray below meth c H locs 0 0 (MQ below (va_Qi (fun (r : Int32) (u : va_W) => (r = TT.1 ∧ (TT.1 = 0 ∨ TT.1 = 1) ∧ (u = ((wW_k_X3_listHeads ty X TT.2.2.1 kn on cu pu gw b_1 b_2 TT.2.2.2 b_p su TT.2.1) ++ pw ty pp)))) (wq_B D A) A) ([.ref (X 8), .ref a0] : List Value).toArray s 0 0 A) (F0 m pc ls [.int r]) := by
    intro r w9_0 w9_1 w9_2 hT hb01 H locs hP hD hS ls pc hd
    have hM : TT = (r, w9_0, w9_1, w9_2) := hT
    exact W.zret (v := r) hx hb hr (wz_nar hb01) (fun t ht hW => ⟨⟨r, ((wW_k_X3_listHeads ty X w9_1 kn on cu pu gw b_1 b_2 w9_2 b_p su w9_0) ++ pw ty pp), rfl, ⟨(by rw [hM]), (by rw [hM]; exact hb01), (by rw [hM])⟩, wq_B.of ht hP hD⟩, hS.F ht⟩) hS.2.2 hd
  have hT := hTT
  rw [m_k_X3_listHeads] at hT
  refine lv_aload_n hx hb dX3_listHeads_0 rfl (lv_at hl 0 rfl) ?_
  refine lv_iconst (v := 0) hx hb dX3_listHeads_1 (by decide) ?_
  refine va_put (D := D) (ci := 5) (v := .int 0) (ty := tyX3 5) (C := RX3) (T := TX3) (N := 16) hx hb hts iv_k_X3_listHeads_X3 tyX3 tyX3_ok nmX3 hown hK hP hD hS 0 rfl rfl 5 (by decide) (hts (.fieldLink RX3 196 "AnswerFold$Grounding" "headCount" "I") (by decide +kernel)) (fun _ h9 => h9) rfl (by decide +kernel) rfl rfl (Nat.le_of_ble_eq_true rfl) dX3_listHeads_2 (fun H locs hP hD hS => ?_)
  have hP : va_P D vwCl ((wW_k_X3_listHeads ty X (0) kn on cu pu gw b_1 b_2 b_3 b_p su hds) ++ pw ty pp) H := hP
  have hD : va_D A ((wW_k_X3_listHeads ty X (0) kn on cu pu gw b_1 b_2 b_3 b_p su hds) ++ pw ty pp) := hD
  refine lv_aload_n hx hb dX3_listHeads_5 rfl (lv_at hl 1 rfl) ?_
  obtain ⟨t_6, ht_6⟩ : ∃ t, t = m_k_X8_hasSpan pp a0 := ⟨_, rfl⟩
  rw [lE_eq ht_6] at hT
  obtain ⟨k_1, hk_1⟩ := List.getElem?_of_mem (pw_rule (ty := ty) (p := pp) (L := [((X 8), .inr (5, [.ref (X 1), .ref (X 9), .ref (X 10), .ref (X 12), .ref (X 14), .int 0, .ref (X 15), .ref (X 16), .ref (X 17), .int kn, .ref (X 18), .ref (X 19), .int on, .int cu, .int pu, .int gw])), ((X 9), .inr (4, [.int b_1, .int b_2, .int b_3, .int b_p])), ((X 10), .inr (3, [.ref (X 11)])), ((X 11), .inl (ty 1, 6, .inr (.inl su))), ((X 14), .inl (ty 0, 16, .inl hds))]) hm_a0)
  refine wq_iPW (wc := []) (pl := pw ty pp) (ux := []) (va_runV (As := []) (rest := []) ⟨hx, hb, hml, hown, hts⟩ (k_X8_hasSpan l D ty td mi H.size pp a0 hok hm_a0 t_6 ht_6) (cwV 0 hts gv_k_X3_listHeads_0 rfl rfl rfl (by decide +kernel) ⟨(Nat.le_of_ble_eq_true rfl), (Nat.le_of_ble_eq_true rfl)⟩) (wm_V (wm_preSP hP hD hK hE hS hA [] rfl) (va_recv (q0 := k_1) (ci := 10) hK hP rfl hk_1)) rfl rfl hl.1 rfl (lv_room (Nat.le_of_ble_eq_true rfl)) dX3_listHeads_6 ⟨(Nat.le_of_ble_eq_true rfl), (Nat.le_of_ble_eq_true rfl)⟩) hS hA hP hD [] rfl rfl (fun _ _ h => h.2.2) (fun r H locs hw hP hD hS => ?_)
  obtain ⟨hr0, c_4, -⟩ := hw
  subst r
  have hP : va_P D vwCl ((wW_k_X3_listHeads ty X (0) kn on cu pu gw b_1 b_2 b_3 b_p su hds) ++ pw ty pp) H := hP
  have hD : va_D A ((wW_k_X3_listHeads ty X (0) kn on cu pu gw b_1 b_2 b_3 b_p su hds) ++ pw ty pp) := hD
  refine W.widen (k := 0) (n := 0) (Nat.le_of_ble_eq_true rfl) (Nat.le_of_ble_eq_true rfl) ?_
  refine lv_istore_n (lv' := [(2, .int t_6), (0, .ref (X 8)), (1, .ref a0)]) hx hb dX3_listHeads_9 rfl hl (by decide) rfl (fun ls hl => ?_)
  refine lv_iload_n hx hb dX3_listHeads_10 rfl (lv_at hl 0 rfl) ?_
  have J_20 : ∀ (s0_20 : Int32), TT = m_k_X3_listHeads_20 pp b_1 b_2 b_3 b_p su hds a0 t_6 s0_20 → ∀ (H : Heap) (locs : List Loc), va_P D vwCl ((wW_k_X3_listHeads ty X (0) kn on cu pu gw b_1 b_2 b_3 b_p su hds) ++ pw ty pp) H → va_D A ((wW_k_X3_listHeads ty X (0) kn on cu pu gw b_1 b_2 b_3 b_p su hds) ++ pw ty pp) → va_S A s.heap H locs → ∀ ls : Array Slot, lv_has ls 7 [(0, .ref (X 8)), (1, .ref a0), (2, .int t_6)] → W p l e (headSpec vs_k_X3_listHeads { frames := 2, cells := 0, slots := 0, locals := 45 }).room s m ([.ref (X 8), .ref a0] : List Value).toArray below meth c H locs 0 0 (MQ below (va_Qi (fun (r : Int32) (u : va_W) => (r = TT.1 ∧ (TT.1 = 0 ∨ TT.1 = 1) ∧ (u = ((wW_k_X3_listHeads ty X TT.2.2.1 kn on cu pu gw b_1 b_2 TT.2.2.2 b_p su TT.2.1) ++ pw ty pp)))) (wq_B D A) A) ([.ref (X 8), .ref a0] : List Value).toArray s 0 0 A) (F0 m 20 ls [.int s0_20]) := by
    intro s0_20 hT  H locs hP hD hS ls hl
    rw [m_k_X3_listHeads_20] at hT
    refine lv_istore_n (lv' := [(3, .int s0_20), (0, .ref (X 8)), (1, .ref a0), (2, .int t_6)]) hx hb dX3_listHeads_20 rfl hl (by decide) rfl (fun ls hl => ?_)
    refine lv_iconst (v := 0) hx hb dX3_listHeads_21 (by decide) ?_
    refine lv_istore (lv' := [(4, .int 0), (3, .int s0_20), (0, .ref (X 8)), (1, .ref a0), (2, .int t_6)]) hx hb dX3_listHeads_22 hl (by decide) rfl (fun ls hl => ?_)
    have L_24 : ∀ (n_24 : Nat) (v4_24 : Int32) (x14_f_24 : Nat → Int32) (x8_5_24 : Int32) (x9_2_24 : Int32), (2147483648 - v4_24.toInt).toNat < n_24 → TT = m_k_X3_listHeads_24 pp b_1 b_2 b_p su a0 s0_20 t_6 n_24 v4_24 x14_f_24 x8_5_24 x9_2_24 → 0 ≤ v4_24.toInt → ∀ (H : Heap) (locs : List Loc), va_P D vwCl ((wW_k_X3_listHeads ty X x8_5_24 kn on cu pu gw b_1 b_2 x9_2_24 b_p su x14_f_24) ++ pw ty pp) H → va_D A ((wW_k_X3_listHeads ty X x8_5_24 kn on cu pu gw b_1 b_2 x9_2_24 b_p su x14_f_24) ++ pw ty pp) → va_S A s.heap H locs → ∀ ls : Array Slot, lv_has ls 7 [(0, .ref (X 8)), (1, .ref a0), (2, .int t_6), (3, .int s0_20), (4, .int v4_24)] → W p l e (headSpec vs_k_X3_listHeads { frames := 2, cells := 0, slots := 0, locals := 45 }).room s m ([.ref (X 8), .ref a0] : List Value).toArray below meth c H locs 0 0 (MQ below (va_Qi (fun (r : Int32) (u : va_W) => (r = TT.1 ∧ (TT.1 = 0 ∨ TT.1 = 1) ∧ (u = ((wW_k_X3_listHeads ty X TT.2.2.1 kn on cu pu gw b_1 b_2 TT.2.2.2 b_p su TT.2.1) ++ pw ty pp)))) (wq_B D A) A) ([.ref (X 8), .ref a0] : List Value).toArray s 0 0 A) (F0 m 24 ls []) := by
      intro n_24
      induction n_24 with
      | zero => intro v4_24 x14_f_24 x8_5_24 x9_2_24 hu; exact absurd hu (Nat.not_lt_zero _)
      | succ n_24 ih_24 =>
        intro v4_24 x14_f_24 x8_5_24 x9_2_24 hu_24 hT hn_24 H locs hP hD hS ls hl
        rw [m_k_X3_listHeads_24_succ, m_k_X3_listHeads_24s] at hT
        refine lv_iload hx hb dX3_listHeads_24 (lv_at hl 4 rfl) ?_
        refine lv_iload_n hx hb dX3_listHeads_26 rfl (lv_at hl 3 rfl) ?_
        refine lv_icmp_ge (tgt := 134) hx hb dX3_listHeads_27 (by decide) (fun c_5 => ?_) (fun c_5 => ?_)
        · rw [if_pos c_5] at hT
          refine lv_iconst (v := 1) hx hb dX3_listHeads_134 (by decide) ?_
          exact END 1 x14_f_24 x8_5_24 x9_2_24 hT (by decide) _ _ hP hD hS _ _ dX3_listHeads_135
        · rw [if_neg c_5] at hT
          refine lv_iload_n hx hb dX3_listHeads_30 rfl (lv_at hl 2 rfl) ?_
          have J_128 : ∀ (x14_f_128 : Nat → Int32) (x8_5_128 : Int32) (x9_2_128 : Int32), TT = m_k_X3_listHeads_128 (m_k_X3_listHeads_24 pp b_1 b_2 b_p su a0 s0_20 t_6 n_24) v4_24 x14_f_128 x8_5_128 x9_2_128 → ∀ (H : Heap) (locs : List Loc), va_P D vwCl ((wW_k_X3_listHeads ty X x8_5_128 kn on cu pu gw b_1 b_2 x9_2_128 b_p su x14_f_128) ++ pw ty pp) H → va_D A ((wW_k_X3_listHeads ty X x8_5_128 kn on cu pu gw b_1 b_2 x9_2_128 b_p su x14_f_128) ++ pw ty pp) → va_S A s.heap H locs → ∀ ls : Array Slot, lv_has ls 7 [(0, .ref (X 8)), (1, .ref a0), (2, .int t_6), (3, .int s0_20), (4, .int v4_24)] → W p l e (headSpec vs_k_X3_listHeads { frames := 2, cells := 0, slots := 0, locals := 45 }).room s m ([.ref (X 8), .ref a0] : List Value).toArray below meth c H locs 0 0 (MQ below (va_Qi (fun (r : Int32) (u : va_W) => (r = TT.1 ∧ (TT.1 = 0 ∨ TT.1 = 1) ∧ (u = ((wW_k_X3_listHeads ty X TT.2.2.1 kn on cu pu gw b_1 b_2 TT.2.2.2 b_p su TT.2.1) ++ pw ty pp)))) (wq_B D A) A) ([.ref (X 8), .ref a0] : List Value).toArray s 0 0 A) (F0 m 128 ls []) := by
            intro x14_f_128 x8_5_128 x9_2_128 hT  H locs hP hD hS ls hl
            rw [m_k_X3_listHeads_128] at hT
            refine lv_iinc (v := v4_24 + 1) (lv' := [(4, .int (v4_24 + 1)), (0, .ref (X 8)), (1, .ref a0), (2, .int t_6), (3, .int s0_20)]) hx hb dX3_listHeads_128 hl (k := 4) rfl (by rfl) (by decide) rfl (fun ls hl => ?_)
            refine lv_goto (tgt := 24) hx hb dX3_listHeads_131 (by decide) ?_
            exact ih_24 (v4_24 + 1) x14_f_128 x8_5_128 x9_2_128 (wi_up hu_24 (Int32.not_le.mp c_5)) hT (wi_inc hn_24 (Int32.not_le.mp c_5)) _ _ hP hD hS _ (lv_sub hl [1, 2, 3, 4, 0] rfl)
          have J_69 : ∀ (x9_2_69 : Int32), TT = m_k_X3_listHeads_69 pp b_1 b_2 b_p a0 (m_k_X3_listHeads_24 pp b_1 b_2 b_p su a0 s0_20 t_6 n_24) v4_24 x14_f_24 x8_5_24 x9_2_69 → ∀ (H : Heap) (locs : List Loc), va_P D vwCl ((wW_k_X3_listHeads ty X x8_5_24 kn on cu pu gw b_1 b_2 x9_2_69 b_p su x14_f_24) ++ pw ty pp) H → va_D A ((wW_k_X3_listHeads ty X x8_5_24 kn on cu pu gw b_1 b_2 x9_2_69 b_p su x14_f_24) ++ pw ty pp) → va_S A s.heap H locs → ∀ ls : Array Slot, lv_has ls 7 [(0, .ref (X 8)), (1, .ref a0), (2, .int t_6), (3, .int s0_20), (4, .int v4_24)] → W p l e (headSpec vs_k_X3_listHeads { frames := 2, cells := 0, slots := 0, locals := 45 }).room s m ([.ref (X 8), .ref a0] : List Value).toArray below meth c H locs 0 0 (MQ below (va_Qi (fun (r : Int32) (u : va_W) => (r = TT.1 ∧ (TT.1 = 0 ∨ TT.1 = 1) ∧ (u = ((wW_k_X3_listHeads ty X TT.2.2.1 kn on cu pu gw b_1 b_2 TT.2.2.2 b_p su TT.2.1) ++ pw ty pp)))) (wq_B D A) A) ([.ref (X 8), .ref a0] : List Value).toArray s 0 0 A) (F0 m 69 ls []) := by
            intro x9_2_69 hT  H locs hP hD hS ls hl
            rw [m_k_X3_listHeads_69] at hT
            refine lv_iconst (v := 0) hx hb dX3_listHeads_69 (by decide) ?_
            refine lv_istore (lv' := [(5, .int 0), (0, .ref (X 8)), (1, .ref a0), (2, .int t_6), (3, .int s0_20), (4, .int v4_24)]) hx hb dX3_listHeads_70 hl (by decide) rfl (fun ls hl => ?_)
            have L_72 : ∀ (n_72 : Nat) (v5_72 : Int32) (x14_f_72 : Nat → Int32) (x8_5_72 : Int32), (2147483648 - v5_72.toInt).toNat < n_72 → TT = m_k_X3_listHeads_72 pp b_1 b_2 b_p a0 (m_k_X3_listHeads_24 pp b_1 b_2 b_p su a0 s0_20 t_6 n_24) v4_24 x9_2_69 n_72 v5_72 x14_f_72 x8_5_72 → 0 ≤ v5_72.toInt → ∀ (H : Heap) (locs : List Loc), va_P D vwCl ((wW_k_X3_listHeads ty X x8_5_72 kn on cu pu gw b_1 b_2 x9_2_69 b_p su x14_f_72) ++ pw ty pp) H → va_D A ((wW_k_X3_listHeads ty X x8_5_72 kn on cu pu gw b_1 b_2 x9_2_69 b_p su x14_f_72) ++ pw ty pp) → va_S A s.heap H locs → ∀ ls : Array Slot, lv_has ls 7 [(0, .ref (X 8)), (1, .ref a0), (2, .int t_6), (3, .int s0_20), (4, .int v4_24), (5, .int v5_72)] → W p l e (headSpec vs_k_X3_listHeads { frames := 2, cells := 0, slots := 0, locals := 45 }).room s m ([.ref (X 8), .ref a0] : List Value).toArray below meth c H locs 0 0 (MQ below (va_Qi (fun (r : Int32) (u : va_W) => (r = TT.1 ∧ (TT.1 = 0 ∨ TT.1 = 1) ∧ (u = ((wW_k_X3_listHeads ty X TT.2.2.1 kn on cu pu gw b_1 b_2 TT.2.2.2 b_p su TT.2.1) ++ pw ty pp)))) (wq_B D A) A) ([.ref (X 8), .ref a0] : List Value).toArray s 0 0 A) (F0 m 72 ls []) := by
              intro n_72
              induction n_72 with
              | zero => intro v5_72 x14_f_72 x8_5_72 hu; exact absurd hu (Nat.not_lt_zero _)
              | succ n_72 ih_72 =>
                intro v5_72 x14_f_72 x8_5_72 hu_72 hT hn_72 H locs hP hD hS ls hl
                rw [m_k_X3_listHeads_72_succ, m_k_X3_listHeads_72s] at hT
                refine lv_iload hx hb dX3_listHeads_72 (lv_at hl 5 rfl) ?_
                refine lv_aload_n hx hb dX3_listHeads_74 rfl (lv_at hl 1 rfl) ?_
                obtain ⟨k_6, hk_6⟩ := List.getElem?_of_mem (pw_rule (ty := ty) (p := pp) (L := [((X 8), .inr (5, [.ref (X 1), .ref (X 9), .ref (X 10), .ref (X 12), .ref (X 14), .int x8_5_72, .ref (X 15), .ref (X 16), .ref (X 17), .int kn, .ref (X 18), .ref (X 19), .int on, .int cu, .int pu, .int gw])), ((X 9), .inr (4, [.int b_1, .int b_2, .int x9_2_69, .int b_p])), ((X 10), .inr (3, [.ref (X 11)])), ((X 11), .inl (ty 1, 6, .inr (.inl su))), ((X 14), .inl (ty 0, 16, .inl x14_f_72))]) hm_a0)
                refine va_getN (D := D) (ci := 10) (v := .int (pI pp a0 8)) (C := RX8) (T := TX8) (N := 11) hx hb hts iv_k_X3_listHeads_X8 hown hK hP k_6 hk_6 rfl 8 (by decide) (hE.at (.fieldLinkNest "AnswerFold$Grounding" 208 "AnswerFold$Rule" "headCount" "I" "AnswerFold") (by decide +kernel)) (fun _ h9 => h9) rfl dX3_listHeads_75 ?_
                refine lv_icmp_ge (tgt := 128) hx hb dX3_listHeads_78 (by decide) (fun c_7 => ?_) (fun c_7 => ?_)
                · rw [if_pos c_7] at hT
                  exact J_128 x14_f_72 x8_5_72 x9_2_69 hT _ _ hP hD hS _ (lv_sub hl [0, 1, 2, 3, 4] rfl)
                · rw [if_neg c_7] at hT
                  refine lv_aload_n hx hb dX3_listHeads_81 rfl (lv_at hl 0 rfl) ?_
                  refine va_get (D := D) (ci := 5) (v := .ref (X 9)) (C := RX3) (T := TX3) (N := 16) hx hb hts iv_k_X3_listHeads_X3 hown hK hP 0 rfl rfl 1 (by decide) (hts (.fieldLink RX3 12 "AnswerFold$Grounding" "binding" "LAnswerFold$Binding;") (by decide +kernel)) (fun _ h9 => h9) rfl dX3_listHeads_82 ?_
                  refine lv_aload_n hx hb dX3_listHeads_85 rfl (lv_at hl 1 rfl) ?_
                  refine lv_iload hx hb dX3_listHeads_86 (lv_at hl 5 rfl) ?_
                  obtain ⟨t_88, ht_88⟩ : ∃ t, t = m_k_X8_headAt pp a0 v5_72 := ⟨_, rfl⟩
                  rw [lE_eq ht_88] at hT
                  obtain ⟨k_8, hk_8⟩ := List.getElem?_of_mem (pw_rule (ty := ty) (p := pp) (L := [((X 8), .inr (5, [.ref (X 1), .ref (X 9), .ref (X 10), .ref (X 12), .ref (X 14), .int x8_5_72, .ref (X 15), .ref (X 16), .ref (X 17), .int kn, .ref (X 18), .ref (X 19), .int on, .int cu, .int pu, .int gw])), ((X 9), .inr (4, [.int b_1, .int b_2, .int x9_2_69, .int b_p])), ((X 10), .inr (3, [.ref (X 11)])), ((X 11), .inl (ty 1, 6, .inr (.inl su))), ((X 14), .inl (ty 0, 16, .inl x14_f_72))]) hm_a0)
                  refine wq_rPW (wc := []) (pl := pw ty pp) (ux := []) (va_runV (As := [.int v5_72]) (rest := [.ref (X 9)]) ⟨hx, hb, hml, hown, hts⟩ (k_X8_headAt l D ty td mi H.size pp a0 v5_72 hok hm_a0 t_88 ht_88) (cwV 1 hts gv_k_X3_listHeads_1 rfl rfl rfl (by decide +kernel) ⟨(Nat.le_of_ble_eq_true rfl), (Nat.le_of_ble_eq_true rfl)⟩) (wm_V (wm_preSP hP hD hK hE hS hA [] rfl) (va_recv (q0 := k_8) (ci := 10) hK hP rfl hk_8)) rfl rfl hl.1 rfl (lv_room (Nat.le_of_ble_eq_true rfl)) dX3_listHeads_88 ⟨(Nat.le_of_ble_eq_true rfl), (Nat.le_of_ble_eq_true rfl)⟩) hS hA hP hD [] rfl rfl (fun _ _ h => h.2) (fun r H locs hw hP hD hS => ?_)
                  obtain ⟨rfl, -⟩ := hw
                  have hP : va_P D vwCl ((wW_k_X3_listHeads ty X x8_5_72 kn on cu pu gw b_1 b_2 x9_2_69 b_p su x14_f_72) ++ pw ty pp) H := hP
                  have hD : va_D A ((wW_k_X3_listHeads ty X x8_5_72 kn on cu pu gw b_1 b_2 x9_2_69 b_p su x14_f_72) ++ pw ty pp) := hD
                  refine W.widen (k := 0) (n := 0) (Nat.le_of_ble_eq_true rfl) (Nat.le_of_ble_eq_true rfl) ?_
                  rcases ho_88 : t_88 with _ | o_88
                  · rw [ho_88, oE_none] at hT
                    refine W.eq (g2 := F0 m 91 ls [.null, .ref (X 9)]) rfl ?_
                    obtain ⟨t_91, ht_91⟩ : ∃ t, t = m_k_X2_atomOf_z := ⟨_, rfl⟩
                    rw [lE_eq ht_91] at hT
                    refine wq_iQW (wc := []) (pl := pw ty pp) (va_runV (As := [.null]) (rest := []) ⟨hx, hb, hml, hown, hts⟩ (k_X2_atomOf_z l D ty td mi H.size X t_91 ht_91) (cwV 1 hts gv_k_X3_listHeads_2 rfl rfl rfl (by decide +kernel) ⟨(Nat.le_of_ble_eq_true rfl), (Nat.le_of_ble_eq_true rfl)⟩) (wm_V (wm_preS (vP_left hP) (vD_left hD) hK hE hS hA [] rfl) (va_recv (q0 := 1) (ci := 4) hK hP rfl rfl)) rfl rfl hl.1 rfl (lv_room (Nat.le_of_ble_eq_true rfl)) dX3_listHeads_91 ⟨(Nat.le_of_ble_eq_true rfl), (Nat.le_of_ble_eq_true rfl)⟩) hS hA hP hD [] rfl (fun _ _ h => by rcases h with ⟨-, rfl⟩; rfl) (fun r u H locs hw hP hD hS => ?_)
                    obtain ⟨hr0, rfl⟩ := hw
                    subst r
                    have hP : va_P D vwCl ((wW_k_X3_listHeads ty X x8_5_72 kn on cu pu gw b_1 b_2 x9_2_69 b_p su x14_f_72) ++ pw ty pp) H := hP
                    have hD : va_D A ((wW_k_X3_listHeads ty X x8_5_72 kn on cu pu gw b_1 b_2 x9_2_69 b_p su x14_f_72) ++ pw ty pp) := hD
                    refine W.widen (k := 0) (n := 0) (Nat.le_of_ble_eq_true rfl) (Nat.le_of_ble_eq_true rfl) ?_
                    refine lv_istore (lv' := [(6, .int t_91), (0, .ref (X 8)), (1, .ref a0), (2, .int t_6), (3, .int s0_20), (4, .int v4_24), (5, .int v5_72)]) hx hb dX3_listHeads_94 hl (by decide) rfl (fun ls hl => ?_)
                    refine lv_iload hx hb dX3_listHeads_96 (lv_at hl 0 rfl) ?_
                    refine lv_iconst (v := (-1)) hx hb dX3_listHeads_98 (by decide) ?_
                    have J_122 : ∀ (x14_f_122 : Nat → Int32) (x8_5_122 : Int32), TT = m_k_X3_listHeads_122 (m_k_X3_listHeads_72 pp b_1 b_2 b_p a0 (m_k_X3_listHeads_24 pp b_1 b_2 b_p su a0 s0_20 t_6 n_24) v4_24 x9_2_69 n_72) v5_72 x14_f_122 x8_5_122 → ∀ (H : Heap) (locs : List Loc), va_P D vwCl ((wW_k_X3_listHeads ty X x8_5_122 kn on cu pu gw b_1 b_2 x9_2_69 b_p su x14_f_122) ++ pw ty pp) H → va_D A ((wW_k_X3_listHeads ty X x8_5_122 kn on cu pu gw b_1 b_2 x9_2_69 b_p su x14_f_122) ++ pw ty pp) → va_S A s.heap H locs → ∀ ls : Array Slot, lv_has ls 7 [(0, .ref (X 8)), (1, .ref a0), (2, .int t_6), (3, .int s0_20), (4, .int v4_24), (5, .int v5_72)] → W p l e (headSpec vs_k_X3_listHeads { frames := 2, cells := 0, slots := 0, locals := 45 }).room s m ([.ref (X 8), .ref a0] : List Value).toArray below meth c H locs 0 0 (MQ below (va_Qi (fun (r : Int32) (u : va_W) => (r = TT.1 ∧ (TT.1 = 0 ∨ TT.1 = 1) ∧ (u = ((wW_k_X3_listHeads ty X TT.2.2.1 kn on cu pu gw b_1 b_2 TT.2.2.2 b_p su TT.2.1) ++ pw ty pp)))) (wq_B D A) A) ([.ref (X 8), .ref a0] : List Value).toArray s 0 0 A) (F0 m 122 ls []) := by
                      intro x14_f_122 x8_5_122 hT  H locs hP hD hS ls hl
                      rw [m_k_X3_listHeads_122] at hT
                      refine lv_iinc (v := v5_72 + 1) (lv' := [(5, .int (v5_72 + 1)), (0, .ref (X 8)), (1, .ref a0), (2, .int t_6), (3, .int s0_20), (4, .int v4_24)]) hx hb dX3_listHeads_122 hl (k := 5) rfl (by rfl) (by decide) rfl (fun ls hl => ?_)
                      refine lv_goto (tgt := 72) hx hb dX3_listHeads_125 (by decide) ?_
                      exact ih_72 (v5_72 + 1) x14_f_122 x8_5_122 (wi_up hu_72 (Int32.not_le.mp c_7)) hT (wi_inc hn_72 (Int32.not_le.mp c_7)) _ _ hP hD hS _ (lv_sub hl [1, 2, 3, 4, 5, 0] rfl)
                    refine lv_icmp_eq (tgt := 111) hx hb dX3_listHeads_99 (by decide) (fun c_13 => ?_) (fun c_13 => ?_)
                    · rw [if_pos c_13] at hT
                      refine lv_aload_n hx hb dX3_listHeads_111 rfl (lv_at hl 2 rfl) ?_
                      obtain ⟨k_14, hk_14⟩ := List.getElem?_of_mem (pw_rule (ty := ty) (p := pp) (L := [((X 8), .inr (5, [.ref (X 1), .ref (X 9), .ref (X 10), .ref (X 12), .ref (X 14), .int x8_5_72, .ref (X 15), .ref (X 16), .ref (X 17), .int kn, .ref (X 18), .ref (X 19), .int on, .int cu, .int pu, .int gw])), ((X 9), .inr (4, [.int b_1, .int b_2, .int x9_2_69, .int b_p])), ((X 10), .inr (3, [.ref (X 11)])), ((X 11), .inl (ty 1, 6, .inr (.inl su))), ((X 14), .inl (ty 0, 16, .inl x14_f_72))]) hm_a0)
                      refine va_getN (D := D) (ci := 10) (v := .int (pI pp a0 0)) (C := RX8) (T := TX8) (N := 11) hx hb hts iv_k_X3_listHeads_X8 hown hK hP k_14 hk_14 rfl 0 (by decide) (hE.at (.fieldLinkNest "AnswerFold$Grounding" 120 "AnswerFold$Rule" "kind" "C" "AnswerFold") (by decide +kernel)) (fun _ h9 => h9) rfl dX3_listHeads_112 ?_
                      refine lv_bipush (v := 100) hx hb dX3_listHeads_115 (by decide) ?_
                      refine lv_icmp_ne (tgt := 122) hx hb dX3_listHeads_117 (by decide) (fun c_15 => ?_) (fun c_15 => ?_)
                      · rw [if_neg c_15] at hT
                        exact J_122 x14_f_72 x8_5_72 hT _ _ hP hD hS _ (lv_sub hl [1, 2, 3, 4, 5, 6] rfl)
                      · rw [if_pos c_15] at hT
                        refine lv_iconst (v := 0) hx hb dX3_listHeads_120 (by decide) ?_
                        exact END 0 x14_f_72 x8_5_72 x9_2_69 hT (by decide) _ _ hP hD hS _ _ dX3_listHeads_121
                    · rw [if_neg c_13] at hT
                      refine lv_aload_n hx hb dX3_listHeads_102 rfl (lv_at hl 1 rfl) ?_
                      refine lv_iload hx hb dX3_listHeads_103 (lv_at hl 0 rfl) ?_
                      obtain ⟨t_105, ht_105⟩ : ∃ t, t = m_k_X3_listHead x8_5_72 x14_f_72 t_91 := ⟨_, rfl⟩
                      rw [lE_eq ht_105] at hT
                      refine wq_vQW (wc := (wW_k_X3_listHead ty X x8_5_72 kn on cu pu gw x14_f_72)) (pl := pw ty pp) (va_runV (As := [.int t_91]) (rest := []) ⟨hx, hb, hml, hown, hts⟩ (k_X3_listHead l D ty td mi H.size X x8_5_72 kn on cu pu gw x14_f_72 t_91 t_105 ht_105) (cwV 1 hts gv_k_X3_listHeads_3 rfl rfl rfl (by decide +kernel) ⟨(Nat.le_of_ble_eq_true rfl), (Nat.le_of_ble_eq_true rfl)⟩) (wm_V (wm_preS (vP_left hP) (vD_left hD) hK hE hS hA [true, false, false, false, true] rfl) (va_recv (q0 := 0) (ci := 5) hK hP rfl rfl)) rfl rfl hl.1 rfl (lv_room (Nat.le_of_ble_eq_true rfl)) dX3_listHeads_105 ⟨(Nat.le_of_ble_eq_true rfl), (Nat.le_of_ble_eq_true rfl)⟩) hS hA hP hD [true, false, false, false, true] rfl (fun _ h => by rcases h with rfl; rfl) (fun u H locs hw hP hD hS => ?_)
                      obtain rfl := hw
                      have hP : va_P D vwCl ((wW_k_X3_listHeads ty X t_105.2 kn on cu pu gw b_1 b_2 x9_2_69 b_p su t_105.1) ++ pw ty pp) H := hP
                      have hD : va_D A ((wW_k_X3_listHeads ty X t_105.2 kn on cu pu gw b_1 b_2 x9_2_69 b_p su t_105.1) ++ pw ty pp) := hD
                      refine W.widen (k := 0) (n := 0) (Nat.le_of_ble_eq_true rfl) (Nat.le_of_ble_eq_true rfl) ?_
                      refine lv_goto (tgt := 122) hx hb dX3_listHeads_108 (by decide) ?_
                      exact J_122 t_105.1 t_105.2 hT _ _ hP hD hS _ (lv_sub hl [1, 2, 3, 4, 5, 6] rfl)
                  · rw [ho_88, oE_some] at hT
                    refine W.eq (g2 := F0 m 91 ls [.ref o_88, .ref (X 9)]) rfl ?_
                    obtain ⟨t_91, ht_91⟩ : ∃ t, t = m_k_X2_atomOf pp b_1 b_2 x9_2_69 b_p o_88 := ⟨_, rfl⟩
                    rw [lE_eq ht_91] at hT
                    refine wq_iPW (wc := (wW_k_X2_atomOf ty X b_1 b_2 x9_2_69 b_p)) (pl := pw ty pp) (ux := (wW_k_X2_atomOf ty X b_1 b_2 x9_2_69 b_p)) (va_runV (As := [.ref o_88]) (rest := []) ⟨hx, hb, hml, hown, hts⟩ (k_X2_atomOf l D ty td mi H.size pp X b_1 b_2 x9_2_69 b_p o_88 hok (mm_k_X8_headAt pp a0 v5_72 hok hm_a0 _ (by rw [← ht_88]; exact ho_88)) t_91 ht_91) (cwV 1 hts gv_k_X3_listHeads_4 rfl rfl rfl (by decide +kernel) ⟨(Nat.le_of_ble_eq_true rfl), (Nat.le_of_ble_eq_true rfl)⟩) (wm_V (wm_preSP hP hD hK hE hS hA [false, true] rfl) (va_recv (q0 := 1) (ci := 4) hK hP rfl rfl)) rfl rfl hl.1 rfl (lv_room (Nat.le_of_ble_eq_true rfl)) dX3_listHeads_91 ⟨(Nat.le_of_ble_eq_true rfl), (Nat.le_of_ble_eq_true rfl)⟩) hS hA hP hD [false, true] rfl rfl (fun _ _ h => h.2) (fun r H locs hw hP hD hS => ?_)
                    obtain ⟨hr0, -⟩ := hw
                    subst r
                    have hP : va_P D vwCl ((wW_k_X3_listHeads ty X x8_5_72 kn on cu pu gw b_1 b_2 x9_2_69 b_p su x14_f_72) ++ pw ty pp) H := hP
                    have hD : va_D A ((wW_k_X3_listHeads ty X x8_5_72 kn on cu pu gw b_1 b_2 x9_2_69 b_p su x14_f_72) ++ pw ty pp) := hD
                    refine W.widen (k := 0) (n := 0) (Nat.le_of_ble_eq_true rfl) (Nat.le_of_ble_eq_true rfl) ?_
                    refine lv_istore (lv' := [(6, .int t_91), (0, .ref (X 8)), (1, .ref a0), (2, .int t_6), (3, .int s0_20), (4, .int v4_24), (5, .int v5_72)]) hx hb dX3_listHeads_94 hl (by decide) rfl (fun ls hl => ?_)
                    refine lv_iload hx hb dX3_listHeads_96 (lv_at hl 0 rfl) ?_
                    refine lv_iconst (v := (-1)) hx hb dX3_listHeads_98 (by decide) ?_
                    have J_122 : ∀ (x14_f_122 : Nat → Int32) (x8_5_122 : Int32), TT = m_k_X3_listHeads_122 (m_k_X3_listHeads_72 pp b_1 b_2 b_p a0 (m_k_X3_listHeads_24 pp b_1 b_2 b_p su a0 s0_20 t_6 n_24) v4_24 x9_2_69 n_72) v5_72 x14_f_122 x8_5_122 → ∀ (H : Heap) (locs : List Loc), va_P D vwCl ((wW_k_X3_listHeads ty X x8_5_122 kn on cu pu gw b_1 b_2 x9_2_69 b_p su x14_f_122) ++ pw ty pp) H → va_D A ((wW_k_X3_listHeads ty X x8_5_122 kn on cu pu gw b_1 b_2 x9_2_69 b_p su x14_f_122) ++ pw ty pp) → va_S A s.heap H locs → ∀ ls : Array Slot, lv_has ls 7 [(0, .ref (X 8)), (1, .ref a0), (2, .int t_6), (3, .int s0_20), (4, .int v4_24), (5, .int v5_72)] → W p l e (headSpec vs_k_X3_listHeads { frames := 2, cells := 0, slots := 0, locals := 45 }).room s m ([.ref (X 8), .ref a0] : List Value).toArray below meth c H locs 0 0 (MQ below (va_Qi (fun (r : Int32) (u : va_W) => (r = TT.1 ∧ (TT.1 = 0 ∨ TT.1 = 1) ∧ (u = ((wW_k_X3_listHeads ty X TT.2.2.1 kn on cu pu gw b_1 b_2 TT.2.2.2 b_p su TT.2.1) ++ pw ty pp)))) (wq_B D A) A) ([.ref (X 8), .ref a0] : List Value).toArray s 0 0 A) (F0 m 122 ls []) := by
                      intro x14_f_122 x8_5_122 hT  H locs hP hD hS ls hl
                      rw [m_k_X3_listHeads_122] at hT
                      refine lv_iinc (v := v5_72 + 1) (lv' := [(5, .int (v5_72 + 1)), (0, .ref (X 8)), (1, .ref a0), (2, .int t_6), (3, .int s0_20), (4, .int v4_24)]) hx hb dX3_listHeads_122 hl (k := 5) rfl (by rfl) (by decide) rfl (fun ls hl => ?_)
                      refine lv_goto (tgt := 72) hx hb dX3_listHeads_125 (by decide) ?_
                      exact ih_72 (v5_72 + 1) x14_f_122 x8_5_122 (wi_up hu_72 (Int32.not_le.mp c_7)) hT (wi_inc hn_72 (Int32.not_le.mp c_7)) _ _ hP hD hS _ (lv_sub hl [1, 2, 3, 4, 5, 0] rfl)
                    refine lv_icmp_eq (tgt := 111) hx hb dX3_listHeads_99 (by decide) (fun c_20 => ?_) (fun c_20 => ?_)
                    · rw [if_pos c_20] at hT
                      refine lv_aload_n hx hb dX3_listHeads_111 rfl (lv_at hl 2 rfl) ?_
                      obtain ⟨k_21, hk_21⟩ := List.getElem?_of_mem (pw_rule (ty := ty) (p := pp) (L := [((X 8), .inr (5, [.ref (X 1), .ref (X 9), .ref (X 10), .ref (X 12), .ref (X 14), .int x8_5_72, .ref (X 15), .ref (X 16), .ref (X 17), .int kn, .ref (X 18), .ref (X 19), .int on, .int cu, .int pu, .int gw])), ((X 9), .inr (4, [.int b_1, .int b_2, .int x9_2_69, .int b_p])), ((X 10), .inr (3, [.ref (X 11)])), ((X 11), .inl (ty 1, 6, .inr (.inl su))), ((X 14), .inl (ty 0, 16, .inl x14_f_72))]) hm_a0)
                      refine va_getN (D := D) (ci := 10) (v := .int (pI pp a0 0)) (C := RX8) (T := TX8) (N := 11) hx hb hts iv_k_X3_listHeads_X8 hown hK hP k_21 hk_21 rfl 0 (by decide) (hE.at (.fieldLinkNest "AnswerFold$Grounding" 120 "AnswerFold$Rule" "kind" "C" "AnswerFold") (by decide +kernel)) (fun _ h9 => h9) rfl dX3_listHeads_112 ?_
                      refine lv_bipush (v := 100) hx hb dX3_listHeads_115 (by decide) ?_
                      refine lv_icmp_ne (tgt := 122) hx hb dX3_listHeads_117 (by decide) (fun c_22 => ?_) (fun c_22 => ?_)
                      · rw [if_neg c_22] at hT
                        exact J_122 x14_f_72 x8_5_72 hT _ _ hP hD hS _ (lv_sub hl [1, 2, 3, 4, 5, 6] rfl)
                      · rw [if_pos c_22] at hT
                        refine lv_iconst (v := 0) hx hb dX3_listHeads_120 (by decide) ?_
                        exact END 0 x14_f_72 x8_5_72 x9_2_69 hT (by decide) _ _ hP hD hS _ _ dX3_listHeads_121
                    · rw [if_neg c_20] at hT
                      refine lv_aload_n hx hb dX3_listHeads_102 rfl (lv_at hl 1 rfl) ?_
                      refine lv_iload hx hb dX3_listHeads_103 (lv_at hl 0 rfl) ?_
                      obtain ⟨t_105, ht_105⟩ : ∃ t, t = m_k_X3_listHead x8_5_72 x14_f_72 t_91 := ⟨_, rfl⟩
                      rw [lE_eq ht_105] at hT
                      refine wq_vQW (wc := (wW_k_X3_listHead ty X x8_5_72 kn on cu pu gw x14_f_72)) (pl := pw ty pp) (va_runV (As := [.int t_91]) (rest := []) ⟨hx, hb, hml, hown, hts⟩ (k_X3_listHead l D ty td mi H.size X x8_5_72 kn on cu pu gw x14_f_72 t_91 t_105 ht_105) (cwV 1 hts gv_k_X3_listHeads_5 rfl rfl rfl (by decide +kernel) ⟨(Nat.le_of_ble_eq_true rfl), (Nat.le_of_ble_eq_true rfl)⟩) (wm_V (wm_preS (vP_left hP) (vD_left hD) hK hE hS hA [true, false, false, false, true] rfl) (va_recv (q0 := 0) (ci := 5) hK hP rfl rfl)) rfl rfl hl.1 rfl (lv_room (Nat.le_of_ble_eq_true rfl)) dX3_listHeads_105 ⟨(Nat.le_of_ble_eq_true rfl), (Nat.le_of_ble_eq_true rfl)⟩) hS hA hP hD [true, false, false, false, true] rfl (fun _ h => by rcases h with rfl; rfl) (fun u H locs hw hP hD hS => ?_)
                      obtain rfl := hw
                      have hP : va_P D vwCl ((wW_k_X3_listHeads ty X t_105.2 kn on cu pu gw b_1 b_2 x9_2_69 b_p su t_105.1) ++ pw ty pp) H := hP
                      have hD : va_D A ((wW_k_X3_listHeads ty X t_105.2 kn on cu pu gw b_1 b_2 x9_2_69 b_p su t_105.1) ++ pw ty pp) := hD
                      refine W.widen (k := 0) (n := 0) (Nat.le_of_ble_eq_true rfl) (Nat.le_of_ble_eq_true rfl) ?_
                      refine lv_goto (tgt := 122) hx hb dX3_listHeads_108 (by decide) ?_
                      exact J_122 t_105.1 t_105.2 hT _ _ hP hD hS _ (lv_sub hl [1, 2, 3, 4, 5, 6] rfl)
            exact L_72 wF 0 x14_f_24 x8_5_24 (wF_up 0) hT (by decide) _ _ hP hD hS _ (lv_sub hl [1, 2, 3, 4, 5, 0] rfl)
          refine lv_if_eq (tgt := 69) hx hb dX3_listHeads_31 (by decide) (fun c_25 => ?_) (fun c_25 => ?_)
          · rw [if_pos c_25] at hT
            exact J_69 x9_2_24 hT _ _ hP hD hS _ (lv_sub hl [0, 1, 2, 3, 4] rfl)
          · rw [if_neg c_25] at hT
            refine lv_aload_n hx hb dX3_listHeads_34 rfl (lv_at hl 0 rfl) ?_
            refine va_get (D := D) (ci := 5) (v := .ref (X 10)) (C := RX3) (T := TX3) (N := 16) hx hb hts iv_k_X3_listHeads_X3 hown hK hP 0 rfl rfl 2 (by decide) (hts (.fieldLink RX3 21 "AnswerFold$Grounding" "sure" "LAnswerFold$AtomSet;") (by decide +kernel)) (fun _ h9 => h9) rfl dX3_listHeads_35 ?_
            refine lv_aload_n hx hb dX3_listHeads_38 rfl (lv_at hl 1 rfl) ?_
            obtain ⟨k_26, hk_26⟩ := List.getElem?_of_mem (pw_rule (ty := ty) (p := pp) (L := [((X 8), .inr (5, [.ref (X 1), .ref (X 9), .ref (X 10), .ref (X 12), .ref (X 14), .int x8_5_24, .ref (X 15), .ref (X 16), .ref (X 17), .int kn, .ref (X 18), .ref (X 19), .int on, .int cu, .int pu, .int gw])), ((X 9), .inr (4, [.int b_1, .int b_2, .int x9_2_24, .int b_p])), ((X 10), .inr (3, [.ref (X 11)])), ((X 11), .inl (ty 1, 6, .inr (.inl su))), ((X 14), .inl (ty 0, 16, .inl x14_f_24))]) hm_a0)
            refine va_getN (D := D) (ci := 10) (v := .int (pI pp a0 4)) (C := RX8) (T := TX8) (N := 11) hx hb hts iv_k_X3_listHeads_X8 hown hK hP k_26 hk_26 rfl 4 (by decide) (hE.at (.fieldLinkNest "AnswerFold$Grounding" 205 "AnswerFold$Rule" "span" "I" "AnswerFold") (by decide +kernel)) (fun _ h9 => h9) rfl dX3_listHeads_39 ?_
            refine lv_bipush (v := 64) hx hb dX3_listHeads_42 (by decide) ?_
            refine lv_imul hx hb dX3_listHeads_44 ?_
            refine lv_iload hx hb dX3_listHeads_45 (lv_at hl 4 rfl) ?_
            refine lv_bipush (v := 8) hx hb dX3_listHeads_47 (by decide) ?_
            refine lv_imul hx hb dX3_listHeads_49 ?_
            refine lv_iadd hx hb dX3_listHeads_50 ?_
            obtain ⟨t_51, ht_51⟩ : ∃ t, t = m_k_X1_contains su (((pI pp a0 4) * 64) + (v4_24 * 8)) := ⟨_, rfl⟩
            rw [lE_eq ht_51] at hT
            refine wq_iQW (wc := (wW_k_X1_contains ty (X 10) (X 11) su)) (pl := pw ty pp) (va_runV (As := [.int (((pI pp a0 4) * 64) + (v4_24 * 8))]) (rest := []) ⟨hx, hb, hml, hown, hts⟩ (k_X1_contains l D ty td mi H.size (X 10) (X 11) su (((pI pp a0 4) * 64) + (v4_24 * 8)) t_51 ht_51) (cwV 1 hts gv_k_X3_listHeads_6 rfl rfl rfl (by decide +kernel) ⟨(Nat.le_of_ble_eq_true rfl), (Nat.le_of_ble_eq_true rfl)⟩) (wm_V (wm_preS (vP_left hP) (vD_left hD) hK hE hS hA [false, false, true, true] rfl) (va_recv (q0 := 2) (ci := 3) hK hP rfl rfl)) rfl rfl hl.1 rfl (lv_room (Nat.le_of_ble_eq_true rfl)) dX3_listHeads_51 ⟨(Nat.le_of_ble_eq_true rfl), (Nat.le_of_ble_eq_true rfl)⟩) hS hA hP hD [false, false, true, true] rfl (fun _ _ h => by rcases h with ⟨-, -, rfl⟩; rfl) (fun r u H locs hw hP hD hS => ?_)
            obtain ⟨hr0, c_29, rfl⟩ := hw
            subst r
            have hP : va_P D vwCl ((wW_k_X3_listHeads ty X x8_5_24 kn on cu pu gw b_1 b_2 x9_2_24 b_p su x14_f_24) ++ pw ty pp) H := hP
            have hD : va_D A ((wW_k_X3_listHeads ty X x8_5_24 kn on cu pu gw b_1 b_2 x9_2_24 b_p su x14_f_24) ++ pw ty pp) := hD
            refine W.widen (k := 0) (n := 0) (Nat.le_of_ble_eq_true rfl) (Nat.le_of_ble_eq_true rfl) ?_
            refine lv_if_ne (tgt := 60) hx hb dX3_listHeads_54 (by decide) (fun c_30 => ?_) (fun c_30 => ?_)
            · rw [if_neg c_30] at hT
              refine lv_aload_n hx hb dX3_listHeads_60 rfl (lv_at hl 0 rfl) ?_
              refine va_get (D := D) (ci := 5) (v := .ref (X 9)) (C := RX3) (T := TX3) (N := 16) hx hb hts iv_k_X3_listHeads_X3 hown hK hP 0 rfl rfl 1 (by decide) (hts (.fieldLink RX3 12 "AnswerFold$Grounding" "binding" "LAnswerFold$Binding;") (by decide +kernel)) (fun _ h9 => h9) rfl dX3_listHeads_61 ?_
              refine lv_iload hx hb dX3_listHeads_64 (lv_at hl 4 rfl) ?_
              refine va_putN (D := D) (ci := 4) (v := .int v4_24) (ty := tyX2 2) (C := RX2) (T := TX2) (N := 4) hx hb hts iv_k_X3_listHeads_X2 tyX2 tyX2_ok nmX2 hown hK hP hD hS 1 rfl rfl 2 (by decide) (hE.at (.fieldLinkNest "AnswerFold$Grounding" 151 "AnswerFold$Binding" "third" "I" "AnswerFold") (by decide +kernel)) (fun _ h9 => h9) rfl (by decide +kernel) rfl rfl (Nat.le_of_ble_eq_true rfl) dX3_listHeads_66 (fun H locs hP hD hS => ?_)
              have hP : va_P D vwCl ((wW_k_X3_listHeads ty X x8_5_24 kn on cu pu gw b_1 b_2 v4_24 b_p su x14_f_24) ++ pw ty pp) H := hP
              have hD : va_D A ((wW_k_X3_listHeads ty X x8_5_24 kn on cu pu gw b_1 b_2 v4_24 b_p su x14_f_24) ++ pw ty pp) := hD
              exact J_69 v4_24 hT _ _ hP hD hS _ (lv_sub hl [0, 1, 2, 3, 4] rfl)
            · rw [if_pos c_30] at hT
              refine lv_goto (tgt := 128) hx hb dX3_listHeads_57 (by decide) ?_
              exact J_128 x14_f_24 x8_5_24 x9_2_24 hT _ _ hP hD hS _ (lv_sub hl [0, 1, 2, 3, 4] rfl)
    exact L_24 wF 0 hds 0 b_3 (wF_up 0) hT (by decide) _ _ hP hD hS _ (lv_sub hl [2, 3, 4, 1, 0] rfl)
  refine lv_if_eq (tgt := 19) hx hb dX3_listHeads_11 (by decide) (fun c_31 => ?_) (fun c_31 => ?_)
  · rw [if_pos c_31] at hT
    refine lv_iconst (v := 1) hx hb dX3_listHeads_19 (by decide) ?_
    exact J_20 1 hT _ _ hP hD hS _ (lv_sub hl [1, 2, 0] rfl)
  · rw [if_neg c_31] at hT
    refine lv_bipush (v := 8) hx hb dX3_listHeads_14 (by decide) ?_
    refine lv_goto (tgt := 20) hx hb dX3_listHeads_16 (by decide) ?_
    exact J_20 8 hT _ _ hP hD hS _ (lv_sub hl [1, 2, 0] rfl)
theorem dX3_mayHoldOne_0 : decode cX3_mayHoldOne 0 = .ok (.aload_n 1, 1) := by decide +kernel
theorem dX3_mayHoldOne_1 : decode cX3_mayHoldOne 1 = .ok (.getfield 174, 3) := by decide +kernel
theorem dX3_mayHoldOne_4 : decode cX3_mayHoldOne 4 = .ok (.bipush 116, 2) := by decide +kernel
theorem dX3_mayHoldOne_6 : decode cX3_mayHoldOne 6 = .ok (.if_icmp .ne 35, 3) := by decide +kernel
theorem dX3_mayHoldOne_9 : decode cX3_mayHoldOne 9 = .ok (.aload_n 0, 1) := by decide +kernel
theorem dX3_mayHoldOne_10 : decode cX3_mayHoldOne 10 = .ok (.getfield 61, 3) := by decide +kernel
theorem dX3_mayHoldOne_13 : decode cX3_mayHoldOne 13 = .ok (.ifCond .ne 10, 3) := by decide +kernel
theorem dX3_mayHoldOne_16 : decode cX3_mayHoldOne 16 = .ok (.aload_n 0, 1) := by decide +kernel
theorem dX3_mayHoldOne_17 : decode cX3_mayHoldOne 17 = .ok (.getfield 21, 3) := by decide +kernel
theorem dX3_mayHoldOne_20 : decode cX3_mayHoldOne 20 = .ok (.goto 7, 3) := by decide +kernel
theorem dX3_mayHoldOne_23 : decode cX3_mayHoldOne 23 = .ok (.aload_n 0, 1) := by decide +kernel
theorem dX3_mayHoldOne_24 : decode cX3_mayHoldOne 24 = .ok (.getfield 25, 3) := by decide +kernel
theorem dX3_mayHoldOne_27 : decode cX3_mayHoldOne 27 = .ok (.astore_n 2, 1) := by decide +kernel
theorem dX3_mayHoldOne_28 : decode cX3_mayHoldOne 28 = .ok (.aload_n 2, 1) := by decide +kernel
theorem dX3_mayHoldOne_29 : decode cX3_mayHoldOne 29 = .ok (.aload_n 0, 1) := by decide +kernel
theorem dX3_mayHoldOne_30 : decode cX3_mayHoldOne 30 = .ok (.getfield 12, 3) := by decide +kernel
theorem dX3_mayHoldOne_33 : decode cX3_mayHoldOne 33 = .ok (.aload_n 1, 1) := by decide +kernel
theorem dX3_mayHoldOne_34 : decode cX3_mayHoldOne 34 = .ok (.invokevirtual 175, 3) := by decide +kernel
theorem dX3_mayHoldOne_37 : decode cX3_mayHoldOne 37 = .ok (.invokevirtual 179, 3) := by decide +kernel
theorem dX3_mayHoldOne_40 : decode cX3_mayHoldOne 40 = .ok (.ireturn, 1) := by decide +kernel
theorem dX3_mayHoldOne_41 : decode cX3_mayHoldOne 41 = .ok (.aload_n 1, 1) := by decide +kernel
theorem dX3_mayHoldOne_42 : decode cX3_mayHoldOne 42 = .ok (.getfield 174, 3) := by decide +kernel
theorem dX3_mayHoldOne_45 : decode cX3_mayHoldOne 45 = .ok (.bipush 102, 2) := by decide +kernel
theorem dX3_mayHoldOne_47 : decode cX3_mayHoldOne 47 = .ok (.if_icmp .ne 27, 3) := by decide +kernel
theorem dX3_mayHoldOne_50 : decode cX3_mayHoldOne 50 = .ok (.aload_n 0, 1) := by decide +kernel
theorem dX3_mayHoldOne_51 : decode cX3_mayHoldOne 51 = .ok (.getfield 21, 3) := by decide +kernel
theorem dX3_mayHoldOne_54 : decode cX3_mayHoldOne 54 = .ok (.aload_n 0, 1) := by decide +kernel
theorem dX3_mayHoldOne_55 : decode cX3_mayHoldOne 55 = .ok (.getfield 12, 3) := by decide +kernel
theorem dX3_mayHoldOne_58 : decode cX3_mayHoldOne 58 = .ok (.aload_n 1, 1) := by decide +kernel
theorem dX3_mayHoldOne_59 : decode cX3_mayHoldOne 59 = .ok (.invokevirtual 175, 3) := by decide +kernel
theorem dX3_mayHoldOne_62 : decode cX3_mayHoldOne 62 = .ok (.invokevirtual 179, 3) := by decide +kernel
theorem dX3_mayHoldOne_65 : decode cX3_mayHoldOne 65 = .ok (.ifCond .ne 7, 3) := by decide +kernel
theorem dX3_mayHoldOne_68 : decode cX3_mayHoldOne 68 = .ok (.iconst 1, 1) := by decide +kernel
theorem dX3_mayHoldOne_69 : decode cX3_mayHoldOne 69 = .ok (.goto 4, 3) := by decide +kernel
theorem dX3_mayHoldOne_72 : decode cX3_mayHoldOne 72 = .ok (.iconst 0, 1) := by decide +kernel
theorem dX3_mayHoldOne_73 : decode cX3_mayHoldOne 73 = .ok (.ireturn, 1) := by decide +kernel
theorem dX3_mayHoldOne_74 : decode cX3_mayHoldOne 74 = .ok (.aload_n 0, 1) := by decide +kernel
theorem dX3_mayHoldOne_75 : decode cX3_mayHoldOne 75 = .ok (.getfield 12, 3) := by decide +kernel
theorem dX3_mayHoldOne_78 : decode cX3_mayHoldOne 78 = .ok (.aload_n 1, 1) := by decide +kernel
theorem dX3_mayHoldOne_79 : decode cX3_mayHoldOne 79 = .ok (.invokevirtual 182, 3) := by decide +kernel
theorem dX3_mayHoldOne_82 : decode cX3_mayHoldOne 82 = .ok (.ireturn, 1) := by decide +kernel
def wW_k_X3_mayHoldOne (ty : Nat → ClassId) (X : Nat → Nat) (z9_0 : Int32) (z9_1 : Int32) (z9_2 : Int32) (z9_3 : Int32) (z9_4 : Int32) (z9_5 : Int32) (z9_6 : Int32) (z9_7 : Int32) (z9_8 : Int32) (z9_9 : Int32) (z9_10 : Nat → Int64) (z9_11 : Nat → Int64) : va_W := [((X 8), .inr (5, [.ref (X 1), .ref (X 9), .ref (X 10), .ref (X 12), .ref (X 14), .int z9_0, .ref (X 15), .ref (X 16), .ref (X 17), .int z9_1, .ref (X 18), .ref (X 19), .int z9_2, .int z9_3, .int z9_4, .int z9_5])), ((X 9), .inr (4, [.int z9_6, .int z9_7, .int z9_8, .int z9_9])), ((X 10), .inr (3, [.ref (X 11)])), ((X 11), .inl (ty 1, 6, .inr (.inl z9_10))), ((X 12), .inr (3, [.ref (X 13)])), ((X 13), .inl (ty 1, 6, .inr (.inl z9_11)))]
def vs_k_X3_mayHoldOne : List Cond := .code yX3_mayHoldOne cX3_mayHoldOne 3 (some .boolean) :: ([.fieldLink RX3 12 "AnswerFold$Grounding" "binding" "LAnswerFold$Binding;", .methodLink RX3 182 yX2_testHolds, .instanceMethod yX2_testHolds, .selects RX2 yX2_testHolds yX2_testHolds, .initialized RX2, .fieldLink RX3 21 "AnswerFold$Grounding" "sure" "LAnswerFold$AtomSet;", .methodLink RX3 175 yX2_atomOf, .instanceMethod yX2_atomOf, .selects RX2 yX2_atomOf yX2_atomOf, .methodLink RX3 179 yX1_contains, .instanceMethod yX1_contains, .selects RX1 yX1_contains yX1_contains, .initialized RX1, .fieldLink RX3 61 "AnswerFold$Grounding" "purpose" "I", .fieldLink RX3 25 "AnswerFold$Grounding" "possible" "LAnswerFold$AtomSet;"] ++ (u_ws RX4 TX4 8 ++ (u_ws RX3 TX3 16 ++ (vs_k_X2_testHolds ++ (vs_k_X2_atomOf ++ (vs_k_X1_contains))))))
theorem iv_k_X3_mayHoldOne_X3 : ∀ w ∈ u_ws RX3 TX3 16, w ∈ vs_k_X3_mayHoldOne := (fun _ h => List.mem_cons_of_mem _ (List.mem_append_right _ (List.mem_append_right _ (List.mem_append_left _ h))))
theorem iv_k_X3_mayHoldOne_X4 : ∀ w ∈ u_ws RX4 TX4 8, w ∈ vs_k_X3_mayHoldOne := (fun _ h => List.mem_cons_of_mem _ (List.mem_append_right _ (List.mem_append_left _ h)))
set_option maxRecDepth 20000 in
theorem gv_k_X3_mayHoldOne_0 : GoodIn vs_k_X3_mayHoldOne (wsV RX3 182 RX2 yX2_testHolds vs_k_X2_testHolds) := goodIn_app (goodIn_sub (by decide +kernel) (by decide +kernel)) (goodIn_sub (fun _ h => List.mem_cons_of_mem _ (List.mem_append_right _ (List.mem_append_right _ (List.mem_append_right _ (List.mem_append_left _ h))))) (by decide +kernel))
set_option maxRecDepth 20000 in
theorem gv_k_X3_mayHoldOne_1 : GoodIn vs_k_X3_mayHoldOne (wsV RX3 175 RX2 yX2_atomOf vs_k_X2_atomOf) := goodIn_app (goodIn_sub (by decide +kernel) (by decide +kernel)) (goodIn_sub (fun _ h => List.mem_cons_of_mem _ (List.mem_append_right _ (List.mem_append_right _ (List.mem_append_right _ (List.mem_append_right _ (List.mem_append_left _ h)))))) (by decide +kernel))
set_option maxRecDepth 20000 in
theorem gv_k_X3_mayHoldOne_2 : GoodIn vs_k_X3_mayHoldOne (wsV RX3 179 RX1 yX1_contains vs_k_X1_contains) := goodIn_app (goodIn_sub (by decide +kernel) (by decide +kernel)) (goodIn_sub (fun _ h => List.mem_cons_of_mem _ (List.mem_append_right _ (List.mem_append_right _ (List.mem_append_right _ (List.mem_append_right _ (List.mem_append_right _ (h))))))) (by decide +kernel))
set_option maxRecDepth 20000 in
theorem gv_k_X3_mayHoldOne_3 : GoodIn vs_k_X3_mayHoldOne (wsV RX3 175 RX2 yX2_atomOf vs_k_X2_atomOf) := goodIn_app (goodIn_sub (by decide +kernel) (by decide +kernel)) (goodIn_sub (fun _ h => List.mem_cons_of_mem _ (List.mem_append_right _ (List.mem_append_right _ (List.mem_append_right _ (List.mem_append_right _ (List.mem_append_left _ h)))))) (by decide +kernel))
set_option maxRecDepth 20000 in
theorem gv_k_X3_mayHoldOne_4 : GoodIn vs_k_X3_mayHoldOne (wsV RX3 179 RX1 yX1_contains vs_k_X1_contains) := goodIn_app (goodIn_sub (by decide +kernel) (by decide +kernel)) (goodIn_sub (fun _ h => List.mem_cons_of_mem _ (List.mem_append_right _ (List.mem_append_right _ (List.mem_append_right _ (List.mem_append_right _ (List.mem_append_right _ (h))))))) (by decide +kernel))
set_option maxRecDepth 20000 in
theorem gv_k_X3_mayHoldOne_5 : GoodIn vs_k_X3_mayHoldOne (wsV RX3 175 RX2 yX2_atomOf vs_k_X2_atomOf) := goodIn_app (goodIn_sub (by decide +kernel) (by decide +kernel)) (goodIn_sub (fun _ h => List.mem_cons_of_mem _ (List.mem_append_right _ (List.mem_append_right _ (List.mem_append_right _ (List.mem_append_right _ (List.mem_append_left _ h)))))) (by decide +kernel))
set_option maxRecDepth 20000 in
theorem gv_k_X3_mayHoldOne_6 : GoodIn vs_k_X3_mayHoldOne (wsV RX3 179 RX1 yX1_contains vs_k_X1_contains) := goodIn_app (goodIn_sub (by decide +kernel) (by decide +kernel)) (goodIn_sub (fun _ h => List.mem_cons_of_mem _ (List.mem_append_right _ (List.mem_append_right _ (List.mem_append_right _ (List.mem_append_right _ (List.mem_append_right _ (h))))))) (by decide +kernel))
set_option maxHeartbeats 4000000 in
set_option maxRecDepth 100000 in
theorem k_X3_mayHoldOne (l : Launch) (D : va_G) (ty : Nat → ClassId) (td mi sz : Nat) (pp : pT) (X : Nat → Nat) (hn : Int32) (kn : Int32) (on : Int32) (cu : Int32) (pu : Int32) (gw : Int32) (b_1 : Int32) (b_2 : Int32) (b_3 : Int32) (b_p : Int32) (su : Nat → Int64) (po : Nat → Int64) (a0 : Nat) (hok : pOK pp) (hm_a0 : a0 ∈ pLA pp) (TT : r_k_X3_mayHoldOne) (hTT : TT = m_k_X3_mayHoldOne pp pu b_1 b_2 b_3 b_p su po a0) : Met l yX3_mayHoldOne vs_k_X3_mayHoldOne { frames := 2, cells := 0, slots := 0, locals := 45 } (va_Pc [.ref (X 8), .ref a0] (wq_P D ty td mi ((wW_k_X3_mayHoldOne ty X hn kn on cu pu gw b_1 b_2 b_3 b_p su po) ++ pw ty pp) sz)) (va_Qi (fun (r : Int32) (u : va_W) => (r = TT ∧ (TT = 0 ∨ TT = 1) ∧ (u = ((wW_k_X3_mayHoldOne ty X hn kn on cu pu gw b_1 b_2 b_3 b_p su po) ++ pw ty pp)))) (wq_B D (va_A ((wW_k_X3_mayHoldOne ty X hn kn on cu pu gw b_1 b_2 b_3 b_p su po) ++ pw ty pp) sz)) (va_A ((wW_k_X3_mayHoldOne ty X hn kn on cu pu gw b_1 b_2 b_3 b_p su po) ++ pw ty pp) sz)) 0 0 (va_A ((wW_k_X3_mayHoldOne ty X hn kn on cu pu gw b_1 b_2 b_3 b_p su po) ++ pw ty pp) sz) := by
  refine Met.ofW (cc := cX3_mayHoldOne) (maxL := 3) (ret := (some .boolean)) (by decide) rfl ?_
  intro p e s m args below meth c s₁ B hml hv
  obtain ⟨rfl, hsz, hP, hK, hD0, hE⟩ := hv
  have hx := B.exec
  have hb := B.bytes
  have hr := B.returns
  have hts := atoms_spec (ws := vs_k_X3_mayHoldOne) B.pre
  have hown : s.vm.findClass RX3 = some m.cls := findClass_of_methodNamed B.named
  have hlocks := B.notSynchronized
  subst hsz
  have hD := hD0.self (sz := s.heap.size)
  generalize hAe : va_A ((wW_k_X3_mayHoldOne ty X hn kn on cu pu gw b_1 b_2 b_3 b_p su po) ++ pw ty pp) s.heap.size = A at hD hE ⊢
  have hA : ∀ q : Nat, s.heap.size ≤ q → A q := fun q h => by rw [← hAe]; exact Or.inr h
  have hS : va_S A s.heap s.heap [] := va_S.rf
  have hP : va_P D vwCl ((wW_k_X3_mayHoldOne ty X hn kn on cu pu gw b_1 b_2 b_3 b_p su po) ++ pw ty pp) s.heap := hP
  have hl := lv_entry ([.ref (X 8), .ref a0]) (n := 3) (Nat.le_of_ble_eq_true rfl)
  rw [lg_entry_eq]
  generalize (lg_sl ([.ref (X 8), .ref a0]) ++ List.replicate (3 - (lg_sl ([.ref (X 8), .ref a0])).length) Slot.unset).toArray = ls at hl ⊢
  have hl : lv_has ls 3 [(0, .ref (X 8)), (1, .ref a0)] := hl
  have END : ∀ (r : Int32), TT = r → (r = 0 ∨ r = 1) → ∀ (H : Heap) (locs : List Loc), va_P D vwCl ((wW_k_X3_mayHoldOne ty X hn kn on cu pu gw b_1 b_2 b_3 b_p su po) ++ pw ty pp) H → va_D A ((wW_k_X3_mayHoldOne ty X hn kn on cu pu gw b_1 b_2 b_3 b_p su po) ++ pw ty pp) → va_S A s.heap H locs → ∀ (ls : Array Slot) (pc : Nat), decode cX3_mayHoldOne pc = .ok (.ireturn, 1) → W p l e (headSpec vs_k_X3_mayHoldOne { frames := 2, cells := 0, slots := 0, locals := 45 }).room s m ([.ref (X 8), .ref a0] : List Value).toArray below meth c H locs 0 0 (MQ below (va_Qi (fun (r : Int32) (u : va_W) => (r = TT ∧ (TT = 0 ∨ TT = 1) ∧ (u = ((wW_k_X3_mayHoldOne ty X hn kn on cu pu gw b_1 b_2 b_3 b_p su po) ++ pw ty pp)))) (wq_B D A) A) ([.ref (X 8), .ref a0] : List Value).toArray s 0 0 A) (F0 m pc ls [.int r]) := by
    intro r hT hb01 H locs hP hD hS ls pc hd
    have hM : TT = r := hT
    exact W.zret (v := r) hx hb hr (wz_nar hb01) (fun t ht hW => ⟨⟨r, ((wW_k_X3_mayHoldOne ty X hn kn on cu pu gw b_1 b_2 b_3 b_p su po) ++ pw ty pp), rfl, ⟨(by rw [hM]), (by rw [hM]; exact hb01), rfl⟩, wq_B.of ht hP hD⟩, hS.F ht⟩) hS.2.2 hd
  have hT := hTT
  rw [m_k_X3_mayHoldOne] at hT
  refine lv_aload_n hx hb dX3_mayHoldOne_0 rfl (lv_at hl 1 rfl) ?_
  obtain ⟨k_1, hk_1⟩ := List.getElem?_of_mem (pw_lit (ty := ty) (p := pp) (L := [((X 8), .inr (5, [.ref (X 1), .ref (X 9), .ref (X 10), .ref (X 12), .ref (X 14), .int hn, .ref (X 15), .ref (X 16), .ref (X 17), .int kn, .ref (X 18), .ref (X 19), .int on, .int cu, .int pu, .int gw])), ((X 9), .inr (4, [.int b_1, .int b_2, .int b_3, .int b_p])), ((X 10), .inr (3, [.ref (X 11)])), ((X 11), .inl (ty 1, 6, .inr (.inl su))), ((X 12), .inr (3, [.ref (X 13)])), ((X 13), .inl (ty 1, 6, .inr (.inl po)))]) hm_a0)
  refine va_getN (D := D) (ci := 6) (v := .int (pI pp a0 0)) (C := RX4) (T := TX4) (N := 8) hx hb hts iv_k_X3_mayHoldOne_X4 hown hK hP k_1 hk_1 rfl 0 (by decide) (hE.at (.fieldLinkNest "AnswerFold$Grounding" 174 "AnswerFold$Literal" "kind" "C" "AnswerFold") (by decide +kernel)) (fun _ h9 => h9) rfl dX3_mayHoldOne_1 ?_
  refine lv_bipush (v := 116) hx hb dX3_mayHoldOne_4 (by decide) ?_
  refine lv_icmp_ne (tgt := 41) hx hb dX3_mayHoldOne_6 (by decide) (fun c_2 => ?_) (fun c_2 => ?_)
  · rw [if_neg c_2] at hT
    refine lv_aload_n hx hb dX3_mayHoldOne_41 rfl (lv_at hl 1 rfl) ?_
    obtain ⟨k_3, hk_3⟩ := List.getElem?_of_mem (pw_lit (ty := ty) (p := pp) (L := [((X 8), .inr (5, [.ref (X 1), .ref (X 9), .ref (X 10), .ref (X 12), .ref (X 14), .int hn, .ref (X 15), .ref (X 16), .ref (X 17), .int kn, .ref (X 18), .ref (X 19), .int on, .int cu, .int pu, .int gw])), ((X 9), .inr (4, [.int b_1, .int b_2, .int b_3, .int b_p])), ((X 10), .inr (3, [.ref (X 11)])), ((X 11), .inl (ty 1, 6, .inr (.inl su))), ((X 12), .inr (3, [.ref (X 13)])), ((X 13), .inl (ty 1, 6, .inr (.inl po)))]) hm_a0)
    refine va_getN (D := D) (ci := 6) (v := .int (pI pp a0 0)) (C := RX4) (T := TX4) (N := 8) hx hb hts iv_k_X3_mayHoldOne_X4 hown hK hP k_3 hk_3 rfl 0 (by decide) (hE.at (.fieldLinkNest "AnswerFold$Grounding" 174 "AnswerFold$Literal" "kind" "C" "AnswerFold") (by decide +kernel)) (fun _ h9 => h9) rfl dX3_mayHoldOne_42 ?_
    refine lv_bipush (v := 102) hx hb dX3_mayHoldOne_45 (by decide) ?_
    refine lv_icmp_ne (tgt := 74) hx hb dX3_mayHoldOne_47 (by decide) (fun c_4 => ?_) (fun c_4 => ?_)
    · rw [if_neg c_4] at hT
      refine lv_aload_n hx hb dX3_mayHoldOne_74 rfl (lv_at hl 0 rfl) ?_
      refine va_get (D := D) (ci := 5) (v := .ref (X 9)) (C := RX3) (T := TX3) (N := 16) hx hb hts iv_k_X3_mayHoldOne_X3 hown hK hP 0 rfl rfl 1 (by decide) (hts (.fieldLink RX3 12 "AnswerFold$Grounding" "binding" "LAnswerFold$Binding;") (by decide +kernel)) (fun _ h9 => h9) rfl dX3_mayHoldOne_75 ?_
      refine lv_aload_n hx hb dX3_mayHoldOne_78 rfl (lv_at hl 1 rfl) ?_
      obtain ⟨t_79, ht_79⟩ : ∃ t, t = m_k_X2_testHolds pp b_1 b_2 b_3 b_p a0 := ⟨_, rfl⟩
      rw [lE_eq ht_79] at hT
      refine wq_iPW (wc := (wW_k_X2_testHolds ty X b_1 b_2 b_3 b_p)) (pl := pw ty pp) (ux := (wW_k_X2_testHolds ty X b_1 b_2 b_3 b_p)) (va_runV (As := [.ref a0]) (rest := []) ⟨hx, hb, hml, hown, hts⟩ (k_X2_testHolds l D ty td mi s.heap.size pp X b_1 b_2 b_3 b_p a0 hok hm_a0 t_79 ht_79) (cwV 1 hts gv_k_X3_mayHoldOne_0 rfl rfl rfl (by decide +kernel) ⟨(Nat.le_of_ble_eq_true rfl), (Nat.le_of_ble_eq_true rfl)⟩) (wm_V (wm_preSP hP hD hK hE hS hA [false, true] rfl) (va_recv (q0 := 1) (ci := 4) hK hP rfl rfl)) rfl rfl hl.1 rfl (lv_room (Nat.le_of_ble_eq_true rfl)) dX3_mayHoldOne_79 ⟨(Nat.le_of_ble_eq_true rfl), (Nat.le_of_ble_eq_true rfl)⟩) hS hA hP hD [false, true] rfl rfl (fun _ _ h => h.2.2) (fun r H locs hw hP hD hS => ?_)
      obtain ⟨hr0, c_7, -⟩ := hw
      subst r
      have hP : va_P D vwCl ((wW_k_X3_mayHoldOne ty X hn kn on cu pu gw b_1 b_2 b_3 b_p su po) ++ pw ty pp) H := hP
      have hD : va_D A ((wW_k_X3_mayHoldOne ty X hn kn on cu pu gw b_1 b_2 b_3 b_p su po) ++ pw ty pp) := hD
      refine W.widen (k := 0) (n := 0) (Nat.le_of_ble_eq_true rfl) (Nat.le_of_ble_eq_true rfl) ?_
      exact END t_79 hT c_7 _ _ hP hD hS _ _ dX3_mayHoldOne_82
    · rw [if_pos c_4] at hT
      refine lv_aload_n hx hb dX3_mayHoldOne_50 rfl (lv_at hl 0 rfl) ?_
      refine va_get (D := D) (ci := 5) (v := .ref (X 10)) (C := RX3) (T := TX3) (N := 16) hx hb hts iv_k_X3_mayHoldOne_X3 hown hK hP 0 rfl rfl 2 (by decide) (hts (.fieldLink RX3 21 "AnswerFold$Grounding" "sure" "LAnswerFold$AtomSet;") (by decide +kernel)) (fun _ h9 => h9) rfl dX3_mayHoldOne_51 ?_
      refine lv_aload_n hx hb dX3_mayHoldOne_54 rfl (lv_at hl 0 rfl) ?_
      refine va_get (D := D) (ci := 5) (v := .ref (X 9)) (C := RX3) (T := TX3) (N := 16) hx hb hts iv_k_X3_mayHoldOne_X3 hown hK hP 0 rfl rfl 1 (by decide) (hts (.fieldLink RX3 12 "AnswerFold$Grounding" "binding" "LAnswerFold$Binding;") (by decide +kernel)) (fun _ h9 => h9) rfl dX3_mayHoldOne_55 ?_
      refine lv_aload_n hx hb dX3_mayHoldOne_58 rfl (lv_at hl 1 rfl) ?_
      obtain ⟨t_59, ht_59⟩ : ∃ t, t = m_k_X2_atomOf pp b_1 b_2 b_3 b_p a0 := ⟨_, rfl⟩
      rw [lE_eq ht_59] at hT
      refine wq_iPW (wc := (wW_k_X2_atomOf ty X b_1 b_2 b_3 b_p)) (pl := pw ty pp) (ux := (wW_k_X2_atomOf ty X b_1 b_2 b_3 b_p)) (va_runV (As := [.ref a0]) (rest := [.ref (X 10)]) ⟨hx, hb, hml, hown, hts⟩ (k_X2_atomOf l D ty td mi s.heap.size pp X b_1 b_2 b_3 b_p a0 hok hm_a0 t_59 ht_59) (cwV 1 hts gv_k_X3_mayHoldOne_1 rfl rfl rfl (by decide +kernel) ⟨(Nat.le_of_ble_eq_true rfl), (Nat.le_of_ble_eq_true rfl)⟩) (wm_V (wm_preSP hP hD hK hE hS hA [false, true] rfl) (va_recv (q0 := 1) (ci := 4) hK hP rfl rfl)) rfl rfl hl.1 rfl (lv_room (Nat.le_of_ble_eq_true rfl)) dX3_mayHoldOne_59 ⟨(Nat.le_of_ble_eq_true rfl), (Nat.le_of_ble_eq_true rfl)⟩) hS hA hP hD [false, true] rfl rfl (fun _ _ h => h.2) (fun r H locs hw hP hD hS => ?_)
      obtain ⟨hr0, -⟩ := hw
      subst r
      have hP : va_P D vwCl ((wW_k_X3_mayHoldOne ty X hn kn on cu pu gw b_1 b_2 b_3 b_p su po) ++ pw ty pp) H := hP
      have hD : va_D A ((wW_k_X3_mayHoldOne ty X hn kn on cu pu gw b_1 b_2 b_3 b_p su po) ++ pw ty pp) := hD
      refine W.widen (k := 0) (n := 0) (Nat.le_of_ble_eq_true rfl) (Nat.le_of_ble_eq_true rfl) ?_
      obtain ⟨t_62, ht_62⟩ : ∃ t, t = m_k_X1_contains su t_59 := ⟨_, rfl⟩
      rw [lE_eq ht_62] at hT
      refine wq_iQW (wc := (wW_k_X1_contains ty (X 10) (X 11) su)) (pl := pw ty pp) (va_runV (As := [.int t_59]) (rest := []) ⟨hx, hb, hml, hown, hts⟩ (k_X1_contains l D ty td mi H.size (X 10) (X 11) su t_59 t_62 ht_62) (cwV 1 hts gv_k_X3_mayHoldOne_2 rfl rfl rfl (by decide +kernel) ⟨(Nat.le_of_ble_eq_true rfl), (Nat.le_of_ble_eq_true rfl)⟩) (wm_V (wm_preS (vP_left hP) (vD_left hD) hK hE hS hA [false, false, true, true] rfl) (va_recv (q0 := 2) (ci := 3) hK hP rfl rfl)) rfl rfl hl.1 rfl (lv_room (Nat.le_of_ble_eq_true rfl)) dX3_mayHoldOne_62 ⟨(Nat.le_of_ble_eq_true rfl), (Nat.le_of_ble_eq_true rfl)⟩) hS hA hP hD [false, false, true, true] rfl (fun _ _ h => by rcases h with ⟨-, -, rfl⟩; rfl) (fun r u H locs hw hP hD hS => ?_)
      obtain ⟨hr0, c_12, rfl⟩ := hw
      subst r
      have hP : va_P D vwCl ((wW_k_X3_mayHoldOne ty X hn kn on cu pu gw b_1 b_2 b_3 b_p su po) ++ pw ty pp) H := hP
      have hD : va_D A ((wW_k_X3_mayHoldOne ty X hn kn on cu pu gw b_1 b_2 b_3 b_p su po) ++ pw ty pp) := hD
      refine W.widen (k := 0) (n := 0) (Nat.le_of_ble_eq_true rfl) (Nat.le_of_ble_eq_true rfl) ?_
      refine lv_if_ne (tgt := 72) hx hb dX3_mayHoldOne_65 (by decide) (fun c_13 => ?_) (fun c_13 => ?_)
      · rw [if_neg c_13] at hT
        refine lv_iconst (v := 0) hx hb dX3_mayHoldOne_72 (by decide) ?_
        exact END 0 hT (by decide) _ _ hP hD hS _ _ dX3_mayHoldOne_73
      · rw [if_pos c_13] at hT
        refine lv_iconst (v := 1) hx hb dX3_mayHoldOne_68 (by decide) ?_
        refine lv_goto (tgt := 73) hx hb dX3_mayHoldOne_69 (by decide) ?_
        exact END 1 hT (by decide) _ _ hP hD hS _ _ dX3_mayHoldOne_73
  · rw [if_pos c_2] at hT
    refine lv_aload_n hx hb dX3_mayHoldOne_9 rfl (lv_at hl 0 rfl) ?_
    refine va_get (D := D) (ci := 5) (v := .int pu) (C := RX3) (T := TX3) (N := 16) hx hb hts iv_k_X3_mayHoldOne_X3 hown hK hP 0 rfl rfl 14 (by decide) (hts (.fieldLink RX3 61 "AnswerFold$Grounding" "purpose" "I") (by decide +kernel)) (fun _ h9 => h9) rfl dX3_mayHoldOne_10 ?_
    have J_27 : ∀ (_ : Unit), TT = m_k_X3_mayHoldOne_27 pp b_1 b_2 b_3 b_p po a0 → ∀ (H : Heap) (locs : List Loc), va_P D vwCl ((wW_k_X3_mayHoldOne ty X hn kn on cu pu gw b_1 b_2 b_3 b_p su po) ++ pw ty pp) H → va_D A ((wW_k_X3_mayHoldOne ty X hn kn on cu pu gw b_1 b_2 b_3 b_p su po) ++ pw ty pp) → va_S A s.heap H locs → ∀ ls : Array Slot, lv_has ls 3 [(0, .ref (X 8)), (1, .ref a0)] → W p l e (headSpec vs_k_X3_mayHoldOne { frames := 2, cells := 0, slots := 0, locals := 45 }).room s m ([.ref (X 8), .ref a0] : List Value).toArray below meth c H locs 0 0 (MQ below (va_Qi (fun (r : Int32) (u : va_W) => (r = TT ∧ (TT = 0 ∨ TT = 1) ∧ (u = ((wW_k_X3_mayHoldOne ty X hn kn on cu pu gw b_1 b_2 b_3 b_p su po) ++ pw ty pp)))) (wq_B D A) A) ([.ref (X 8), .ref a0] : List Value).toArray s 0 0 A) (F0 m 27 ls [.ref (X 12)]) := by
      intro _ hT  H locs hP hD hS ls hl
      rw [m_k_X3_mayHoldOne_27] at hT
      refine lv_astore_n (lv' := [(2, .ref (X 12)), (0, .ref (X 8)), (1, .ref a0)]) hx hb dX3_mayHoldOne_27 rfl hl (by decide) rfl (fun ls hl => ?_)
      refine lv_aload_n hx hb dX3_mayHoldOne_28 rfl (lv_at hl 0 rfl) ?_
      refine lv_aload_n hx hb dX3_mayHoldOne_29 rfl (lv_at hl 1 rfl) ?_
      refine va_get (D := D) (ci := 5) (v := .ref (X 9)) (C := RX3) (T := TX3) (N := 16) hx hb hts iv_k_X3_mayHoldOne_X3 hown hK hP 0 rfl rfl 1 (by decide) (hts (.fieldLink RX3 12 "AnswerFold$Grounding" "binding" "LAnswerFold$Binding;") (by decide +kernel)) (fun _ h9 => h9) rfl dX3_mayHoldOne_30 ?_
      refine lv_aload_n hx hb dX3_mayHoldOne_33 rfl (lv_at hl 2 rfl) ?_
      obtain ⟨t_34, ht_34⟩ : ∃ t, t = m_k_X2_atomOf pp b_1 b_2 b_3 b_p a0 := ⟨_, rfl⟩
      rw [lE_eq ht_34] at hT
      refine wq_iPW (wc := (wW_k_X2_atomOf ty X b_1 b_2 b_3 b_p)) (pl := pw ty pp) (ux := (wW_k_X2_atomOf ty X b_1 b_2 b_3 b_p)) (va_runV (As := [.ref a0]) (rest := [.ref (X 12)]) ⟨hx, hb, hml, hown, hts⟩ (k_X2_atomOf l D ty td mi H.size pp X b_1 b_2 b_3 b_p a0 hok hm_a0 t_34 ht_34) (cwV 1 hts gv_k_X3_mayHoldOne_3 rfl rfl rfl (by decide +kernel) ⟨(Nat.le_of_ble_eq_true rfl), (Nat.le_of_ble_eq_true rfl)⟩) (wm_V (wm_preSP hP hD hK hE hS hA [false, true] rfl) (va_recv (q0 := 1) (ci := 4) hK hP rfl rfl)) rfl rfl hl.1 rfl (lv_room (Nat.le_of_ble_eq_true rfl)) dX3_mayHoldOne_34 ⟨(Nat.le_of_ble_eq_true rfl), (Nat.le_of_ble_eq_true rfl)⟩) hS hA hP hD [false, true] rfl rfl (fun _ _ h => h.2) (fun r H locs hw hP hD hS => ?_)
      obtain ⟨hr0, -⟩ := hw
      subst r
      have hP : va_P D vwCl ((wW_k_X3_mayHoldOne ty X hn kn on cu pu gw b_1 b_2 b_3 b_p su po) ++ pw ty pp) H := hP
      have hD : va_D A ((wW_k_X3_mayHoldOne ty X hn kn on cu pu gw b_1 b_2 b_3 b_p su po) ++ pw ty pp) := hD
      refine W.widen (k := 0) (n := 0) (Nat.le_of_ble_eq_true rfl) (Nat.le_of_ble_eq_true rfl) ?_
      obtain ⟨t_37, ht_37⟩ : ∃ t, t = m_k_X1_contains po t_34 := ⟨_, rfl⟩
      rw [lE_eq ht_37] at hT
      refine wq_iQW (wc := (wW_k_X1_contains ty (X 12) (X 13) po)) (pl := pw ty pp) (va_runV (As := [.int t_34]) (rest := []) ⟨hx, hb, hml, hown, hts⟩ (k_X1_contains l D ty td mi H.size (X 12) (X 13) po t_34 t_37 ht_37) (cwV 1 hts gv_k_X3_mayHoldOne_4 rfl rfl rfl (by decide +kernel) ⟨(Nat.le_of_ble_eq_true rfl), (Nat.le_of_ble_eq_true rfl)⟩) (wm_V (wm_preS (vP_left hP) (vD_left hD) hK hE hS hA [false, false, false, false, true, true] rfl) (va_recv (q0 := 4) (ci := 3) hK hP rfl rfl)) rfl rfl hl.1 rfl (lv_room (Nat.le_of_ble_eq_true rfl)) dX3_mayHoldOne_37 ⟨(Nat.le_of_ble_eq_true rfl), (Nat.le_of_ble_eq_true rfl)⟩) hS hA hP hD [false, false, false, false, true, true] rfl (fun _ _ h => by rcases h with ⟨-, -, rfl⟩; rfl) (fun r u H locs hw hP hD hS => ?_)
      obtain ⟨hr0, c_18, rfl⟩ := hw
      subst r
      have hP : va_P D vwCl ((wW_k_X3_mayHoldOne ty X hn kn on cu pu gw b_1 b_2 b_3 b_p su po) ++ pw ty pp) H := hP
      have hD : va_D A ((wW_k_X3_mayHoldOne ty X hn kn on cu pu gw b_1 b_2 b_3 b_p su po) ++ pw ty pp) := hD
      refine W.widen (k := 0) (n := 0) (Nat.le_of_ble_eq_true rfl) (Nat.le_of_ble_eq_true rfl) ?_
      exact END t_37 hT c_18 _ _ hP hD hS _ _ dX3_mayHoldOne_40
    have J_27a : ∀ (_ : Unit), TT = m_k_X3_mayHoldOne_27a pp b_1 b_2 b_3 b_p su a0 → ∀ (H : Heap) (locs : List Loc), va_P D vwCl ((wW_k_X3_mayHoldOne ty X hn kn on cu pu gw b_1 b_2 b_3 b_p su po) ++ pw ty pp) H → va_D A ((wW_k_X3_mayHoldOne ty X hn kn on cu pu gw b_1 b_2 b_3 b_p su po) ++ pw ty pp) → va_S A s.heap H locs → ∀ ls : Array Slot, lv_has ls 3 [(0, .ref (X 8)), (1, .ref a0)] → W p l e (headSpec vs_k_X3_mayHoldOne { frames := 2, cells := 0, slots := 0, locals := 45 }).room s m ([.ref (X 8), .ref a0] : List Value).toArray below meth c H locs 0 0 (MQ below (va_Qi (fun (r : Int32) (u : va_W) => (r = TT ∧ (TT = 0 ∨ TT = 1) ∧ (u = ((wW_k_X3_mayHoldOne ty X hn kn on cu pu gw b_1 b_2 b_3 b_p su po) ++ pw ty pp)))) (wq_B D A) A) ([.ref (X 8), .ref a0] : List Value).toArray s 0 0 A) (F0 m 27 ls [.ref (X 10)]) := by
      intro _ hT  H locs hP hD hS ls hl
      rw [m_k_X3_mayHoldOne_27a] at hT
      refine lv_astore_n (lv' := [(2, .ref (X 10)), (0, .ref (X 8)), (1, .ref a0)]) hx hb dX3_mayHoldOne_27 rfl hl (by decide) rfl (fun ls hl => ?_)
      refine lv_aload_n hx hb dX3_mayHoldOne_28 rfl (lv_at hl 0 rfl) ?_
      refine lv_aload_n hx hb dX3_mayHoldOne_29 rfl (lv_at hl 1 rfl) ?_
      refine va_get (D := D) (ci := 5) (v := .ref (X 9)) (C := RX3) (T := TX3) (N := 16) hx hb hts iv_k_X3_mayHoldOne_X3 hown hK hP 0 rfl rfl 1 (by decide) (hts (.fieldLink RX3 12 "AnswerFold$Grounding" "binding" "LAnswerFold$Binding;") (by decide +kernel)) (fun _ h9 => h9) rfl dX3_mayHoldOne_30 ?_
      refine lv_aload_n hx hb dX3_mayHoldOne_33 rfl (lv_at hl 2 rfl) ?_
      obtain ⟨t_34, ht_34⟩ : ∃ t, t = m_k_X2_atomOf pp b_1 b_2 b_3 b_p a0 := ⟨_, rfl⟩
      rw [lE_eq ht_34] at hT
      refine wq_iPW (wc := (wW_k_X2_atomOf ty X b_1 b_2 b_3 b_p)) (pl := pw ty pp) (ux := (wW_k_X2_atomOf ty X b_1 b_2 b_3 b_p)) (va_runV (As := [.ref a0]) (rest := [.ref (X 10)]) ⟨hx, hb, hml, hown, hts⟩ (k_X2_atomOf l D ty td mi H.size pp X b_1 b_2 b_3 b_p a0 hok hm_a0 t_34 ht_34) (cwV 1 hts gv_k_X3_mayHoldOne_5 rfl rfl rfl (by decide +kernel) ⟨(Nat.le_of_ble_eq_true rfl), (Nat.le_of_ble_eq_true rfl)⟩) (wm_V (wm_preSP hP hD hK hE hS hA [false, true] rfl) (va_recv (q0 := 1) (ci := 4) hK hP rfl rfl)) rfl rfl hl.1 rfl (lv_room (Nat.le_of_ble_eq_true rfl)) dX3_mayHoldOne_34 ⟨(Nat.le_of_ble_eq_true rfl), (Nat.le_of_ble_eq_true rfl)⟩) hS hA hP hD [false, true] rfl rfl (fun _ _ h => h.2) (fun r H locs hw hP hD hS => ?_)
      obtain ⟨hr0, -⟩ := hw
      subst r
      have hP : va_P D vwCl ((wW_k_X3_mayHoldOne ty X hn kn on cu pu gw b_1 b_2 b_3 b_p su po) ++ pw ty pp) H := hP
      have hD : va_D A ((wW_k_X3_mayHoldOne ty X hn kn on cu pu gw b_1 b_2 b_3 b_p su po) ++ pw ty pp) := hD
      refine W.widen (k := 0) (n := 0) (Nat.le_of_ble_eq_true rfl) (Nat.le_of_ble_eq_true rfl) ?_
      obtain ⟨t_37, ht_37⟩ : ∃ t, t = m_k_X1_contains su t_34 := ⟨_, rfl⟩
      rw [lE_eq ht_37] at hT
      refine wq_iQW (wc := (wW_k_X1_contains ty (X 10) (X 11) su)) (pl := pw ty pp) (va_runV (As := [.int t_34]) (rest := []) ⟨hx, hb, hml, hown, hts⟩ (k_X1_contains l D ty td mi H.size (X 10) (X 11) su t_34 t_37 ht_37) (cwV 1 hts gv_k_X3_mayHoldOne_6 rfl rfl rfl (by decide +kernel) ⟨(Nat.le_of_ble_eq_true rfl), (Nat.le_of_ble_eq_true rfl)⟩) (wm_V (wm_preS (vP_left hP) (vD_left hD) hK hE hS hA [false, false, true, true] rfl) (va_recv (q0 := 2) (ci := 3) hK hP rfl rfl)) rfl rfl hl.1 rfl (lv_room (Nat.le_of_ble_eq_true rfl)) dX3_mayHoldOne_37 ⟨(Nat.le_of_ble_eq_true rfl), (Nat.le_of_ble_eq_true rfl)⟩) hS hA hP hD [false, false, true, true] rfl (fun _ _ h => by rcases h with ⟨-, -, rfl⟩; rfl) (fun r u H locs hw hP hD hS => ?_)
      obtain ⟨hr0, c_23, rfl⟩ := hw
      subst r
      have hP : va_P D vwCl ((wW_k_X3_mayHoldOne ty X hn kn on cu pu gw b_1 b_2 b_3 b_p su po) ++ pw ty pp) H := hP
      have hD : va_D A ((wW_k_X3_mayHoldOne ty X hn kn on cu pu gw b_1 b_2 b_3 b_p su po) ++ pw ty pp) := hD
      refine W.widen (k := 0) (n := 0) (Nat.le_of_ble_eq_true rfl) (Nat.le_of_ble_eq_true rfl) ?_
      exact END t_37 hT c_23 _ _ hP hD hS _ _ dX3_mayHoldOne_40
    refine lv_if_ne (tgt := 23) hx hb dX3_mayHoldOne_13 (by decide) (fun c_24 => ?_) (fun c_24 => ?_)
    · rw [if_neg c_24] at hT
      refine lv_aload_n hx hb dX3_mayHoldOne_23 rfl (lv_at hl 0 rfl) ?_
      refine va_get (D := D) (ci := 5) (v := .ref (X 12)) (C := RX3) (T := TX3) (N := 16) hx hb hts iv_k_X3_mayHoldOne_X3 hown hK hP 0 rfl rfl 3 (by decide) (hts (.fieldLink RX3 25 "AnswerFold$Grounding" "possible" "LAnswerFold$AtomSet;") (by decide +kernel)) (fun _ h9 => h9) rfl dX3_mayHoldOne_24 ?_
      exact J_27 () hT _ _ hP hD hS _ (lv_sub hl [0, 1] rfl)
    · rw [if_pos c_24] at hT
      refine lv_aload_n hx hb dX3_mayHoldOne_16 rfl (lv_at hl 0 rfl) ?_
      refine va_get (D := D) (ci := 5) (v := .ref (X 10)) (C := RX3) (T := TX3) (N := 16) hx hb hts iv_k_X3_mayHoldOne_X3 hown hK hP 0 rfl rfl 2 (by decide) (hts (.fieldLink RX3 21 "AnswerFold$Grounding" "sure" "LAnswerFold$AtomSet;") (by decide +kernel)) (fun _ h9 => h9) rfl dX3_mayHoldOne_17 ?_
      refine lv_goto (tgt := 27) hx hb dX3_mayHoldOne_20 (by decide) ?_
      exact J_27a () hT _ _ hP hD hS _ (lv_sub hl [0, 1] rfl)
theorem dX3_mayHold_0 : decode cX3_mayHold 0 = .ok (.iconst 0, 1) := by decide +kernel
theorem dX3_mayHold_1 : decode cX3_mayHold 1 = .ok (.istore_n 3, 1) := by decide +kernel
theorem dX3_mayHold_2 : decode cX3_mayHold 2 = .ok (.iload_n 3, 1) := by decide +kernel
theorem dX3_mayHold_3 : decode cX3_mayHold 3 = .ok (.aload_n 1, 1) := by decide +kernel
theorem dX3_mayHold_4 : decode cX3_mayHold 4 = .ok (.getfield 158, 3) := by decide +kernel
theorem dX3_mayHold_7 : decode cX3_mayHold 7 = .ok (.if_icmp .ge 41, 3) := by decide +kernel
theorem dX3_mayHold_10 : decode cX3_mayHold 10 = .ok (.aload_n 1, 1) := by decide +kernel
theorem dX3_mayHold_11 : decode cX3_mayHold 11 = .ok (.iload_n 3, 1) := by decide +kernel
theorem dX3_mayHold_12 : decode cX3_mayHold 12 = .ok (.invokevirtual 161, 3) := by decide +kernel
theorem dX3_mayHold_15 : decode cX3_mayHold 15 = .ok (.astore 4, 2) := by decide +kernel
theorem dX3_mayHold_17 : decode cX3_mayHold 17 = .ok (.aload 4, 2) := by decide +kernel
theorem dX3_mayHold_19 : decode cX3_mayHold 19 = .ok (.ifnull 23, 3) := by decide +kernel
theorem dX3_mayHold_22 : decode cX3_mayHold 22 = .ok (.aload 4, 2) := by decide +kernel
theorem dX3_mayHold_24 : decode cX3_mayHold 24 = .ok (.getfield 165, 3) := by decide +kernel
theorem dX3_mayHold_27 : decode cX3_mayHold 27 = .ok (.iload_n 2, 1) := by decide +kernel
theorem dX3_mayHold_28 : decode cX3_mayHold 28 = .ok (.if_icmp .ne 14, 3) := by decide +kernel
theorem dX3_mayHold_31 : decode cX3_mayHold 31 = .ok (.aload_n 0, 1) := by decide +kernel
theorem dX3_mayHold_32 : decode cX3_mayHold 32 = .ok (.aload 4, 2) := by decide +kernel
theorem dX3_mayHold_34 : decode cX3_mayHold 34 = .ok (.invokevirtual 170, 3) := by decide +kernel
theorem dX3_mayHold_37 : decode cX3_mayHold 37 = .ok (.ifCond .ne 5, 3) := by decide +kernel
theorem dX3_mayHold_40 : decode cX3_mayHold 40 = .ok (.iconst 0, 1) := by decide +kernel
theorem dX3_mayHold_41 : decode cX3_mayHold 41 = .ok (.ireturn, 1) := by decide +kernel
theorem dX3_mayHold_42 : decode cX3_mayHold 42 = .ok (.iinc 3 1, 3) := by decide +kernel
theorem dX3_mayHold_45 : decode cX3_mayHold 45 = .ok (.goto (-43), 3) := by decide +kernel
theorem dX3_mayHold_48 : decode cX3_mayHold 48 = .ok (.iconst 1, 1) := by decide +kernel
theorem dX3_mayHold_49 : decode cX3_mayHold 49 = .ok (.ireturn, 1) := by decide +kernel
def wW_k_X3_mayHold (ty : Nat → ClassId) (X : Nat → Nat) (z9_0 : Int32) (z9_1 : Int32) (z9_2 : Int32) (z9_3 : Int32) (z9_4 : Int32) (z9_5 : Int32) (z9_6 : Int32) (z9_7 : Int32) (z9_8 : Int32) (z9_9 : Int32) (z9_10 : Nat → Int64) (z9_11 : Nat → Int64) : va_W := [((X 8), .inr (5, [.ref (X 1), .ref (X 9), .ref (X 10), .ref (X 12), .ref (X 14), .int z9_0, .ref (X 15), .ref (X 16), .ref (X 17), .int z9_1, .ref (X 18), .ref (X 19), .int z9_2, .int z9_3, .int z9_4, .int z9_5])), ((X 9), .inr (4, [.int z9_6, .int z9_7, .int z9_8, .int z9_9])), ((X 10), .inr (3, [.ref (X 11)])), ((X 11), .inl (ty 1, 6, .inr (.inl z9_10))), ((X 12), .inr (3, [.ref (X 13)])), ((X 13), .inl (ty 1, 6, .inr (.inl z9_11)))]
def vs_k_X3_mayHold : List Cond := .code yX3_mayHold cX3_mayHold 5 (some .boolean) :: ([.methodLink RX3 161 yX8_conditionAt, .instanceMethod yX8_conditionAt, .selects RX8 yX8_conditionAt yX8_conditionAt, .initialized RX8, .methodLink RX3 170 yX3_mayHoldOne, .instanceMethod yX3_mayHoldOne, .selects RX3 yX3_mayHoldOne yX3_mayHoldOne, .initialized RX3] ++ (u_ws RX8 TX8 11 ++ (vs_k_X8_conditionAt ++ (u_ws RX4 TX4 8 ++ (vs_k_X3_mayHoldOne)))))
theorem iv_k_X3_mayHold_X4 : ∀ w ∈ u_ws RX4 TX4 8, w ∈ vs_k_X3_mayHold := (fun _ h => List.mem_cons_of_mem _ (List.mem_append_right _ (List.mem_append_right _ (List.mem_append_right _ (List.mem_append_left _ h)))))
theorem iv_k_X3_mayHold_X8 : ∀ w ∈ u_ws RX8 TX8 11, w ∈ vs_k_X3_mayHold := (fun _ h => List.mem_cons_of_mem _ (List.mem_append_right _ (List.mem_append_left _ h)))
set_option maxRecDepth 20000 in
theorem gv_k_X3_mayHold_0 : GoodIn vs_k_X3_mayHold (wsV RX3 161 RX8 yX8_conditionAt vs_k_X8_conditionAt) := goodIn_app (goodIn_sub (by decide +kernel) (by decide +kernel)) (goodIn_sub (fun _ h => List.mem_cons_of_mem _ (List.mem_append_right _ (List.mem_append_right _ (List.mem_append_left _ h)))) (by decide +kernel))
set_option maxRecDepth 20000 in
theorem gv_k_X3_mayHold_1 : GoodIn vs_k_X3_mayHold (wsV RX3 170 RX3 yX3_mayHoldOne vs_k_X3_mayHoldOne) := goodIn_app (goodIn_sub (by decide +kernel) (by decide +kernel)) (goodIn_sub (fun _ h => List.mem_cons_of_mem _ (List.mem_append_right _ (List.mem_append_right _ (List.mem_append_right _ (List.mem_append_right _ (h)))))) (by decide +kernel))
set_option maxHeartbeats 4000000 in
set_option maxRecDepth 100000 in
theorem k_X3_mayHold (l : Launch) (D : va_G) (ty : Nat → ClassId) (td mi sz : Nat) (pp : pT) (X : Nat → Nat) (hn : Int32) (kn : Int32) (on : Int32) (cu : Int32) (pu : Int32) (gw : Int32) (b_1 : Int32) (b_2 : Int32) (b_3 : Int32) (b_p : Int32) (su : Nat → Int64) (po : Nat → Int64) (a0 : Nat) (a1 : Int32) (hok : pOK pp) (hm_a0 : a0 ∈ pRA pp) (TT : r_k_X3_mayHold) (hTT : TT = m_k_X3_mayHold pp pu b_1 b_2 b_3 b_p su po a0 a1) : Met l yX3_mayHold vs_k_X3_mayHold { frames := 3, cells := 0, slots := 0, locals := 67 } (va_Pc [.ref (X 8), .ref a0, .int a1] (wq_P D ty td mi ((wW_k_X3_mayHold ty X hn kn on cu pu gw b_1 b_2 b_3 b_p su po) ++ pw ty pp) sz)) (va_Qi (fun (r : Int32) (u : va_W) => (r = TT ∧ (TT = 0 ∨ TT = 1) ∧ (u = ((wW_k_X3_mayHold ty X hn kn on cu pu gw b_1 b_2 b_3 b_p su po) ++ pw ty pp)))) (wq_B D (va_A ((wW_k_X3_mayHold ty X hn kn on cu pu gw b_1 b_2 b_3 b_p su po) ++ pw ty pp) sz)) (va_A ((wW_k_X3_mayHold ty X hn kn on cu pu gw b_1 b_2 b_3 b_p su po) ++ pw ty pp) sz)) 0 0 (va_A ((wW_k_X3_mayHold ty X hn kn on cu pu gw b_1 b_2 b_3 b_p su po) ++ pw ty pp) sz) := by
  refine Met.ofW (cc := cX3_mayHold) (maxL := 5) (ret := (some .boolean)) (by decide) rfl ?_
  intro p e s m args below meth c s₁ B hml hv
  obtain ⟨rfl, hsz, hP, hK, hD0, hE⟩ := hv
  have hx := B.exec
  have hb := B.bytes
  have hr := B.returns
  have hts := atoms_spec (ws := vs_k_X3_mayHold) B.pre
  have hown : s.vm.findClass RX3 = some m.cls := findClass_of_methodNamed B.named
  have hlocks := B.notSynchronized
  subst hsz
  have hD := hD0.self (sz := s.heap.size)
  generalize hAe : va_A ((wW_k_X3_mayHold ty X hn kn on cu pu gw b_1 b_2 b_3 b_p su po) ++ pw ty pp) s.heap.size = A at hD hE ⊢
  have hA : ∀ q : Nat, s.heap.size ≤ q → A q := fun q h => by rw [← hAe]; exact Or.inr h
  have hS : va_S A s.heap s.heap [] := va_S.rf
  have hP : va_P D vwCl ((wW_k_X3_mayHold ty X hn kn on cu pu gw b_1 b_2 b_3 b_p su po) ++ pw ty pp) s.heap := hP
  have hl := lv_entry ([.ref (X 8), .ref a0, .int a1]) (n := 5) (Nat.le_of_ble_eq_true rfl)
  rw [lg_entry_eq]
  generalize (lg_sl ([.ref (X 8), .ref a0, .int a1]) ++ List.replicate (5 - (lg_sl ([.ref (X 8), .ref a0, .int a1])).length) Slot.unset).toArray = ls at hl ⊢
  have hl : lv_has ls 5 [(0, .ref (X 8)), (1, .ref a0), (2, .int a1)] := hl
  have END : ∀ (r : Int32), TT = r → (r = 0 ∨ r = 1) → ∀ (H : Heap) (locs : List Loc), va_P D vwCl ((wW_k_X3_mayHold ty X hn kn on cu pu gw b_1 b_2 b_3 b_p su po) ++ pw ty pp) H → va_D A ((wW_k_X3_mayHold ty X hn kn on cu pu gw b_1 b_2 b_3 b_p su po) ++ pw ty pp) → va_S A s.heap H locs → ∀ (ls : Array Slot) (pc : Nat), decode cX3_mayHold pc = .ok (.ireturn, 1) → W p l e (headSpec vs_k_X3_mayHold { frames := 3, cells := 0, slots := 0, locals := 67 }).room s m ([.ref (X 8), .ref a0, .int a1] : List Value).toArray below meth c H locs 0 0 (MQ below (va_Qi (fun (r : Int32) (u : va_W) => (r = TT ∧ (TT = 0 ∨ TT = 1) ∧ (u = ((wW_k_X3_mayHold ty X hn kn on cu pu gw b_1 b_2 b_3 b_p su po) ++ pw ty pp)))) (wq_B D A) A) ([.ref (X 8), .ref a0, .int a1] : List Value).toArray s 0 0 A) (F0 m pc ls [.int r]) := by
    intro r hT hb01 H locs hP hD hS ls pc hd
    have hM : TT = r := hT
    exact W.zret (v := r) hx hb hr (wz_nar hb01) (fun t ht hW => ⟨⟨r, ((wW_k_X3_mayHold ty X hn kn on cu pu gw b_1 b_2 b_3 b_p su po) ++ pw ty pp), rfl, ⟨(by rw [hM]), (by rw [hM]; exact hb01), rfl⟩, wq_B.of ht hP hD⟩, hS.F ht⟩) hS.2.2 hd
  have hT := hTT
  rw [m_k_X3_mayHold] at hT
  refine lv_iconst (v := 0) hx hb dX3_mayHold_0 (by decide) ?_
  refine lv_istore_n (lv' := [(3, .int 0), (0, .ref (X 8)), (1, .ref a0), (2, .int a1)]) hx hb dX3_mayHold_1 rfl hl (by decide) rfl (fun ls hl => ?_)
  have L_2 : ∀ (n_2 : Nat) (v3_2 : Int32), (2147483648 - v3_2.toInt).toNat < n_2 → TT = m_k_X3_mayHold_2 pp pu b_1 b_2 b_3 b_p su po a0 a1 n_2 v3_2 → 0 ≤ v3_2.toInt → ∀ (H : Heap) (locs : List Loc), va_P D vwCl ((wW_k_X3_mayHold ty X hn kn on cu pu gw b_1 b_2 b_3 b_p su po) ++ pw ty pp) H → va_D A ((wW_k_X3_mayHold ty X hn kn on cu pu gw b_1 b_2 b_3 b_p su po) ++ pw ty pp) → va_S A s.heap H locs → ∀ ls : Array Slot, lv_has ls 5 [(0, .ref (X 8)), (1, .ref a0), (2, .int a1), (3, .int v3_2)] → W p l e (headSpec vs_k_X3_mayHold { frames := 3, cells := 0, slots := 0, locals := 67 }).room s m ([.ref (X 8), .ref a0, .int a1] : List Value).toArray below meth c H locs 0 0 (MQ below (va_Qi (fun (r : Int32) (u : va_W) => (r = TT ∧ (TT = 0 ∨ TT = 1) ∧ (u = ((wW_k_X3_mayHold ty X hn kn on cu pu gw b_1 b_2 b_3 b_p su po) ++ pw ty pp)))) (wq_B D A) A) ([.ref (X 8), .ref a0, .int a1] : List Value).toArray s 0 0 A) (F0 m 2 ls []) := by
    intro n_2
    induction n_2 with
    | zero => intro v3_2 hu; exact absurd hu (Nat.not_lt_zero _)
    | succ n_2 ih_2 =>
      intro v3_2 hu_2 hT hn_2 H locs hP hD hS ls hl
      rw [m_k_X3_mayHold_2_succ, m_k_X3_mayHold_2s] at hT
      refine lv_iload_n hx hb dX3_mayHold_2 rfl (lv_at hl 3 rfl) ?_
      refine lv_aload_n hx hb dX3_mayHold_3 rfl (lv_at hl 1 rfl) ?_
      obtain ⟨k_1, hk_1⟩ := List.getElem?_of_mem (pw_rule (ty := ty) (p := pp) (L := [((X 8), .inr (5, [.ref (X 1), .ref (X 9), .ref (X 10), .ref (X 12), .ref (X 14), .int hn, .ref (X 15), .ref (X 16), .ref (X 17), .int kn, .ref (X 18), .ref (X 19), .int on, .int cu, .int pu, .int gw])), ((X 9), .inr (4, [.int b_1, .int b_2, .int b_3, .int b_p])), ((X 10), .inr (3, [.ref (X 11)])), ((X 11), .inl (ty 1, 6, .inr (.inl su))), ((X 12), .inr (3, [.ref (X 13)])), ((X 13), .inl (ty 1, 6, .inr (.inl po)))]) hm_a0)
      refine va_getN (D := D) (ci := 10) (v := .int (pI pp a0 10)) (C := RX8) (T := TX8) (N := 11) hx hb hts iv_k_X3_mayHold_X8 hown hK hP k_1 hk_1 rfl 10 (by decide) (hE.at (.fieldLinkNest "AnswerFold$Grounding" 158 "AnswerFold$Rule" "conditionCount" "I" "AnswerFold") (by decide +kernel)) (fun _ h9 => h9) rfl dX3_mayHold_4 ?_
      refine lv_icmp_ge (tgt := 48) hx hb dX3_mayHold_7 (by decide) (fun c_2 => ?_) (fun c_2 => ?_)
      · rw [if_pos c_2] at hT
        refine lv_iconst (v := 1) hx hb dX3_mayHold_48 (by decide) ?_
        exact END 1 hT (by decide) _ _ hP hD hS _ _ dX3_mayHold_49
      · rw [if_neg c_2] at hT
        refine lv_aload_n hx hb dX3_mayHold_10 rfl (lv_at hl 1 rfl) ?_
        refine lv_iload_n hx hb dX3_mayHold_11 rfl (lv_at hl 3 rfl) ?_
        obtain ⟨t_12, ht_12⟩ : ∃ t, t = m_k_X8_conditionAt pp a0 v3_2 := ⟨_, rfl⟩
        rw [lE_eq ht_12] at hT
        obtain ⟨k_3, hk_3⟩ := List.getElem?_of_mem (pw_rule (ty := ty) (p := pp) (L := [((X 8), .inr (5, [.ref (X 1), .ref (X 9), .ref (X 10), .ref (X 12), .ref (X 14), .int hn, .ref (X 15), .ref (X 16), .ref (X 17), .int kn, .ref (X 18), .ref (X 19), .int on, .int cu, .int pu, .int gw])), ((X 9), .inr (4, [.int b_1, .int b_2, .int b_3, .int b_p])), ((X 10), .inr (3, [.ref (X 11)])), ((X 11), .inl (ty 1, 6, .inr (.inl su))), ((X 12), .inr (3, [.ref (X 13)])), ((X 13), .inl (ty 1, 6, .inr (.inl po)))]) hm_a0)
        refine wq_rPW (wc := []) (pl := pw ty pp) (ux := []) (va_runV (As := [.int v3_2]) (rest := []) ⟨hx, hb, hml, hown, hts⟩ (k_X8_conditionAt l D ty td mi H.size pp a0 v3_2 hok hm_a0 t_12 ht_12) (cwV 1 hts gv_k_X3_mayHold_0 rfl rfl rfl (by decide +kernel) ⟨(Nat.le_of_ble_eq_true rfl), (Nat.le_of_ble_eq_true rfl)⟩) (wm_V (wm_preSP hP hD hK hE hS hA [] rfl) (va_recv (q0 := k_3) (ci := 10) hK hP rfl hk_3)) rfl rfl hl.1 rfl (lv_room (Nat.le_of_ble_eq_true rfl)) dX3_mayHold_12 ⟨(Nat.le_of_ble_eq_true rfl), (Nat.le_of_ble_eq_true rfl)⟩) hS hA hP hD [] rfl rfl (fun _ _ h => h.2) (fun r H locs hw hP hD hS => ?_)
        obtain ⟨rfl, -⟩ := hw
        have hP : va_P D vwCl ((wW_k_X3_mayHold ty X hn kn on cu pu gw b_1 b_2 b_3 b_p su po) ++ pw ty pp) H := hP
        have hD : va_D A ((wW_k_X3_mayHold ty X hn kn on cu pu gw b_1 b_2 b_3 b_p su po) ++ pw ty pp) := hD
        refine W.widen (k := 0) (n := 0) (Nat.le_of_ble_eq_true rfl) (Nat.le_of_ble_eq_true rfl) ?_
        rcases ho_12 : t_12 with _ | o_12
        · rw [ho_12, oE_none] at hT
          refine W.eq (g2 := F0 m 15 ls [.null]) rfl ?_
          refine lv_astoreN (lv' := [(4, .null), (0, .ref (X 8)), (1, .ref a0), (2, .int a1), (3, .int v3_2)]) hx hb dX3_mayHold_15 hl (by decide) rfl (fun ls hl => ?_)
          refine lv_aloadN hx hb dX3_mayHold_17 (lv_at hl 0 rfl) ?_
          have J_42 : ∀ (_ : Unit), TT = m_k_X3_mayHold_42 (m_k_X3_mayHold_2 pp pu b_1 b_2 b_3 b_p su po a0 a1 n_2) v3_2 → ∀ (H : Heap) (locs : List Loc), va_P D vwCl ((wW_k_X3_mayHold ty X hn kn on cu pu gw b_1 b_2 b_3 b_p su po) ++ pw ty pp) H → va_D A ((wW_k_X3_mayHold ty X hn kn on cu pu gw b_1 b_2 b_3 b_p su po) ++ pw ty pp) → va_S A s.heap H locs → ∀ ls : Array Slot, lv_has ls 5 [(0, .ref (X 8)), (1, .ref a0), (2, .int a1), (3, .int v3_2)] → W p l e (headSpec vs_k_X3_mayHold { frames := 3, cells := 0, slots := 0, locals := 67 }).room s m ([.ref (X 8), .ref a0, .int a1] : List Value).toArray below meth c H locs 0 0 (MQ below (va_Qi (fun (r : Int32) (u : va_W) => (r = TT ∧ (TT = 0 ∨ TT = 1) ∧ (u = ((wW_k_X3_mayHold ty X hn kn on cu pu gw b_1 b_2 b_3 b_p su po) ++ pw ty pp)))) (wq_B D A) A) ([.ref (X 8), .ref a0, .int a1] : List Value).toArray s 0 0 A) (F0 m 42 ls []) := by
            intro _ hT  H locs hP hD hS ls hl
            rw [m_k_X3_mayHold_42] at hT
            refine lv_iinc (v := v3_2 + 1) (lv' := [(3, .int (v3_2 + 1)), (0, .ref (X 8)), (1, .ref a0), (2, .int a1)]) hx hb dX3_mayHold_42 hl (k := 3) rfl (by rfl) (by decide) rfl (fun ls hl => ?_)
            refine lv_goto (tgt := 2) hx hb dX3_mayHold_45 (by decide) ?_
            exact ih_2 (v3_2 + 1) (wi_up hu_2 (Int32.not_le.mp c_2)) hT (wi_inc hn_2 (Int32.not_le.mp c_2)) _ _ hP hD hS _ (lv_sub hl [1, 2, 3, 0] rfl)
          refine lv_ifnullN (tgt := 42) hx hb dX3_mayHold_19 (by decide) ?_
          exact J_42 () hT _ _ hP hD hS _ (lv_sub hl [1, 2, 3, 4] rfl)
        · rw [ho_12, oE_some] at hT
          refine W.eq (g2 := F0 m 15 ls [.ref o_12]) rfl ?_
          refine lv_astore (lv' := [(4, .ref o_12), (0, .ref (X 8)), (1, .ref a0), (2, .int a1), (3, .int v3_2)]) hx hb dX3_mayHold_15 hl (by decide) rfl (fun ls hl => ?_)
          refine lv_aload hx hb dX3_mayHold_17 (lv_at hl 0 rfl) ?_
          have J_42 : ∀ (_ : Unit), TT = m_k_X3_mayHold_42 (m_k_X3_mayHold_2 pp pu b_1 b_2 b_3 b_p su po a0 a1 n_2) v3_2 → ∀ (H : Heap) (locs : List Loc), va_P D vwCl ((wW_k_X3_mayHold ty X hn kn on cu pu gw b_1 b_2 b_3 b_p su po) ++ pw ty pp) H → va_D A ((wW_k_X3_mayHold ty X hn kn on cu pu gw b_1 b_2 b_3 b_p su po) ++ pw ty pp) → va_S A s.heap H locs → ∀ ls : Array Slot, lv_has ls 5 [(0, .ref (X 8)), (1, .ref a0), (2, .int a1), (3, .int v3_2)] → W p l e (headSpec vs_k_X3_mayHold { frames := 3, cells := 0, slots := 0, locals := 67 }).room s m ([.ref (X 8), .ref a0, .int a1] : List Value).toArray below meth c H locs 0 0 (MQ below (va_Qi (fun (r : Int32) (u : va_W) => (r = TT ∧ (TT = 0 ∨ TT = 1) ∧ (u = ((wW_k_X3_mayHold ty X hn kn on cu pu gw b_1 b_2 b_3 b_p su po) ++ pw ty pp)))) (wq_B D A) A) ([.ref (X 8), .ref a0, .int a1] : List Value).toArray s 0 0 A) (F0 m 42 ls []) := by
            intro _ hT  H locs hP hD hS ls hl
            rw [m_k_X3_mayHold_42] at hT
            refine lv_iinc (v := v3_2 + 1) (lv' := [(3, .int (v3_2 + 1)), (0, .ref (X 8)), (1, .ref a0), (2, .int a1)]) hx hb dX3_mayHold_42 hl (k := 3) rfl (by rfl) (by decide) rfl (fun ls hl => ?_)
            refine lv_goto (tgt := 2) hx hb dX3_mayHold_45 (by decide) ?_
            exact ih_2 (v3_2 + 1) (wi_up hu_2 (Int32.not_le.mp c_2)) hT (wi_inc hn_2 (Int32.not_le.mp c_2)) _ _ hP hD hS _ (lv_sub hl [1, 2, 3, 0] rfl)
          refine lv_ifnull hx hb dX3_mayHold_19 ?_
          refine lv_aload hx hb dX3_mayHold_22 (lv_at hl 0 rfl) ?_
          obtain ⟨k_6, hk_6⟩ := List.getElem?_of_mem (pw_lit (ty := ty) (p := pp) (L := [((X 8), .inr (5, [.ref (X 1), .ref (X 9), .ref (X 10), .ref (X 12), .ref (X 14), .int hn, .ref (X 15), .ref (X 16), .ref (X 17), .int kn, .ref (X 18), .ref (X 19), .int on, .int cu, .int pu, .int gw])), ((X 9), .inr (4, [.int b_1, .int b_2, .int b_3, .int b_p])), ((X 10), .inr (3, [.ref (X 11)])), ((X 11), .inl (ty 1, 6, .inr (.inl su))), ((X 12), .inr (3, [.ref (X 13)])), ((X 13), .inl (ty 1, 6, .inr (.inl po)))]) (mm_k_X8_conditionAt pp a0 v3_2 hok hm_a0 _ (by rw [← ht_12]; exact ho_12)))
          refine va_getN (D := D) (ci := 6) (v := .int (pI pp o_12 7)) (C := RX4) (T := TX4) (N := 8) hx hb hts iv_k_X3_mayHold_X4 hown hK hP k_6 hk_6 rfl 7 (by decide) (hE.at (.fieldLinkNest "AnswerFold$Grounding" 165 "AnswerFold$Literal" "depth" "I" "AnswerFold") (by decide +kernel)) (fun _ h9 => h9) rfl dX3_mayHold_24 ?_
          refine lv_iload_n hx hb dX3_mayHold_27 rfl (lv_at hl 3 rfl) ?_
          refine lv_icmp_ne (tgt := 42) hx hb dX3_mayHold_28 (by decide) (fun c_7 => ?_) (fun c_7 => ?_)
          · rw [if_neg c_7] at hT
            exact J_42 () hT _ _ hP hD hS _ (lv_sub hl [1, 2, 3, 4] rfl)
          · rw [if_pos c_7] at hT
            refine lv_aload_n hx hb dX3_mayHold_31 rfl (lv_at hl 1 rfl) ?_
            refine lv_aload hx hb dX3_mayHold_32 (lv_at hl 0 rfl) ?_
            obtain ⟨t_34, ht_34⟩ : ∃ t, t = m_k_X3_mayHoldOne pp pu b_1 b_2 b_3 b_p su po o_12 := ⟨_, rfl⟩
            rw [lE_eq ht_34] at hT
            refine wq_iPW (wc := (wW_k_X3_mayHoldOne ty X hn kn on cu pu gw b_1 b_2 b_3 b_p su po)) (pl := pw ty pp) (ux := (wW_k_X3_mayHoldOne ty X hn kn on cu pu gw b_1 b_2 b_3 b_p su po)) (va_runV (As := [.ref o_12]) (rest := []) ⟨hx, hb, hml, hown, hts⟩ (k_X3_mayHoldOne l D ty td mi H.size pp X hn kn on cu pu gw b_1 b_2 b_3 b_p su po o_12 hok (mm_k_X8_conditionAt pp a0 v3_2 hok hm_a0 _ (by rw [← ht_12]; exact ho_12)) t_34 ht_34) (cwV 1 hts gv_k_X3_mayHold_1 rfl rfl rfl (by decide +kernel) ⟨(Nat.le_of_ble_eq_true rfl), (Nat.le_of_ble_eq_true rfl)⟩) (wm_V (wm_preSP hP hD hK hE hS hA [true, true, true, true, true, true] rfl) (va_recv (q0 := 0) (ci := 5) hK hP rfl rfl)) rfl rfl hl.1 rfl (lv_room (Nat.le_of_ble_eq_true rfl)) dX3_mayHold_34 ⟨(Nat.le_of_ble_eq_true rfl), (Nat.le_of_ble_eq_true rfl)⟩) hS hA hP hD [true, true, true, true, true, true] rfl rfl (fun _ _ h => h.2.2) (fun r H locs hw hP hD hS => ?_)
            obtain ⟨hr0, c_10, -⟩ := hw
            subst r
            have hP : va_P D vwCl ((wW_k_X3_mayHold ty X hn kn on cu pu gw b_1 b_2 b_3 b_p su po) ++ pw ty pp) H := hP
            have hD : va_D A ((wW_k_X3_mayHold ty X hn kn on cu pu gw b_1 b_2 b_3 b_p su po) ++ pw ty pp) := hD
            refine W.widen (k := 0) (n := 0) (Nat.le_of_ble_eq_true rfl) (Nat.le_of_ble_eq_true rfl) ?_
            refine lv_if_ne (tgt := 42) hx hb dX3_mayHold_37 (by decide) (fun c_11 => ?_) (fun c_11 => ?_)
            · rw [if_neg c_11] at hT
              exact J_42 () hT _ _ hP hD hS _ (lv_sub hl [1, 2, 3, 4] rfl)
            · rw [if_pos c_11] at hT
              refine lv_iconst (v := 0) hx hb dX3_mayHold_40 (by decide) ?_
              exact END 0 hT (by decide) _ _ hP hD hS _ _ dX3_mayHold_41
  exact L_2 wF 0 (wF_up 0) hT (by decide) _ _ hP hD hS _ (lv_sub hl [1, 2, 3, 0] rfl)
theorem dX3_takeInstance_0 : decode cX3_takeInstance 0 = .ok (.aload_n 0, 1) := by decide +kernel
theorem dX3_takeInstance_1 : decode cX3_takeInstance 1 = .ok (.getfield 12, 3) := by decide +kernel
theorem dX3_takeInstance_4 : decode cX3_takeInstance 4 = .ok (.invokevirtual 185, 3) := by decide +kernel
theorem dX3_takeInstance_7 : decode cX3_takeInstance 7 = .ok (.istore_n 3, 1) := by decide +kernel
theorem dX3_takeInstance_8 : decode cX3_takeInstance 8 = .ok (.aload_n 0, 1) := by decide +kernel
theorem dX3_takeInstance_9 : decode cX3_takeInstance 9 = .ok (.aload_n 1, 1) := by decide +kernel
theorem dX3_takeInstance_10 : decode cX3_takeInstance 10 = .ok (.invokevirtual 188, 3) := by decide +kernel
theorem dX3_takeInstance_13 : decode cX3_takeInstance 13 = .ok (.ifCond .ne 4, 3) := by decide +kernel
theorem dX3_takeInstance_16 : decode cX3_takeInstance 16 = .ok (.return_, 1) := by decide +kernel
theorem dX3_takeInstance_17 : decode cX3_takeInstance 17 = .ok (.aload_n 0, 1) := by decide +kernel
theorem dX3_takeInstance_18 : decode cX3_takeInstance 18 = .ok (.getfield 61, 3) := by decide +kernel
theorem dX3_takeInstance_21 : decode cX3_takeInstance 21 = .ok (.iconst 2, 1) := by decide +kernel
theorem dX3_takeInstance_22 : decode cX3_takeInstance 22 = .ok (.if_icmp .ne 10, 3) := by decide +kernel
theorem dX3_takeInstance_25 : decode cX3_takeInstance 25 = .ok (.aload_n 0, 1) := by decide +kernel
theorem dX3_takeInstance_26 : decode cX3_takeInstance 26 = .ok (.iload_n 2, 1) := by decide +kernel
theorem dX3_takeInstance_27 : decode cX3_takeInstance 27 = .ok (.iload_n 3, 1) := by decide +kernel
theorem dX3_takeInstance_28 : decode cX3_takeInstance 28 = .ok (.invokevirtual 192, 3) := by decide +kernel
theorem dX3_takeInstance_31 : decode cX3_takeInstance 31 = .ok (.return_, 1) := by decide +kernel
theorem dX3_takeInstance_32 : decode cX3_takeInstance 32 = .ok (.aload_n 0, 1) := by decide +kernel
theorem dX3_takeInstance_33 : decode cX3_takeInstance 33 = .ok (.getfield 61, 3) := by decide +kernel
theorem dX3_takeInstance_36 : decode cX3_takeInstance 36 = .ok (.ifCond .ne 10, 3) := by decide +kernel
theorem dX3_takeInstance_39 : decode cX3_takeInstance 39 = .ok (.aload_n 0, 1) := by decide +kernel
theorem dX3_takeInstance_40 : decode cX3_takeInstance 40 = .ok (.getfield 21, 3) := by decide +kernel
theorem dX3_takeInstance_43 : decode cX3_takeInstance 43 = .ok (.goto 7, 3) := by decide +kernel
theorem dX3_takeInstance_46 : decode cX3_takeInstance 46 = .ok (.aload_n 0, 1) := by decide +kernel
theorem dX3_takeInstance_47 : decode cX3_takeInstance 47 = .ok (.getfield 25, 3) := by decide +kernel
theorem dX3_takeInstance_50 : decode cX3_takeInstance 50 = .ok (.astore 4, 2) := by decide +kernel
theorem dX3_takeInstance_52 : decode cX3_takeInstance 52 = .ok (.iconst 0, 1) := by decide +kernel
theorem dX3_takeInstance_53 : decode cX3_takeInstance 53 = .ok (.istore 5, 2) := by decide +kernel
theorem dX3_takeInstance_55 : decode cX3_takeInstance 55 = .ok (.iload 5, 2) := by decide +kernel
theorem dX3_takeInstance_57 : decode cX3_takeInstance 57 = .ok (.aload_n 0, 1) := by decide +kernel
theorem dX3_takeInstance_58 : decode cX3_takeInstance 58 = .ok (.getfield 196, 3) := by decide +kernel
theorem dX3_takeInstance_61 : decode cX3_takeInstance 61 = .ok (.if_icmp .ge 43, 3) := by decide +kernel
theorem dX3_takeInstance_64 : decode cX3_takeInstance 64 = .ok (.aload_n 0, 1) := by decide +kernel
theorem dX3_takeInstance_65 : decode cX3_takeInstance 65 = .ok (.iload 5, 2) := by decide +kernel
theorem dX3_takeInstance_67 : decode cX3_takeInstance 67 = .ok (.invokevirtual 199, 3) := by decide +kernel
theorem dX3_takeInstance_70 : decode cX3_takeInstance 70 = .ok (.istore 6, 2) := by decide +kernel
theorem dX3_takeInstance_72 : decode cX3_takeInstance 72 = .ok (.aload 4, 2) := by decide +kernel
theorem dX3_takeInstance_74 : decode cX3_takeInstance 74 = .ok (.iload 6, 2) := by decide +kernel
theorem dX3_takeInstance_76 : decode cX3_takeInstance 76 = .ok (.invokevirtual 87, 3) := by decide +kernel
theorem dX3_takeInstance_79 : decode cX3_takeInstance 79 = .ok (.ifCond .eq 19, 3) := by decide +kernel
theorem dX3_takeInstance_82 : decode cX3_takeInstance 82 = .ok (.aload_n 0, 1) := by decide +kernel
theorem dX3_takeInstance_83 : decode cX3_takeInstance 83 = .ok (.dup, 1) := by decide +kernel
theorem dX3_takeInstance_84 : decode cX3_takeInstance 84 = .ok (.getfield 101, 3) := by decide +kernel
theorem dX3_takeInstance_87 : decode cX3_takeInstance 87 = .ok (.iconst 1, 1) := by decide +kernel
theorem dX3_takeInstance_88 : decode cX3_takeInstance 88 = .ok (.iload 6, 2) := by decide +kernel
theorem dX3_takeInstance_90 : decode cX3_takeInstance 90 = .ok (.bipush 64, 2) := by decide +kernel
theorem dX3_takeInstance_92 : decode cX3_takeInstance 92 = .ok (.idiv, 1) := by decide +kernel
theorem dX3_takeInstance_93 : decode cX3_takeInstance 93 = .ok (.ishl, 1) := by decide +kernel
theorem dX3_takeInstance_94 : decode cX3_takeInstance 94 = .ok (.ior, 1) := by decide +kernel
theorem dX3_takeInstance_95 : decode cX3_takeInstance 95 = .ok (.putfield 101, 3) := by decide +kernel
theorem dX3_takeInstance_98 : decode cX3_takeInstance 98 = .ok (.iinc 5 1, 3) := by decide +kernel
theorem dX3_takeInstance_101 : decode cX3_takeInstance 101 = .ok (.goto (-46), 3) := by decide +kernel
theorem dX3_takeInstance_104 : decode cX3_takeInstance 104 = .ok (.return_, 1) := by decide +kernel
def wW_k_X3_takeInstance (ty : Nat → ClassId) (X : Nat → Nat) (z9_0 : Int32) (z9_1 : Int32) (z9_2 : Int32) (z9_3 : Int32) (z9_4 : Int32) (z9_5 : Int32) (z9_6 : Int32) (z9_7 : Int32) (z9_8 : Int32) (z9_9 : Int32) (z9_10 : Nat → Int64) (z9_11 : Nat → Int64) (z9_12 : Nat → Int32) (z9_13 : Nat → Int32) (z9_14 : Nat → Int32) (z9_15 : Nat → Int32) : va_W := [((X 8), .inr (5, [.ref (X 1), .ref (X 9), .ref (X 10), .ref (X 12), .ref (X 14), .int z9_0, .ref (X 15), .ref (X 16), .ref (X 17), .int z9_1, .ref (X 18), .ref (X 19), .int z9_2, .int z9_3, .int z9_4, .int z9_5])), ((X 9), .inr (4, [.int z9_6, .int z9_7, .int z9_8, .int z9_9])), ((X 10), .inr (3, [.ref (X 11)])), ((X 11), .inl (ty 1, 6, .inr (.inl z9_10))), ((X 12), .inr (3, [.ref (X 13)])), ((X 13), .inl (ty 1, 6, .inr (.inl z9_11))), ((X 14), .inl (ty 0, 16, .inl z9_12)), ((X 15), .inl (ty 0, 300, .inl z9_13)), ((X 16), .inl (ty 0, 300, .inl z9_14)), ((X 17), .inl (ty 0, 20, .inl z9_15))]
def vs_k_X3_takeInstance : List Cond := .code yX3_takeInstance cX3_takeInstance 7 none :: ([.fieldLink RX3 12 "AnswerFold$Grounding" "binding" "LAnswerFold$Binding;", .methodLink RX3 185 yX2_packed, .instanceMethod yX2_packed, .selects RX2 yX2_packed yX2_packed, .initialized RX2, .methodLink RX3 188 yX3_listHeads, .instanceMethod yX3_listHeads, .selects RX3 yX3_listHeads yX3_listHeads, .initialized RX3, .fieldLink RX3 61 "AnswerFold$Grounding" "purpose" "I", .fieldLink RX3 196 "AnswerFold$Grounding" "headCount" "I", .methodLink RX3 199 yX3_headAtomAt, .instanceMethod yX3_headAtomAt, .selects RX3 yX3_headAtomAt yX3_headAtomAt, .methodLink RX3 87 yX1_add, .instanceMethod yX1_add, .selects RX1 yX1_add yX1_add, .initialized RX1, .fieldLink RX3 101 "AnswerFold$Grounding" "grown" "I", .fieldLink RX3 25 "AnswerFold$Grounding" "possible" "LAnswerFold$AtomSet;", .fieldLink RX3 21 "AnswerFold$Grounding" "sure" "LAnswerFold$AtomSet;", .methodLink RX3 192 yX3_keep, .instanceMethod yX3_keep, .selects RX3 yX3_keep yX3_keep] ++ (u_ws RX3 TX3 16 ++ (vs_k_X2_packed ++ (vs_k_X3_listHeads ++ (vs_k_X3_headAtomAt ++ (vs_k_X1_add ++ (vs_k_X3_keep)))))))
theorem iv_k_X3_takeInstance_X3 : ∀ w ∈ u_ws RX3 TX3 16, w ∈ vs_k_X3_takeInstance := (fun _ h => List.mem_cons_of_mem _ (List.mem_append_right _ (List.mem_append_left _ h)))
set_option maxRecDepth 20000 in
theorem gv_k_X3_takeInstance_0 : GoodIn vs_k_X3_takeInstance (wsV RX3 185 RX2 yX2_packed vs_k_X2_packed) := goodIn_app (goodIn_sub (by decide +kernel) (by decide +kernel)) (goodIn_sub (fun _ h => List.mem_cons_of_mem _ (List.mem_append_right _ (List.mem_append_right _ (List.mem_append_left _ h)))) (by decide +kernel))
set_option maxRecDepth 20000 in
theorem gv_k_X3_takeInstance_1 : GoodIn vs_k_X3_takeInstance (wsV RX3 188 RX3 yX3_listHeads vs_k_X3_listHeads) := goodIn_app (goodIn_sub (by decide +kernel) (by decide +kernel)) (goodIn_sub (fun _ h => List.mem_cons_of_mem _ (List.mem_append_right _ (List.mem_append_right _ (List.mem_append_right _ (List.mem_append_left _ h))))) (by decide +kernel))
set_option maxRecDepth 20000 in
theorem gv_k_X3_takeInstance_2 : GoodIn vs_k_X3_takeInstance (wsV RX3 199 RX3 yX3_headAtomAt vs_k_X3_headAtomAt) := goodIn_app (goodIn_sub (by decide +kernel) (by decide +kernel)) (goodIn_sub (fun _ h => List.mem_cons_of_mem _ (List.mem_append_right _ (List.mem_append_right _ (List.mem_append_right _ (List.mem_append_right _ (List.mem_append_left _ h)))))) (by decide +kernel))
set_option maxRecDepth 20000 in
theorem gv_k_X3_takeInstance_3 : GoodIn vs_k_X3_takeInstance (wsV RX3 87 RX1 yX1_add vs_k_X1_add) := goodIn_app (goodIn_sub (by decide +kernel) (by decide +kernel)) (goodIn_sub (fun _ h => List.mem_cons_of_mem _ (List.mem_append_right _ (List.mem_append_right _ (List.mem_append_right _ (List.mem_append_right _ (List.mem_append_right _ (List.mem_append_left _ h))))))) (by decide +kernel))
set_option maxRecDepth 20000 in
theorem gv_k_X3_takeInstance_4 : GoodIn vs_k_X3_takeInstance (wsV RX3 199 RX3 yX3_headAtomAt vs_k_X3_headAtomAt) := goodIn_app (goodIn_sub (by decide +kernel) (by decide +kernel)) (goodIn_sub (fun _ h => List.mem_cons_of_mem _ (List.mem_append_right _ (List.mem_append_right _ (List.mem_append_right _ (List.mem_append_right _ (List.mem_append_left _ h)))))) (by decide +kernel))
set_option maxRecDepth 20000 in
theorem gv_k_X3_takeInstance_5 : GoodIn vs_k_X3_takeInstance (wsV RX3 87 RX1 yX1_add vs_k_X1_add) := goodIn_app (goodIn_sub (by decide +kernel) (by decide +kernel)) (goodIn_sub (fun _ h => List.mem_cons_of_mem _ (List.mem_append_right _ (List.mem_append_right _ (List.mem_append_right _ (List.mem_append_right _ (List.mem_append_right _ (List.mem_append_left _ h))))))) (by decide +kernel))
set_option maxRecDepth 20000 in
theorem gv_k_X3_takeInstance_6 : GoodIn vs_k_X3_takeInstance (wsV RX3 192 RX3 yX3_keep vs_k_X3_keep) := goodIn_app (goodIn_sub (by decide +kernel) (by decide +kernel)) (goodIn_sub (fun _ h => List.mem_cons_of_mem _ (List.mem_append_right _ (List.mem_append_right _ (List.mem_append_right _ (List.mem_append_right _ (List.mem_append_right _ (List.mem_append_right _ (h)))))))) (by decide +kernel))
set_option maxHeartbeats 4000000 in
set_option maxRecDepth 100000 in
theorem k_X3_takeInstance (l : Launch) (D : va_G) (ty : Nat → ClassId) (td mi sz : Nat) (pp : pT) (X : Nat → Nat) (hn : Int32) (kn : Int32) (on : Int32) (cu : Int32) (pu : Int32) (gw : Int32) (b_1 : Int32) (b_2 : Int32) (b_3 : Int32) (b_p : Int32) (su : Nat → Int64) (po : Nat → Int64) (hds : Nat → Int32) (kr : Nat → Int32) (kv : Nat → Int32) (kb : Nat → Int32) (a0 : Nat) (a1 : Int32) (hok : pOK pp) (hm_a0 : a0 ∈ pRA pp) (TT : r_k_X3_takeInstance) (hTT : TT = m_k_X3_takeInstance pp kn pu gw b_1 b_2 b_3 b_p su po hds kr kv kb a0 a1) : Met l yX3_takeInstance vs_k_X3_takeInstance { frames := 3, cells := 0, slots := 0, locals := 71 } (va_Pc [.ref (X 8), .ref a0, .int a1] (wq_P D ty td mi ((wW_k_X3_takeInstance ty X hn kn on cu pu gw b_1 b_2 b_3 b_p su po hds kr kv kb) ++ pw ty pp) sz)) (va_Qv (fun u : va_W => ((u = ((wW_k_X3_takeInstance ty X TT.2.2.2.2.2.2.2.1 TT.2.2.2.2.2.2.2.2.1 on cu pu TT.2.2.2.2.2.2.1 b_1 b_2 TT.2.2.2.2.2.2.2.2.2 b_p TT.1 TT.2.1 TT.2.2.1 TT.2.2.2.1 TT.2.2.2.2.1 TT.2.2.2.2.2.1) ++ pw ty pp)))) (wq_B D (va_A ((wW_k_X3_takeInstance ty X hn kn on cu pu gw b_1 b_2 b_3 b_p su po hds kr kv kb) ++ pw ty pp) sz)) (va_A ((wW_k_X3_takeInstance ty X hn kn on cu pu gw b_1 b_2 b_3 b_p su po hds kr kv kb) ++ pw ty pp) sz)) 0 0 (va_A ((wW_k_X3_takeInstance ty X hn kn on cu pu gw b_1 b_2 b_3 b_p su po hds kr kv kb) ++ pw ty pp) sz) := by
  refine Met.ofW (cc := cX3_takeInstance) (maxL := 7) (ret := none) (by decide) rfl ?_
  intro p e s m args below meth c s₁ B hml hv
  obtain ⟨rfl, hsz, hP, hK, hD0, hE⟩ := hv
  have hx := B.exec
  have hb := B.bytes
  have hr := B.returns
  have hts := atoms_spec (ws := vs_k_X3_takeInstance) B.pre
  have hown : s.vm.findClass RX3 = some m.cls := findClass_of_methodNamed B.named
  have hlocks := B.notSynchronized
  subst hsz
  have hD := hD0.self (sz := s.heap.size)
  generalize hAe : va_A ((wW_k_X3_takeInstance ty X hn kn on cu pu gw b_1 b_2 b_3 b_p su po hds kr kv kb) ++ pw ty pp) s.heap.size = A at hD hE ⊢
  have hA : ∀ q : Nat, s.heap.size ≤ q → A q := fun q h => by rw [← hAe]; exact Or.inr h
  have hS : va_S A s.heap s.heap [] := va_S.rf
  have hP : va_P D vwCl ((wW_k_X3_takeInstance ty X hn kn on cu pu gw b_1 b_2 b_3 b_p su po hds kr kv kb) ++ pw ty pp) s.heap := hP
  have hl := lv_entry ([.ref (X 8), .ref a0, .int a1]) (n := 7) (Nat.le_of_ble_eq_true rfl)
  rw [lg_entry_eq]
  generalize (lg_sl ([.ref (X 8), .ref a0, .int a1]) ++ List.replicate (7 - (lg_sl ([.ref (X 8), .ref a0, .int a1])).length) Slot.unset).toArray = ls at hl ⊢
  have hl : lv_has ls 7 [(0, .ref (X 8)), (1, .ref a0), (2, .int a1)] := hl
  have END : ∀ (w9_0 : Nat → Int64) (w9_1 : Nat → Int64) (w9_2 : Nat → Int32) (w9_3 : Nat → Int32) (w9_4 : Nat → Int32) (w9_5 : Nat → Int32) (w9_6 : Int32) (w9_7 : Int32) (w9_8 : Int32) (w9_9 : Int32), TT = (w9_0, w9_1, w9_2, w9_3, w9_4, w9_5, w9_6, w9_7, w9_8, w9_9) → ∀ (H : Heap) (locs : List Loc), va_P D vwCl ((wW_k_X3_takeInstance ty X w9_7 w9_8 on cu pu w9_6 b_1 b_2 w9_9 b_p w9_0 w9_1 w9_2 w9_3 w9_4 w9_5) ++ pw ty pp) H → va_D A ((wW_k_X3_takeInstance ty X w9_7 w9_8 on cu pu w9_6 b_1 b_2 w9_9 b_p w9_0 w9_1 w9_2 w9_3 w9_4 w9_5) ++ pw ty pp) → va_S A s.heap H locs → ∀ (ls : Array Slot) (pc : Nat), decode cX3_takeInstance pc = .ok (.return_, 1) → W p l e (headSpec vs_k_X3_takeInstance { frames := 3, cells := 0, slots := 0, locals := 71 }).room s m ([.ref (X 8), .ref a0, .int a1] : List Value).toArray below meth c H locs 0 0 (MQ below (va_Qv (fun u : va_W => ((u = ((wW_k_X3_takeInstance ty X TT.2.2.2.2.2.2.2.1 TT.2.2.2.2.2.2.2.2.1 on cu pu TT.2.2.2.2.2.2.1 b_1 b_2 TT.2.2.2.2.2.2.2.2.2 b_p TT.1 TT.2.1 TT.2.2.1 TT.2.2.2.1 TT.2.2.2.2.1 TT.2.2.2.2.2.1) ++ pw ty pp)))) (wq_B D A) A) ([.ref (X 8), .ref a0, .int a1] : List Value).toArray s 0 0 A) (F0 m pc ls []) := by
    intro w9_0 w9_1 w9_2 w9_3 w9_4 w9_5 w9_6 w9_7 w9_8 w9_9 hT H locs hP hD hS ls pc hd
    have hM : TT = (w9_0, w9_1, w9_2, w9_3, w9_4, w9_5, w9_6, w9_7, w9_8, w9_9) := hT
    exact W.vret hx hb hr (fun t ht hW => ⟨⟨((wW_k_X3_takeInstance ty X w9_7 w9_8 on cu pu w9_6 b_1 b_2 w9_9 b_p w9_0 w9_1 w9_2 w9_3 w9_4 w9_5) ++ pw ty pp), rfl, (by rw [hM]), wq_B.of ht hP hD⟩, hS.F ht⟩) hS.2.2 hd
  have hT := hTT
  rw [m_k_X3_takeInstance] at hT
  refine lv_aload_n hx hb dX3_takeInstance_0 rfl (lv_at hl 0 rfl) ?_
  refine va_get (D := D) (ci := 5) (v := .ref (X 9)) (C := RX3) (T := TX3) (N := 16) hx hb hts iv_k_X3_takeInstance_X3 hown hK hP 0 rfl rfl 1 (by decide) (hts (.fieldLink RX3 12 "AnswerFold$Grounding" "binding" "LAnswerFold$Binding;") (by decide +kernel)) (fun _ h9 => h9) rfl dX3_takeInstance_1 ?_
  obtain ⟨t_4, ht_4⟩ : ∃ t, t = m_k_X2_packed b_1 b_2 b_3 b_p := ⟨_, rfl⟩
  rw [lE_eq ht_4] at hT
  refine wq_iQW (wc := (wW_k_X2_packed ty X b_1 b_2 b_3 b_p)) (pl := pw ty pp) (va_runV (As := []) (rest := []) ⟨hx, hb, hml, hown, hts⟩ (k_X2_packed l D ty td mi s.heap.size X b_1 b_2 b_3 b_p t_4 ht_4) (cwV 0 hts gv_k_X3_takeInstance_0 rfl rfl rfl (by decide +kernel) ⟨(Nat.le_of_ble_eq_true rfl), (Nat.le_of_ble_eq_true rfl)⟩) (wm_V (wm_preS (vP_left hP) (vD_left hD) hK hE hS hA [false, true] rfl) (va_recv (q0 := 1) (ci := 4) hK hP rfl rfl)) rfl rfl hl.1 rfl (lv_room (Nat.le_of_ble_eq_true rfl)) dX3_takeInstance_4 ⟨(Nat.le_of_ble_eq_true rfl), (Nat.le_of_ble_eq_true rfl)⟩) hS hA hP hD [false, true] rfl (fun _ _ h => by rcases h with ⟨-, rfl⟩; rfl) (fun r u H locs hw hP hD hS => ?_)
  obtain ⟨hr0, rfl⟩ := hw
  subst r
  have hP : va_P D vwCl ((wW_k_X3_takeInstance ty X hn kn on cu pu gw b_1 b_2 b_3 b_p su po hds kr kv kb) ++ pw ty pp) H := hP
  have hD : va_D A ((wW_k_X3_takeInstance ty X hn kn on cu pu gw b_1 b_2 b_3 b_p su po hds kr kv kb) ++ pw ty pp) := hD
  refine W.widen (k := 0) (n := 0) (Nat.le_of_ble_eq_true rfl) (Nat.le_of_ble_eq_true rfl) ?_
  refine lv_istore_n (lv' := [(3, .int t_4), (0, .ref (X 8)), (1, .ref a0), (2, .int a1)]) hx hb dX3_takeInstance_7 rfl hl (by decide) rfl (fun ls hl => ?_)
  refine lv_aload_n hx hb dX3_takeInstance_8 rfl (lv_at hl 1 rfl) ?_
  refine lv_aload_n hx hb dX3_takeInstance_9 rfl (lv_at hl 2 rfl) ?_
  obtain ⟨t_10, ht_10⟩ : ∃ t, t = m_k_X3_listHeads pp b_1 b_2 b_3 b_p su hds a0 := ⟨_, rfl⟩
  rw [lE_eq ht_10] at hT
  refine wq_iPW (wc := (wW_k_X3_listHeads ty X hn kn on cu pu gw b_1 b_2 b_3 b_p su hds)) (pl := pw ty pp) (ux := (wW_k_X3_listHeads ty X t_10.2.2.1 kn on cu pu gw b_1 b_2 t_10.2.2.2 b_p su t_10.2.1)) (va_runV (As := [.ref a0]) (rest := []) ⟨hx, hb, hml, hown, hts⟩ (k_X3_listHeads l D ty td mi H.size pp X hn kn on cu pu gw b_1 b_2 b_3 b_p su hds a0 hok hm_a0 t_10 ht_10) (cwV 1 hts gv_k_X3_takeInstance_1 rfl rfl rfl (by decide +kernel) ⟨(Nat.le_of_ble_eq_true rfl), (Nat.le_of_ble_eq_true rfl)⟩) (wm_V (wm_preSP hP hD hK hE hS hA [true, true, true, true, false, false, true] rfl) (va_recv (q0 := 0) (ci := 5) hK hP rfl rfl)) rfl rfl hl.1 rfl (lv_room (Nat.le_of_ble_eq_true rfl)) dX3_takeInstance_10 ⟨(Nat.le_of_ble_eq_true rfl), (Nat.le_of_ble_eq_true rfl)⟩) hS hA hP hD [true, true, true, true, false, false, true] rfl rfl (fun _ _ h => h.2.2) (fun r H locs hw hP hD hS => ?_)
  obtain ⟨rfl, c_5, -⟩ := hw
  have hP : va_P D vwCl ((wW_k_X3_takeInstance ty X t_10.2.2.1 kn on cu pu gw b_1 b_2 t_10.2.2.2 b_p su po t_10.2.1 kr kv kb) ++ pw ty pp) H := hP
  have hD : va_D A ((wW_k_X3_takeInstance ty X t_10.2.2.1 kn on cu pu gw b_1 b_2 t_10.2.2.2 b_p su po t_10.2.1 kr kv kb) ++ pw ty pp) := hD
  refine W.widen (k := 0) (n := 0) (Nat.le_of_ble_eq_true rfl) (Nat.le_of_ble_eq_true rfl) ?_
  refine lv_if_ne (tgt := 17) hx hb dX3_takeInstance_13 (by decide) (fun c_6 => ?_) (fun c_6 => ?_)
  · rw [if_neg c_6] at hT
    refine lv_aload_n hx hb dX3_takeInstance_17 rfl (lv_at hl 1 rfl) ?_
    refine va_get (D := D) (ci := 5) (v := .int pu) (C := RX3) (T := TX3) (N := 16) hx hb hts iv_k_X3_takeInstance_X3 hown hK hP 0 rfl rfl 14 (by decide) (hts (.fieldLink RX3 61 "AnswerFold$Grounding" "purpose" "I") (by decide +kernel)) (fun _ h9 => h9) rfl dX3_takeInstance_18 ?_
    refine lv_iconst (v := 2) hx hb dX3_takeInstance_21 (by decide) ?_
    refine lv_icmp_ne (tgt := 32) hx hb dX3_takeInstance_22 (by decide) (fun c_7 => ?_) (fun c_7 => ?_)
    · rw [if_neg c_7] at hT
      refine lv_aload_n hx hb dX3_takeInstance_32 rfl (lv_at hl 1 rfl) ?_
      refine va_get (D := D) (ci := 5) (v := .int pu) (C := RX3) (T := TX3) (N := 16) hx hb hts iv_k_X3_takeInstance_X3 hown hK hP 0 rfl rfl 14 (by decide) (hts (.fieldLink RX3 61 "AnswerFold$Grounding" "purpose" "I") (by decide +kernel)) (fun _ h9 => h9) rfl dX3_takeInstance_33 ?_
      have J_50 : ∀ (_ : Unit), TT = m_k_X3_takeInstance_50 kn gw su po kr kv kb t_10 → ∀ (H : Heap) (locs : List Loc), va_P D vwCl ((wW_k_X3_takeInstance ty X t_10.2.2.1 kn on cu pu gw b_1 b_2 t_10.2.2.2 b_p su po t_10.2.1 kr kv kb) ++ pw ty pp) H → va_D A ((wW_k_X3_takeInstance ty X t_10.2.2.1 kn on cu pu gw b_1 b_2 t_10.2.2.2 b_p su po t_10.2.1 kr kv kb) ++ pw ty pp) → va_S A s.heap H locs → ∀ ls : Array Slot, lv_has ls 7 [(0, .ref (X 8))] → W p l e (headSpec vs_k_X3_takeInstance { frames := 3, cells := 0, slots := 0, locals := 71 }).room s m ([.ref (X 8), .ref a0, .int a1] : List Value).toArray below meth c H locs 0 0 (MQ below (va_Qv (fun u : va_W => ((u = ((wW_k_X3_takeInstance ty X TT.2.2.2.2.2.2.2.1 TT.2.2.2.2.2.2.2.2.1 on cu pu TT.2.2.2.2.2.2.1 b_1 b_2 TT.2.2.2.2.2.2.2.2.2 b_p TT.1 TT.2.1 TT.2.2.1 TT.2.2.2.1 TT.2.2.2.2.1 TT.2.2.2.2.2.1) ++ pw ty pp)))) (wq_B D A) A) ([.ref (X 8), .ref a0, .int a1] : List Value).toArray s 0 0 A) (F0 m 50 ls [.ref (X 12)]) := by
        intro _ hT  H locs hP hD hS ls hl
        rw [m_k_X3_takeInstance_50] at hT
        refine lv_astore (lv' := [(4, .ref (X 12)), (0, .ref (X 8))]) hx hb dX3_takeInstance_50 hl (by decide) rfl (fun ls hl => ?_)
        refine lv_iconst (v := 0) hx hb dX3_takeInstance_52 (by decide) ?_
        refine lv_istore (lv' := [(5, .int 0), (4, .ref (X 12)), (0, .ref (X 8))]) hx hb dX3_takeInstance_53 hl (by decide) rfl (fun ls hl => ?_)
        have L_55 : ∀ (n_55 : Nat) (v5_55 : Int32) (x11_f_55 : Nat → Int64) (x13_f_55 : Nat → Int64) (x8_15_55 : Int32), (2147483648 - v5_55.toInt).toNat < n_55 → TT = m_k_X3_takeInstance_55 kn kr kv kb t_10 n_55 v5_55 x11_f_55 x13_f_55 x8_15_55 → 0 ≤ v5_55.toInt → ∀ (H : Heap) (locs : List Loc), va_P D vwCl ((wW_k_X3_takeInstance ty X t_10.2.2.1 kn on cu pu x8_15_55 b_1 b_2 t_10.2.2.2 b_p x11_f_55 x13_f_55 t_10.2.1 kr kv kb) ++ pw ty pp) H → va_D A ((wW_k_X3_takeInstance ty X t_10.2.2.1 kn on cu pu x8_15_55 b_1 b_2 t_10.2.2.2 b_p x11_f_55 x13_f_55 t_10.2.1 kr kv kb) ++ pw ty pp) → va_S A s.heap H locs → ∀ ls : Array Slot, lv_has ls 7 [(0, .ref (X 8)), (4, .ref (X 12)), (5, .int v5_55)] → W p l e (headSpec vs_k_X3_takeInstance { frames := 3, cells := 0, slots := 0, locals := 71 }).room s m ([.ref (X 8), .ref a0, .int a1] : List Value).toArray below meth c H locs 0 0 (MQ below (va_Qv (fun u : va_W => ((u = ((wW_k_X3_takeInstance ty X TT.2.2.2.2.2.2.2.1 TT.2.2.2.2.2.2.2.2.1 on cu pu TT.2.2.2.2.2.2.1 b_1 b_2 TT.2.2.2.2.2.2.2.2.2 b_p TT.1 TT.2.1 TT.2.2.1 TT.2.2.2.1 TT.2.2.2.2.1 TT.2.2.2.2.2.1) ++ pw ty pp)))) (wq_B D A) A) ([.ref (X 8), .ref a0, .int a1] : List Value).toArray s 0 0 A) (F0 m 55 ls []) := by
          intro n_55
          induction n_55 with
          | zero => intro v5_55 x11_f_55 x13_f_55 x8_15_55 hu; exact absurd hu (Nat.not_lt_zero _)
          | succ n_55 ih_55 =>
            intro v5_55 x11_f_55 x13_f_55 x8_15_55 hu_55 hT hn_55 H locs hP hD hS ls hl
            rw [m_k_X3_takeInstance_55_succ, m_k_X3_takeInstance_55s] at hT
            refine lv_iload hx hb dX3_takeInstance_55 (lv_at hl 2 rfl) ?_
            refine lv_aload_n hx hb dX3_takeInstance_57 rfl (lv_at hl 0 rfl) ?_
            refine va_get (D := D) (ci := 5) (v := .int t_10.2.2.1) (C := RX3) (T := TX3) (N := 16) hx hb hts iv_k_X3_takeInstance_X3 hown hK hP 0 rfl rfl 5 (by decide) (hts (.fieldLink RX3 196 "AnswerFold$Grounding" "headCount" "I") (by decide +kernel)) (fun _ h9 => h9) rfl dX3_takeInstance_58 ?_
            refine lv_icmp_ge (tgt := 104) hx hb dX3_takeInstance_61 (by decide) (fun c_8 => ?_) (fun c_8 => ?_)
            · rw [if_pos c_8] at hT
              exact END x11_f_55 x13_f_55 t_10.2.1 kr kv kb x8_15_55 t_10.2.2.1 kn t_10.2.2.2 hT _ _ hP hD hS _ _ dX3_takeInstance_104
            · rw [if_neg c_8] at hT
              refine lv_aload_n hx hb dX3_takeInstance_64 rfl (lv_at hl 0 rfl) ?_
              refine lv_iload hx hb dX3_takeInstance_65 (lv_at hl 2 rfl) ?_
              obtain ⟨t_67, ht_67⟩ : ∃ t, t = m_k_X3_headAtomAt t_10.2.1 v5_55 := ⟨_, rfl⟩
              rw [lE_eq ht_67] at hT
              refine wq_iQW (wc := (wW_k_X3_headAtomAt ty X t_10.2.2.1 kn on cu pu x8_15_55 t_10.2.1)) (pl := pw ty pp) (va_runV (As := [.int v5_55]) (rest := []) ⟨hx, hb, hml, hown, hts⟩ (k_X3_headAtomAt l D ty td mi H.size X t_10.2.2.1 kn on cu pu x8_15_55 t_10.2.1 v5_55 t_67 ht_67) (cwV 1 hts gv_k_X3_takeInstance_2 rfl rfl rfl (by decide +kernel) ⟨(Nat.le_of_ble_eq_true rfl), (Nat.le_of_ble_eq_true rfl)⟩) (wm_V (wm_preS (vP_left hP) (vD_left hD) hK hE hS hA [true, false, false, false, false, false, true] rfl) (va_recv (q0 := 0) (ci := 5) hK hP rfl rfl)) rfl rfl hl.1 rfl (lv_room (Nat.le_of_ble_eq_true rfl)) dX3_takeInstance_67 ⟨(Nat.le_of_ble_eq_true rfl), (Nat.le_of_ble_eq_true rfl)⟩) hS hA hP hD [true, false, false, false, false, false, true] rfl (fun _ _ h => by rcases h with ⟨-, rfl⟩; rfl) (fun r u H locs hw hP hD hS => ?_)
              obtain ⟨hr0, rfl⟩ := hw
              subst r
              have hP : va_P D vwCl ((wW_k_X3_takeInstance ty X t_10.2.2.1 kn on cu pu x8_15_55 b_1 b_2 t_10.2.2.2 b_p x11_f_55 x13_f_55 t_10.2.1 kr kv kb) ++ pw ty pp) H := hP
              have hD : va_D A ((wW_k_X3_takeInstance ty X t_10.2.2.1 kn on cu pu x8_15_55 b_1 b_2 t_10.2.2.2 b_p x11_f_55 x13_f_55 t_10.2.1 kr kv kb) ++ pw ty pp) := hD
              refine W.widen (k := 0) (n := 0) (Nat.le_of_ble_eq_true rfl) (Nat.le_of_ble_eq_true rfl) ?_
              refine lv_istore (lv' := [(6, .int t_67), (0, .ref (X 8)), (4, .ref (X 12)), (5, .int v5_55)]) hx hb dX3_takeInstance_70 hl (by decide) rfl (fun ls hl => ?_)
              refine lv_aload hx hb dX3_takeInstance_72 (lv_at hl 2 rfl) ?_
              refine lv_iload hx hb dX3_takeInstance_74 (lv_at hl 0 rfl) ?_
              obtain ⟨t_76, ht_76⟩ : ∃ t, t = m_k_X1_add x13_f_55 t_67 := ⟨_, rfl⟩
              rw [lE_eq ht_76] at hT
              refine wq_iQW (wc := (wW_k_X1_add ty (X 12) (X 13) x13_f_55)) (pl := pw ty pp) (va_runV (As := [.int t_67]) (rest := []) ⟨hx, hb, hml, hown, hts⟩ (k_X1_add l D ty td mi H.size (X 12) (X 13) x13_f_55 t_67 t_76 ht_76) (cwV 1 hts gv_k_X3_takeInstance_3 rfl rfl rfl (by decide +kernel) ⟨(Nat.le_of_ble_eq_true rfl), (Nat.le_of_ble_eq_true rfl)⟩) (wm_V (wm_preS (vP_left hP) (vD_left hD) hK hE hS hA [false, false, false, false, true, true] rfl) (va_recv (q0 := 4) (ci := 3) hK hP rfl rfl)) rfl rfl hl.1 rfl (lv_room (Nat.le_of_ble_eq_true rfl)) dX3_takeInstance_76 ⟨(Nat.le_of_ble_eq_true rfl), (Nat.le_of_ble_eq_true rfl)⟩) hS hA hP hD [false, false, false, false, true, true] rfl (fun _ _ h => by rcases h with ⟨-, -, rfl⟩; rfl) (fun r u H locs hw hP hD hS => ?_)
              obtain ⟨rfl, c_13, rfl⟩ := hw
              have hP : va_P D vwCl ((wW_k_X3_takeInstance ty X t_10.2.2.1 kn on cu pu x8_15_55 b_1 b_2 t_10.2.2.2 b_p x11_f_55 t_76.2 t_10.2.1 kr kv kb) ++ pw ty pp) H := hP
              have hD : va_D A ((wW_k_X3_takeInstance ty X t_10.2.2.1 kn on cu pu x8_15_55 b_1 b_2 t_10.2.2.2 b_p x11_f_55 t_76.2 t_10.2.1 kr kv kb) ++ pw ty pp) := hD
              refine W.widen (k := 0) (n := 0) (Nat.le_of_ble_eq_true rfl) (Nat.le_of_ble_eq_true rfl) ?_
              have J_98 : ∀ (x8_15_98 : Int32), TT = m_k_X3_takeInstance_98 (m_k_X3_takeInstance_55 kn kr kv kb t_10 n_55) t_76 v5_55 x11_f_55 x8_15_98 → ∀ (H : Heap) (locs : List Loc), va_P D vwCl ((wW_k_X3_takeInstance ty X t_10.2.2.1 kn on cu pu x8_15_98 b_1 b_2 t_10.2.2.2 b_p x11_f_55 t_76.2 t_10.2.1 kr kv kb) ++ pw ty pp) H → va_D A ((wW_k_X3_takeInstance ty X t_10.2.2.1 kn on cu pu x8_15_98 b_1 b_2 t_10.2.2.2 b_p x11_f_55 t_76.2 t_10.2.1 kr kv kb) ++ pw ty pp) → va_S A s.heap H locs → ∀ ls : Array Slot, lv_has ls 7 [(0, .ref (X 8)), (4, .ref (X 12)), (5, .int v5_55)] → W p l e (headSpec vs_k_X3_takeInstance { frames := 3, cells := 0, slots := 0, locals := 71 }).room s m ([.ref (X 8), .ref a0, .int a1] : List Value).toArray below meth c H locs 0 0 (MQ below (va_Qv (fun u : va_W => ((u = ((wW_k_X3_takeInstance ty X TT.2.2.2.2.2.2.2.1 TT.2.2.2.2.2.2.2.2.1 on cu pu TT.2.2.2.2.2.2.1 b_1 b_2 TT.2.2.2.2.2.2.2.2.2 b_p TT.1 TT.2.1 TT.2.2.1 TT.2.2.2.1 TT.2.2.2.2.1 TT.2.2.2.2.2.1) ++ pw ty pp)))) (wq_B D A) A) ([.ref (X 8), .ref a0, .int a1] : List Value).toArray s 0 0 A) (F0 m 98 ls []) := by
                intro x8_15_98 hT  H locs hP hD hS ls hl
                rw [m_k_X3_takeInstance_98] at hT
                refine lv_iinc (v := v5_55 + 1) (lv' := [(5, .int (v5_55 + 1)), (0, .ref (X 8)), (4, .ref (X 12))]) hx hb dX3_takeInstance_98 hl (k := 2) rfl (by rfl) (by decide) rfl (fun ls hl => ?_)
                refine lv_goto (tgt := 55) hx hb dX3_takeInstance_101 (by decide) ?_
                exact ih_55 (v5_55 + 1) x11_f_55 t_76.2 x8_15_98 (wi_up hu_55 (Int32.not_le.mp c_8)) hT (wi_inc hn_55 (Int32.not_le.mp c_8)) _ _ hP hD hS _ (lv_sub hl [1, 2, 0] rfl)
              refine lv_if_eq (tgt := 98) hx hb dX3_takeInstance_79 (by decide) (fun c_14 => ?_) (fun c_14 => ?_)
              · rw [if_pos c_14] at hT
                exact J_98 x8_15_55 hT _ _ hP hD hS _ (lv_sub hl [1, 2, 3] rfl)
              · rw [if_neg c_14] at hT
                refine lv_aload_n hx hb dX3_takeInstance_82 rfl (lv_at hl 1 rfl) ?_
                refine lv_dup hx hb dX3_takeInstance_83 rfl ?_
                refine va_get (D := D) (ci := 5) (v := .int x8_15_55) (C := RX3) (T := TX3) (N := 16) hx hb hts iv_k_X3_takeInstance_X3 hown hK hP 0 rfl rfl 15 (by decide) (hts (.fieldLink RX3 101 "AnswerFold$Grounding" "grown" "I") (by decide +kernel)) (fun _ h9 => h9) rfl dX3_takeInstance_84 ?_
                refine lv_iconst (v := 1) hx hb dX3_takeInstance_87 (by decide) ?_
                refine lv_iload hx hb dX3_takeInstance_88 (lv_at hl 0 rfl) ?_
                refine lv_bipush (v := 64) hx hb dX3_takeInstance_90 (by decide) ?_
                refine lv_idiv hx hb dX3_takeInstance_92 (by decide) ?_
                refine lv_ishl hx hb dX3_takeInstance_93 ?_
                refine lv_ior hx hb dX3_takeInstance_94 ?_
                refine va_put (D := D) (ci := 5) (v := .int (x8_15_55 ||| ((1 : Int32) <<< ((t_67 / 64) &&& 31)))) (ty := tyX3 15) (C := RX3) (T := TX3) (N := 16) hx hb hts iv_k_X3_takeInstance_X3 tyX3 tyX3_ok nmX3 hown hK hP hD hS 0 rfl rfl 15 (by decide) (hts (.fieldLink RX3 101 "AnswerFold$Grounding" "grown" "I") (by decide +kernel)) (fun _ h9 => h9) rfl (by decide +kernel) rfl rfl (Nat.le_of_ble_eq_true rfl) dX3_takeInstance_95 (fun H locs hP hD hS => ?_)
                have hP : va_P D vwCl ((wW_k_X3_takeInstance ty X t_10.2.2.1 kn on cu pu (x8_15_55 ||| ((1 : Int32) <<< ((t_67 / 64) &&& 31))) b_1 b_2 t_10.2.2.2 b_p x11_f_55 t_76.2 t_10.2.1 kr kv kb) ++ pw ty pp) H := hP
                have hD : va_D A ((wW_k_X3_takeInstance ty X t_10.2.2.1 kn on cu pu (x8_15_55 ||| ((1 : Int32) <<< ((t_67 / 64) &&& 31))) b_1 b_2 t_10.2.2.2 b_p x11_f_55 t_76.2 t_10.2.1 kr kv kb) ++ pw ty pp) := hD
                exact J_98 (x8_15_55 ||| ((1 : Int32) <<< ((t_67 / 64) &&& 31))) hT _ _ hP hD hS _ (lv_sub hl [1, 2, 3] rfl)
        exact L_55 wF 0 su po gw (wF_up 0) hT (by decide) _ _ hP hD hS _ (lv_sub hl [2, 1, 0] rfl)
      have J_50a : ∀ (_ : Unit), TT = m_k_X3_takeInstance_50a kn gw su po kr kv kb t_10 → ∀ (H : Heap) (locs : List Loc), va_P D vwCl ((wW_k_X3_takeInstance ty X t_10.2.2.1 kn on cu pu gw b_1 b_2 t_10.2.2.2 b_p su po t_10.2.1 kr kv kb) ++ pw ty pp) H → va_D A ((wW_k_X3_takeInstance ty X t_10.2.2.1 kn on cu pu gw b_1 b_2 t_10.2.2.2 b_p su po t_10.2.1 kr kv kb) ++ pw ty pp) → va_S A s.heap H locs → ∀ ls : Array Slot, lv_has ls 7 [(0, .ref (X 8))] → W p l e (headSpec vs_k_X3_takeInstance { frames := 3, cells := 0, slots := 0, locals := 71 }).room s m ([.ref (X 8), .ref a0, .int a1] : List Value).toArray below meth c H locs 0 0 (MQ below (va_Qv (fun u : va_W => ((u = ((wW_k_X3_takeInstance ty X TT.2.2.2.2.2.2.2.1 TT.2.2.2.2.2.2.2.2.1 on cu pu TT.2.2.2.2.2.2.1 b_1 b_2 TT.2.2.2.2.2.2.2.2.2 b_p TT.1 TT.2.1 TT.2.2.1 TT.2.2.2.1 TT.2.2.2.2.1 TT.2.2.2.2.2.1) ++ pw ty pp)))) (wq_B D A) A) ([.ref (X 8), .ref a0, .int a1] : List Value).toArray s 0 0 A) (F0 m 50 ls [.ref (X 10)]) := by
        intro _ hT  H locs hP hD hS ls hl
        rw [m_k_X3_takeInstance_50a] at hT
        refine lv_astore (lv' := [(4, .ref (X 10)), (0, .ref (X 8))]) hx hb dX3_takeInstance_50 hl (by decide) rfl (fun ls hl => ?_)
        refine lv_iconst (v := 0) hx hb dX3_takeInstance_52 (by decide) ?_
        refine lv_istore (lv' := [(5, .int 0), (4, .ref (X 10)), (0, .ref (X 8))]) hx hb dX3_takeInstance_53 hl (by decide) rfl (fun ls hl => ?_)
        have L_55a : ∀ (n_55a : Nat) (v5_55a : Int32) (x11_f_55a : Nat → Int64) (x13_f_55a : Nat → Int64) (x8_15_55a : Int32), (2147483648 - v5_55a.toInt).toNat < n_55a → TT = m_k_X3_takeInstance_55a kn kr kv kb t_10 n_55a v5_55a x11_f_55a x13_f_55a x8_15_55a → 0 ≤ v5_55a.toInt → ∀ (H : Heap) (locs : List Loc), va_P D vwCl ((wW_k_X3_takeInstance ty X t_10.2.2.1 kn on cu pu x8_15_55a b_1 b_2 t_10.2.2.2 b_p x11_f_55a x13_f_55a t_10.2.1 kr kv kb) ++ pw ty pp) H → va_D A ((wW_k_X3_takeInstance ty X t_10.2.2.1 kn on cu pu x8_15_55a b_1 b_2 t_10.2.2.2 b_p x11_f_55a x13_f_55a t_10.2.1 kr kv kb) ++ pw ty pp) → va_S A s.heap H locs → ∀ ls : Array Slot, lv_has ls 7 [(0, .ref (X 8)), (4, .ref (X 10)), (5, .int v5_55a)] → W p l e (headSpec vs_k_X3_takeInstance { frames := 3, cells := 0, slots := 0, locals := 71 }).room s m ([.ref (X 8), .ref a0, .int a1] : List Value).toArray below meth c H locs 0 0 (MQ below (va_Qv (fun u : va_W => ((u = ((wW_k_X3_takeInstance ty X TT.2.2.2.2.2.2.2.1 TT.2.2.2.2.2.2.2.2.1 on cu pu TT.2.2.2.2.2.2.1 b_1 b_2 TT.2.2.2.2.2.2.2.2.2 b_p TT.1 TT.2.1 TT.2.2.1 TT.2.2.2.1 TT.2.2.2.2.1 TT.2.2.2.2.2.1) ++ pw ty pp)))) (wq_B D A) A) ([.ref (X 8), .ref a0, .int a1] : List Value).toArray s 0 0 A) (F0 m 55 ls []) := by
          intro n_55a
          induction n_55a with
          | zero => intro v5_55a x11_f_55a x13_f_55a x8_15_55a hu; exact absurd hu (Nat.not_lt_zero _)
          | succ n_55a ih_55a =>
            intro v5_55a x11_f_55a x13_f_55a x8_15_55a hu_55a hT hn_55a H locs hP hD hS ls hl
            rw [m_k_X3_takeInstance_55a_succ, m_k_X3_takeInstance_55as] at hT
            refine lv_iload hx hb dX3_takeInstance_55 (lv_at hl 2 rfl) ?_
            refine lv_aload_n hx hb dX3_takeInstance_57 rfl (lv_at hl 0 rfl) ?_
            refine va_get (D := D) (ci := 5) (v := .int t_10.2.2.1) (C := RX3) (T := TX3) (N := 16) hx hb hts iv_k_X3_takeInstance_X3 hown hK hP 0 rfl rfl 5 (by decide) (hts (.fieldLink RX3 196 "AnswerFold$Grounding" "headCount" "I") (by decide +kernel)) (fun _ h9 => h9) rfl dX3_takeInstance_58 ?_
            refine lv_icmp_ge (tgt := 104) hx hb dX3_takeInstance_61 (by decide) (fun c_15 => ?_) (fun c_15 => ?_)
            · rw [if_pos c_15] at hT
              exact END x11_f_55a x13_f_55a t_10.2.1 kr kv kb x8_15_55a t_10.2.2.1 kn t_10.2.2.2 hT _ _ hP hD hS _ _ dX3_takeInstance_104
            · rw [if_neg c_15] at hT
              refine lv_aload_n hx hb dX3_takeInstance_64 rfl (lv_at hl 0 rfl) ?_
              refine lv_iload hx hb dX3_takeInstance_65 (lv_at hl 2 rfl) ?_
              obtain ⟨t_67, ht_67⟩ : ∃ t, t = m_k_X3_headAtomAt t_10.2.1 v5_55a := ⟨_, rfl⟩
              rw [lE_eq ht_67] at hT
              refine wq_iQW (wc := (wW_k_X3_headAtomAt ty X t_10.2.2.1 kn on cu pu x8_15_55a t_10.2.1)) (pl := pw ty pp) (va_runV (As := [.int v5_55a]) (rest := []) ⟨hx, hb, hml, hown, hts⟩ (k_X3_headAtomAt l D ty td mi H.size X t_10.2.2.1 kn on cu pu x8_15_55a t_10.2.1 v5_55a t_67 ht_67) (cwV 1 hts gv_k_X3_takeInstance_4 rfl rfl rfl (by decide +kernel) ⟨(Nat.le_of_ble_eq_true rfl), (Nat.le_of_ble_eq_true rfl)⟩) (wm_V (wm_preS (vP_left hP) (vD_left hD) hK hE hS hA [true, false, false, false, false, false, true] rfl) (va_recv (q0 := 0) (ci := 5) hK hP rfl rfl)) rfl rfl hl.1 rfl (lv_room (Nat.le_of_ble_eq_true rfl)) dX3_takeInstance_67 ⟨(Nat.le_of_ble_eq_true rfl), (Nat.le_of_ble_eq_true rfl)⟩) hS hA hP hD [true, false, false, false, false, false, true] rfl (fun _ _ h => by rcases h with ⟨-, rfl⟩; rfl) (fun r u H locs hw hP hD hS => ?_)
              obtain ⟨hr0, rfl⟩ := hw
              subst r
              have hP : va_P D vwCl ((wW_k_X3_takeInstance ty X t_10.2.2.1 kn on cu pu x8_15_55a b_1 b_2 t_10.2.2.2 b_p x11_f_55a x13_f_55a t_10.2.1 kr kv kb) ++ pw ty pp) H := hP
              have hD : va_D A ((wW_k_X3_takeInstance ty X t_10.2.2.1 kn on cu pu x8_15_55a b_1 b_2 t_10.2.2.2 b_p x11_f_55a x13_f_55a t_10.2.1 kr kv kb) ++ pw ty pp) := hD
              refine W.widen (k := 0) (n := 0) (Nat.le_of_ble_eq_true rfl) (Nat.le_of_ble_eq_true rfl) ?_
              refine lv_istore (lv' := [(6, .int t_67), (0, .ref (X 8)), (4, .ref (X 10)), (5, .int v5_55a)]) hx hb dX3_takeInstance_70 hl (by decide) rfl (fun ls hl => ?_)
              refine lv_aload hx hb dX3_takeInstance_72 (lv_at hl 2 rfl) ?_
              refine lv_iload hx hb dX3_takeInstance_74 (lv_at hl 0 rfl) ?_
              obtain ⟨t_76, ht_76⟩ : ∃ t, t = m_k_X1_add x11_f_55a t_67 := ⟨_, rfl⟩
              rw [lE_eq ht_76] at hT
              refine wq_iQW (wc := (wW_k_X1_add ty (X 10) (X 11) x11_f_55a)) (pl := pw ty pp) (va_runV (As := [.int t_67]) (rest := []) ⟨hx, hb, hml, hown, hts⟩ (k_X1_add l D ty td mi H.size (X 10) (X 11) x11_f_55a t_67 t_76 ht_76) (cwV 1 hts gv_k_X3_takeInstance_5 rfl rfl rfl (by decide +kernel) ⟨(Nat.le_of_ble_eq_true rfl), (Nat.le_of_ble_eq_true rfl)⟩) (wm_V (wm_preS (vP_left hP) (vD_left hD) hK hE hS hA [false, false, true, true] rfl) (va_recv (q0 := 2) (ci := 3) hK hP rfl rfl)) rfl rfl hl.1 rfl (lv_room (Nat.le_of_ble_eq_true rfl)) dX3_takeInstance_76 ⟨(Nat.le_of_ble_eq_true rfl), (Nat.le_of_ble_eq_true rfl)⟩) hS hA hP hD [false, false, true, true] rfl (fun _ _ h => by rcases h with ⟨-, -, rfl⟩; rfl) (fun r u H locs hw hP hD hS => ?_)
              obtain ⟨rfl, c_20, rfl⟩ := hw
              have hP : va_P D vwCl ((wW_k_X3_takeInstance ty X t_10.2.2.1 kn on cu pu x8_15_55a b_1 b_2 t_10.2.2.2 b_p t_76.2 x13_f_55a t_10.2.1 kr kv kb) ++ pw ty pp) H := hP
              have hD : va_D A ((wW_k_X3_takeInstance ty X t_10.2.2.1 kn on cu pu x8_15_55a b_1 b_2 t_10.2.2.2 b_p t_76.2 x13_f_55a t_10.2.1 kr kv kb) ++ pw ty pp) := hD
              refine W.widen (k := 0) (n := 0) (Nat.le_of_ble_eq_true rfl) (Nat.le_of_ble_eq_true rfl) ?_
              have J_98a : ∀ (x8_15_98a : Int32), TT = m_k_X3_takeInstance_98a (m_k_X3_takeInstance_55a kn kr kv kb t_10 n_55a) t_76 v5_55a x13_f_55a x8_15_98a → ∀ (H : Heap) (locs : List Loc), va_P D vwCl ((wW_k_X3_takeInstance ty X t_10.2.2.1 kn on cu pu x8_15_98a b_1 b_2 t_10.2.2.2 b_p t_76.2 x13_f_55a t_10.2.1 kr kv kb) ++ pw ty pp) H → va_D A ((wW_k_X3_takeInstance ty X t_10.2.2.1 kn on cu pu x8_15_98a b_1 b_2 t_10.2.2.2 b_p t_76.2 x13_f_55a t_10.2.1 kr kv kb) ++ pw ty pp) → va_S A s.heap H locs → ∀ ls : Array Slot, lv_has ls 7 [(0, .ref (X 8)), (4, .ref (X 10)), (5, .int v5_55a)] → W p l e (headSpec vs_k_X3_takeInstance { frames := 3, cells := 0, slots := 0, locals := 71 }).room s m ([.ref (X 8), .ref a0, .int a1] : List Value).toArray below meth c H locs 0 0 (MQ below (va_Qv (fun u : va_W => ((u = ((wW_k_X3_takeInstance ty X TT.2.2.2.2.2.2.2.1 TT.2.2.2.2.2.2.2.2.1 on cu pu TT.2.2.2.2.2.2.1 b_1 b_2 TT.2.2.2.2.2.2.2.2.2 b_p TT.1 TT.2.1 TT.2.2.1 TT.2.2.2.1 TT.2.2.2.2.1 TT.2.2.2.2.2.1) ++ pw ty pp)))) (wq_B D A) A) ([.ref (X 8), .ref a0, .int a1] : List Value).toArray s 0 0 A) (F0 m 98 ls []) := by
                intro x8_15_98a hT  H locs hP hD hS ls hl
                rw [m_k_X3_takeInstance_98a] at hT
                refine lv_iinc (v := v5_55a + 1) (lv' := [(5, .int (v5_55a + 1)), (0, .ref (X 8)), (4, .ref (X 10))]) hx hb dX3_takeInstance_98 hl (k := 2) rfl (by rfl) (by decide) rfl (fun ls hl => ?_)
                refine lv_goto (tgt := 55) hx hb dX3_takeInstance_101 (by decide) ?_
                exact ih_55a (v5_55a + 1) t_76.2 x13_f_55a x8_15_98a (wi_up hu_55a (Int32.not_le.mp c_15)) hT (wi_inc hn_55a (Int32.not_le.mp c_15)) _ _ hP hD hS _ (lv_sub hl [1, 2, 0] rfl)
              refine lv_if_eq (tgt := 98) hx hb dX3_takeInstance_79 (by decide) (fun c_21 => ?_) (fun c_21 => ?_)
              · rw [if_pos c_21] at hT
                exact J_98a x8_15_55a hT _ _ hP hD hS _ (lv_sub hl [1, 2, 3] rfl)
              · rw [if_neg c_21] at hT
                refine lv_aload_n hx hb dX3_takeInstance_82 rfl (lv_at hl 1 rfl) ?_
                refine lv_dup hx hb dX3_takeInstance_83 rfl ?_
                refine va_get (D := D) (ci := 5) (v := .int x8_15_55a) (C := RX3) (T := TX3) (N := 16) hx hb hts iv_k_X3_takeInstance_X3 hown hK hP 0 rfl rfl 15 (by decide) (hts (.fieldLink RX3 101 "AnswerFold$Grounding" "grown" "I") (by decide +kernel)) (fun _ h9 => h9) rfl dX3_takeInstance_84 ?_
                refine lv_iconst (v := 1) hx hb dX3_takeInstance_87 (by decide) ?_
                refine lv_iload hx hb dX3_takeInstance_88 (lv_at hl 0 rfl) ?_
                refine lv_bipush (v := 64) hx hb dX3_takeInstance_90 (by decide) ?_
                refine lv_idiv hx hb dX3_takeInstance_92 (by decide) ?_
                refine lv_ishl hx hb dX3_takeInstance_93 ?_
                refine lv_ior hx hb dX3_takeInstance_94 ?_
                refine va_put (D := D) (ci := 5) (v := .int (x8_15_55a ||| ((1 : Int32) <<< ((t_67 / 64) &&& 31)))) (ty := tyX3 15) (C := RX3) (T := TX3) (N := 16) hx hb hts iv_k_X3_takeInstance_X3 tyX3 tyX3_ok nmX3 hown hK hP hD hS 0 rfl rfl 15 (by decide) (hts (.fieldLink RX3 101 "AnswerFold$Grounding" "grown" "I") (by decide +kernel)) (fun _ h9 => h9) rfl (by decide +kernel) rfl rfl (Nat.le_of_ble_eq_true rfl) dX3_takeInstance_95 (fun H locs hP hD hS => ?_)
                have hP : va_P D vwCl ((wW_k_X3_takeInstance ty X t_10.2.2.1 kn on cu pu (x8_15_55a ||| ((1 : Int32) <<< ((t_67 / 64) &&& 31))) b_1 b_2 t_10.2.2.2 b_p t_76.2 x13_f_55a t_10.2.1 kr kv kb) ++ pw ty pp) H := hP
                have hD : va_D A ((wW_k_X3_takeInstance ty X t_10.2.2.1 kn on cu pu (x8_15_55a ||| ((1 : Int32) <<< ((t_67 / 64) &&& 31))) b_1 b_2 t_10.2.2.2 b_p t_76.2 x13_f_55a t_10.2.1 kr kv kb) ++ pw ty pp) := hD
                exact J_98a (x8_15_55a ||| ((1 : Int32) <<< ((t_67 / 64) &&& 31))) hT _ _ hP hD hS _ (lv_sub hl [1, 2, 3] rfl)
        exact L_55a wF 0 su po gw (wF_up 0) hT (by decide) _ _ hP hD hS _ (lv_sub hl [2, 1, 0] rfl)
      refine lv_if_ne (tgt := 46) hx hb dX3_takeInstance_36 (by decide) (fun c_22 => ?_) (fun c_22 => ?_)
      · rw [if_neg c_22] at hT
        refine lv_aload_n hx hb dX3_takeInstance_46 rfl (lv_at hl 1 rfl) ?_
        refine va_get (D := D) (ci := 5) (v := .ref (X 12)) (C := RX3) (T := TX3) (N := 16) hx hb hts iv_k_X3_takeInstance_X3 hown hK hP 0 rfl rfl 3 (by decide) (hts (.fieldLink RX3 25 "AnswerFold$Grounding" "possible" "LAnswerFold$AtomSet;") (by decide +kernel)) (fun _ h9 => h9) rfl dX3_takeInstance_47 ?_
        exact J_50 () hT _ _ hP hD hS _ (lv_sub hl [1] rfl)
      · rw [if_pos c_22] at hT
        refine lv_aload_n hx hb dX3_takeInstance_39 rfl (lv_at hl 1 rfl) ?_
        refine va_get (D := D) (ci := 5) (v := .ref (X 10)) (C := RX3) (T := TX3) (N := 16) hx hb hts iv_k_X3_takeInstance_X3 hown hK hP 0 rfl rfl 2 (by decide) (hts (.fieldLink RX3 21 "AnswerFold$Grounding" "sure" "LAnswerFold$AtomSet;") (by decide +kernel)) (fun _ h9 => h9) rfl dX3_takeInstance_40 ?_
        refine lv_goto (tgt := 50) hx hb dX3_takeInstance_43 (by decide) ?_
        exact J_50a () hT _ _ hP hD hS _ (lv_sub hl [1] rfl)
    · rw [if_pos c_7] at hT
      refine lv_aload_n hx hb dX3_takeInstance_25 rfl (lv_at hl 1 rfl) ?_
      refine lv_iload_n hx hb dX3_takeInstance_26 rfl (lv_at hl 3 rfl) ?_
      refine lv_iload_n hx hb dX3_takeInstance_27 rfl (lv_at hl 0 rfl) ?_
      obtain ⟨t_28, ht_28⟩ : ∃ t, t = m_k_X3_keep kn kr kv kb a1 t_4 := ⟨_, rfl⟩
      rw [lE_eq ht_28] at hT
      refine wq_vQW (wc := (wW_k_X3_keep ty X t_10.2.2.1 kn on cu pu gw kr kv kb)) (pl := pw ty pp) (va_runV (As := [.int a1, .int t_4]) (rest := []) ⟨hx, hb, hml, hown, hts⟩ (k_X3_keep l D ty td mi H.size X t_10.2.2.1 kn on cu pu gw kr kv kb a1 t_4 t_28 ht_28) (cwV 2 hts gv_k_X3_takeInstance_6 rfl rfl rfl (by decide +kernel) ⟨(Nat.le_of_ble_eq_true rfl), (Nat.le_of_ble_eq_true rfl)⟩) (wm_V (wm_preS (vP_left hP) (vD_left hD) hK hE hS hA [true, false, false, false, false, false, false, true, true, true] rfl) (va_recv (q0 := 0) (ci := 5) hK hP rfl rfl)) rfl rfl hl.1 rfl (lv_room (Nat.le_of_ble_eq_true rfl)) dX3_takeInstance_28 ⟨(Nat.le_of_ble_eq_true rfl), (Nat.le_of_ble_eq_true rfl)⟩) hS hA hP hD [true, false, false, false, false, false, false, true, true, true] rfl (fun _ h => by rcases h with rfl; rfl) (fun u H locs hw hP hD hS => ?_)
      obtain rfl := hw
      have hP : va_P D vwCl ((wW_k_X3_takeInstance ty X t_10.2.2.1 t_28.2.2.2 on cu pu gw b_1 b_2 t_10.2.2.2 b_p su po t_10.2.1 t_28.1 t_28.2.1 t_28.2.2.1) ++ pw ty pp) H := hP
      have hD : va_D A ((wW_k_X3_takeInstance ty X t_10.2.2.1 t_28.2.2.2 on cu pu gw b_1 b_2 t_10.2.2.2 b_p su po t_10.2.1 t_28.1 t_28.2.1 t_28.2.2.1) ++ pw ty pp) := hD
      refine W.widen (k := 0) (n := 0) (Nat.le_of_ble_eq_true rfl) (Nat.le_of_ble_eq_true rfl) ?_
      exact END su po t_10.2.1 t_28.1 t_28.2.1 t_28.2.2.1 gw t_10.2.2.1 t_28.2.2.2 t_10.2.2.2 hT _ _ hP hD hS _ _ dX3_takeInstance_31
  · rw [if_pos c_6] at hT
    exact END su po t_10.2.1 kr kv kb gw t_10.2.2.1 kn t_10.2.2.2 hT _ _ hP hD hS _ _ dX3_takeInstance_16
