theorem dX3_eachInstance_0 : decode cX3_eachInstance 0 = .ok (.aload_n 0, 1) := by decide +kernel
theorem dX3_eachInstance_1 : decode cX3_eachInstance 1 = .ok (.getfield 12, 3) := by decide +kernel
theorem dX3_eachInstance_4 : decode cX3_eachInstance 4 = .ok (.iload_n 3, 1) := by decide +kernel
theorem dX3_eachInstance_5 : decode cX3_eachInstance 5 = .ok (.putfield 135, 3) := by decide +kernel
theorem dX3_eachInstance_8 : decode cX3_eachInstance 8 = .ok (.iload_n 3, 1) := by decide +kernel
theorem dX3_eachInstance_9 : decode cX3_eachInstance 9 = .ok (.iconst (-1), 1) := by decide +kernel
theorem dX3_eachInstance_10 : decode cX3_eachInstance 10 = .ok (.if_icmp .eq 12, 3) := by decide +kernel
theorem dX3_eachInstance_13 : decode cX3_eachInstance 13 = .ok (.aload_n 0, 1) := by decide +kernel
theorem dX3_eachInstance_14 : decode cX3_eachInstance 14 = .ok (.aload_n 1, 1) := by decide +kernel
theorem dX3_eachInstance_15 : decode cX3_eachInstance 15 = .ok (.iconst 0, 1) := by decide +kernel
theorem dX3_eachInstance_16 : decode cX3_eachInstance 16 = .ok (.invokevirtual 138, 3) := by decide +kernel
theorem dX3_eachInstance_19 : decode cX3_eachInstance 19 = .ok (.ifCond .ne 4, 3) := by decide +kernel
theorem dX3_eachInstance_22 : decode cX3_eachInstance 22 = .ok (.return_, 1) := by decide +kernel
theorem dX3_eachInstance_23 : decode cX3_eachInstance 23 = .ok (.aload_n 1, 1) := by decide +kernel
theorem dX3_eachInstance_24 : decode cX3_eachInstance 24 = .ok (.iconst 1, 1) := by decide +kernel
theorem dX3_eachInstance_25 : decode cX3_eachInstance 25 = .ok (.invokevirtual 142, 3) := by decide +kernel
theorem dX3_eachInstance_28 : decode cX3_eachInstance 28 = .ok (.istore 4, 2) := by decide +kernel
theorem dX3_eachInstance_30 : decode cX3_eachInstance 30 = .ok (.aload_n 1, 1) := by decide +kernel
theorem dX3_eachInstance_31 : decode cX3_eachInstance 31 = .ok (.iconst 2, 1) := by decide +kernel
theorem dX3_eachInstance_32 : decode cX3_eachInstance 32 = .ok (.invokevirtual 142, 3) := by decide +kernel
theorem dX3_eachInstance_35 : decode cX3_eachInstance 35 = .ok (.istore 5, 2) := by decide +kernel
theorem dX3_eachInstance_37 : decode cX3_eachInstance 37 = .ok (.aload_n 1, 1) := by decide +kernel
theorem dX3_eachInstance_38 : decode cX3_eachInstance 38 = .ok (.iconst 3, 1) := by decide +kernel
theorem dX3_eachInstance_39 : decode cX3_eachInstance 39 = .ok (.invokevirtual 142, 3) := by decide +kernel
theorem dX3_eachInstance_42 : decode cX3_eachInstance 42 = .ok (.istore 6, 2) := by decide +kernel
theorem dX3_eachInstance_44 : decode cX3_eachInstance 44 = .ok (.iconst 0, 1) := by decide +kernel
theorem dX3_eachInstance_45 : decode cX3_eachInstance 45 = .ok (.istore 7, 2) := by decide +kernel
theorem dX3_eachInstance_47 : decode cX3_eachInstance 47 = .ok (.iload 7, 2) := by decide +kernel
theorem dX3_eachInstance_49 : decode cX3_eachInstance 49 = .ok (.iload 4, 2) := by decide +kernel
theorem dX3_eachInstance_51 : decode cX3_eachInstance 51 = .ok (.if_icmp .ge 107, 3) := by decide +kernel
theorem dX3_eachInstance_54 : decode cX3_eachInstance 54 = .ok (.aload_n 0, 1) := by decide +kernel
theorem dX3_eachInstance_55 : decode cX3_eachInstance 55 = .ok (.getfield 12, 3) := by decide +kernel
theorem dX3_eachInstance_58 : decode cX3_eachInstance 58 = .ok (.iload 7, 2) := by decide +kernel
theorem dX3_eachInstance_60 : decode cX3_eachInstance 60 = .ok (.putfield 145, 3) := by decide +kernel
theorem dX3_eachInstance_63 : decode cX3_eachInstance 63 = .ok (.aload_n 0, 1) := by decide +kernel
theorem dX3_eachInstance_64 : decode cX3_eachInstance 64 = .ok (.aload_n 1, 1) := by decide +kernel
theorem dX3_eachInstance_65 : decode cX3_eachInstance 65 = .ok (.iconst 1, 1) := by decide +kernel
theorem dX3_eachInstance_66 : decode cX3_eachInstance 66 = .ok (.invokevirtual 138, 3) := by decide +kernel
theorem dX3_eachInstance_69 : decode cX3_eachInstance 69 = .ok (.ifCond .ne 6, 3) := by decide +kernel
theorem dX3_eachInstance_72 : decode cX3_eachInstance 72 = .ok (.goto 80, 3) := by decide +kernel
theorem dX3_eachInstance_75 : decode cX3_eachInstance 75 = .ok (.iconst 0, 1) := by decide +kernel
theorem dX3_eachInstance_76 : decode cX3_eachInstance 76 = .ok (.istore 8, 2) := by decide +kernel
theorem dX3_eachInstance_78 : decode cX3_eachInstance 78 = .ok (.iload 8, 2) := by decide +kernel
theorem dX3_eachInstance_80 : decode cX3_eachInstance 80 = .ok (.iload 5, 2) := by decide +kernel
theorem dX3_eachInstance_82 : decode cX3_eachInstance 82 = .ok (.if_icmp .ge 70, 3) := by decide +kernel
theorem dX3_eachInstance_85 : decode cX3_eachInstance 85 = .ok (.aload_n 0, 1) := by decide +kernel
theorem dX3_eachInstance_86 : decode cX3_eachInstance 86 = .ok (.getfield 12, 3) := by decide +kernel
theorem dX3_eachInstance_89 : decode cX3_eachInstance 89 = .ok (.iload 8, 2) := by decide +kernel
theorem dX3_eachInstance_91 : decode cX3_eachInstance 91 = .ok (.putfield 148, 3) := by decide +kernel
theorem dX3_eachInstance_94 : decode cX3_eachInstance 94 = .ok (.aload_n 0, 1) := by decide +kernel
theorem dX3_eachInstance_95 : decode cX3_eachInstance 95 = .ok (.aload_n 1, 1) := by decide +kernel
theorem dX3_eachInstance_96 : decode cX3_eachInstance 96 = .ok (.iconst 2, 1) := by decide +kernel
theorem dX3_eachInstance_97 : decode cX3_eachInstance 97 = .ok (.invokevirtual 138, 3) := by decide +kernel
theorem dX3_eachInstance_100 : decode cX3_eachInstance 100 = .ok (.ifCond .ne 6, 3) := by decide +kernel
theorem dX3_eachInstance_103 : decode cX3_eachInstance 103 = .ok (.goto 43, 3) := by decide +kernel
theorem dX3_eachInstance_106 : decode cX3_eachInstance 106 = .ok (.iconst 0, 1) := by decide +kernel
theorem dX3_eachInstance_107 : decode cX3_eachInstance 107 = .ok (.istore 9, 2) := by decide +kernel
theorem dX3_eachInstance_109 : decode cX3_eachInstance 109 = .ok (.iload 9, 2) := by decide +kernel
theorem dX3_eachInstance_111 : decode cX3_eachInstance 111 = .ok (.iload 6, 2) := by decide +kernel
theorem dX3_eachInstance_113 : decode cX3_eachInstance 113 = .ok (.if_icmp .ge 33, 3) := by decide +kernel
theorem dX3_eachInstance_116 : decode cX3_eachInstance 116 = .ok (.aload_n 0, 1) := by decide +kernel
theorem dX3_eachInstance_117 : decode cX3_eachInstance 117 = .ok (.getfield 12, 3) := by decide +kernel
theorem dX3_eachInstance_120 : decode cX3_eachInstance 120 = .ok (.iload 9, 2) := by decide +kernel
theorem dX3_eachInstance_122 : decode cX3_eachInstance 122 = .ok (.putfield 151, 3) := by decide +kernel
theorem dX3_eachInstance_125 : decode cX3_eachInstance 125 = .ok (.aload_n 0, 1) := by decide +kernel
theorem dX3_eachInstance_126 : decode cX3_eachInstance 126 = .ok (.aload_n 1, 1) := by decide +kernel
theorem dX3_eachInstance_127 : decode cX3_eachInstance 127 = .ok (.iconst 3, 1) := by decide +kernel
theorem dX3_eachInstance_128 : decode cX3_eachInstance 128 = .ok (.invokevirtual 138, 3) := by decide +kernel
theorem dX3_eachInstance_131 : decode cX3_eachInstance 131 = .ok (.ifCond .eq 9, 3) := by decide +kernel
theorem dX3_eachInstance_134 : decode cX3_eachInstance 134 = .ok (.aload_n 0, 1) := by decide +kernel
theorem dX3_eachInstance_135 : decode cX3_eachInstance 135 = .ok (.aload_n 1, 1) := by decide +kernel
theorem dX3_eachInstance_136 : decode cX3_eachInstance 136 = .ok (.iload_n 2, 1) := by decide +kernel
theorem dX3_eachInstance_137 : decode cX3_eachInstance 137 = .ok (.invokevirtual 154, 3) := by decide +kernel
theorem dX3_eachInstance_140 : decode cX3_eachInstance 140 = .ok (.iinc 9 1, 3) := by decide +kernel
theorem dX3_eachInstance_143 : decode cX3_eachInstance 143 = .ok (.goto (-34), 3) := by decide +kernel
theorem dX3_eachInstance_146 : decode cX3_eachInstance 146 = .ok (.iinc 8 1, 3) := by decide +kernel
theorem dX3_eachInstance_149 : decode cX3_eachInstance 149 = .ok (.goto (-71), 3) := by decide +kernel
theorem dX3_eachInstance_152 : decode cX3_eachInstance 152 = .ok (.iinc 7 1, 3) := by decide +kernel
theorem dX3_eachInstance_155 : decode cX3_eachInstance 155 = .ok (.goto (-108), 3) := by decide +kernel
theorem dX3_eachInstance_158 : decode cX3_eachInstance 158 = .ok (.return_, 1) := by decide +kernel
def wW_k_X3_eachInstance (ty : Nat → ClassId) (X : Nat → Nat) (z9_0 : Int32) (z9_1 : Int32) (z9_2 : Int32) (z9_3 : Int32) (z9_4 : Int32) (z9_5 : Int32) (z9_6 : Int32) (z9_7 : Int32) (z9_8 : Int32) (z9_9 : Int32) (z9_10 : Nat → Int64) (z9_11 : Nat → Int64) (z9_12 : Nat → Int32) (z9_13 : Nat → Int32) (z9_14 : Nat → Int32) (z9_15 : Nat → Int32) : va_W := [((X 8), .inr (5, [.ref (X 1), .ref (X 9), .ref (X 10), .ref (X 12), .ref (X 14), .int z9_0, .ref (X 15), .ref (X 16), .ref (X 17), .int z9_1, .ref (X 18), .ref (X 19), .int z9_2, .int z9_3, .int z9_4, .int z9_5])), ((X 9), .inr (4, [.int z9_6, .int z9_7, .int z9_8, .int z9_9])), ((X 10), .inr (3, [.ref (X 11)])), ((X 11), .inl (ty 1, 6, .inr (.inl z9_10))), ((X 12), .inr (3, [.ref (X 13)])), ((X 13), .inl (ty 1, 6, .inr (.inl z9_11))), ((X 14), .inl (ty 0, 16, .inl z9_12)), ((X 15), .inl (ty 0, 300, .inl z9_13)), ((X 16), .inl (ty 0, 300, .inl z9_14)), ((X 17), .inl (ty 0, 20, .inl z9_15))]
def vs_k_X3_eachInstance : List Cond := .code yX3_eachInstance cX3_eachInstance 10 none :: ([.fieldLink RX3 12 "AnswerFold$Grounding" "binding" "LAnswerFold$Binding;", .methodLink RX3 138 yX3_mayHold, .instanceMethod yX3_mayHold, .selects RX3 yX3_mayHold yX3_mayHold, .initialized RX3, .methodLink RX3 142 yX8_valuesFor, .instanceMethod yX8_valuesFor, .selects RX8 yX8_valuesFor yX8_valuesFor, .initialized RX8, .methodLink RX3 154 yX3_takeInstance, .instanceMethod yX3_takeInstance, .selects RX3 yX3_takeInstance yX3_takeInstance] ++ (u_ws RX3 TX3 16 ++ (u_ws RX2 TX2 4 ++ (vs_k_X3_mayHold ++ (vs_k_X8_valuesFor ++ (vs_k_X3_takeInstance))))))
theorem iv_k_X3_eachInstance_X2 : ∀ w ∈ u_ws RX2 TX2 4, w ∈ vs_k_X3_eachInstance := (fun _ h => List.mem_cons_of_mem _ (List.mem_append_right _ (List.mem_append_right _ (List.mem_append_left _ h))))
theorem iv_k_X3_eachInstance_X3 : ∀ w ∈ u_ws RX3 TX3 16, w ∈ vs_k_X3_eachInstance := (fun _ h => List.mem_cons_of_mem _ (List.mem_append_right _ (List.mem_append_left _ h)))
set_option maxRecDepth 20000 in
theorem gv_k_X3_eachInstance_0 : GoodIn vs_k_X3_eachInstance (wsV RX3 138 RX3 yX3_mayHold vs_k_X3_mayHold) := goodIn_app (goodIn_sub (by decide +kernel) (by decide +kernel)) (goodIn_sub (fun _ h => List.mem_cons_of_mem _ (List.mem_append_right _ (List.mem_append_right _ (List.mem_append_right _ (List.mem_append_left _ h))))) (by decide +kernel))
set_option maxRecDepth 20000 in
theorem gv_k_X3_eachInstance_1 : GoodIn vs_k_X3_eachInstance (wsV RX3 142 RX8 yX8_valuesFor vs_k_X8_valuesFor) := goodIn_app (goodIn_sub (by decide +kernel) (by decide +kernel)) (goodIn_sub (fun _ h => List.mem_cons_of_mem _ (List.mem_append_right _ (List.mem_append_right _ (List.mem_append_right _ (List.mem_append_right _ (List.mem_append_left _ h)))))) (by decide +kernel))
set_option maxRecDepth 20000 in
theorem gv_k_X3_eachInstance_2 : GoodIn vs_k_X3_eachInstance (wsV RX3 142 RX8 yX8_valuesFor vs_k_X8_valuesFor) := goodIn_app (goodIn_sub (by decide +kernel) (by decide +kernel)) (goodIn_sub (fun _ h => List.mem_cons_of_mem _ (List.mem_append_right _ (List.mem_append_right _ (List.mem_append_right _ (List.mem_append_right _ (List.mem_append_left _ h)))))) (by decide +kernel))
set_option maxRecDepth 20000 in
theorem gv_k_X3_eachInstance_3 : GoodIn vs_k_X3_eachInstance (wsV RX3 142 RX8 yX8_valuesFor vs_k_X8_valuesFor) := goodIn_app (goodIn_sub (by decide +kernel) (by decide +kernel)) (goodIn_sub (fun _ h => List.mem_cons_of_mem _ (List.mem_append_right _ (List.mem_append_right _ (List.mem_append_right _ (List.mem_append_right _ (List.mem_append_left _ h)))))) (by decide +kernel))
set_option maxRecDepth 20000 in
theorem gv_k_X3_eachInstance_4 : GoodIn vs_k_X3_eachInstance (wsV RX3 138 RX3 yX3_mayHold vs_k_X3_mayHold) := goodIn_app (goodIn_sub (by decide +kernel) (by decide +kernel)) (goodIn_sub (fun _ h => List.mem_cons_of_mem _ (List.mem_append_right _ (List.mem_append_right _ (List.mem_append_right _ (List.mem_append_left _ h))))) (by decide +kernel))
set_option maxRecDepth 20000 in
theorem gv_k_X3_eachInstance_5 : GoodIn vs_k_X3_eachInstance (wsV RX3 138 RX3 yX3_mayHold vs_k_X3_mayHold) := goodIn_app (goodIn_sub (by decide +kernel) (by decide +kernel)) (goodIn_sub (fun _ h => List.mem_cons_of_mem _ (List.mem_append_right _ (List.mem_append_right _ (List.mem_append_right _ (List.mem_append_left _ h))))) (by decide +kernel))
set_option maxRecDepth 20000 in
theorem gv_k_X3_eachInstance_6 : GoodIn vs_k_X3_eachInstance (wsV RX3 138 RX3 yX3_mayHold vs_k_X3_mayHold) := goodIn_app (goodIn_sub (by decide +kernel) (by decide +kernel)) (goodIn_sub (fun _ h => List.mem_cons_of_mem _ (List.mem_append_right _ (List.mem_append_right _ (List.mem_append_right _ (List.mem_append_left _ h))))) (by decide +kernel))
set_option maxRecDepth 20000 in
theorem gv_k_X3_eachInstance_7 : GoodIn vs_k_X3_eachInstance (wsV RX3 154 RX3 yX3_takeInstance vs_k_X3_takeInstance) := goodIn_app (goodIn_sub (by decide +kernel) (by decide +kernel)) (goodIn_sub (fun _ h => List.mem_cons_of_mem _ (List.mem_append_right _ (List.mem_append_right _ (List.mem_append_right _ (List.mem_append_right _ (List.mem_append_right _ (h))))))) (by decide +kernel))
set_option maxHeartbeats 4000000 in
set_option maxRecDepth 100000 in
theorem k_X3_eachInstance (l : Launch) (D : va_G) (ty : Nat → ClassId) (td mi sz : Nat) (pp : pT) (X : Nat → Nat) (hn : Int32) (kn : Int32) (on : Int32) (cu : Int32) (pu : Int32) (gw : Int32) (b_1 : Int32) (b_2 : Int32) (b_3 : Int32) (b_p : Int32) (su : Nat → Int64) (po : Nat → Int64) (hds : Nat → Int32) (kr : Nat → Int32) (kv : Nat → Int32) (kb : Nat → Int32) (a0 : Nat) (a1 : Int32) (a2 : Int32) (hok : pOK pp) (hm_a0 : a0 ∈ pRA pp) (TT : r_k_X3_eachInstance) (hTT : TT = m_k_X3_eachInstance pp hn kn pu gw b_1 b_2 b_3 su po hds kr kv kb a0 a1 a2) : Met l yX3_eachInstance vs_k_X3_eachInstance { frames := 4, cells := 0, slots := 0, locals := 97 } (va_Pc [.ref (X 8), .ref a0, .int a1, .int a2] (wq_P D ty td mi ((wW_k_X3_eachInstance ty X hn kn on cu pu gw b_1 b_2 b_3 b_p su po hds kr kv kb) ++ pw ty pp) sz)) (va_Qv (fun u : va_W => ((u = ((wW_k_X3_eachInstance ty X TT.2.2.2.2.2.2.2.1 TT.2.2.2.2.2.2.2.2.1 on cu pu TT.2.2.2.2.2.2.1 TT.2.2.2.2.2.2.2.2.2.1 TT.2.2.2.2.2.2.2.2.2.2.1 TT.2.2.2.2.2.2.2.2.2.2.2.1 TT.2.2.2.2.2.2.2.2.2.2.2.2 TT.1 TT.2.1 TT.2.2.1 TT.2.2.2.1 TT.2.2.2.2.1 TT.2.2.2.2.2.1) ++ pw ty pp)))) (wq_B D (va_A ((wW_k_X3_eachInstance ty X hn kn on cu pu gw b_1 b_2 b_3 b_p su po hds kr kv kb) ++ pw ty pp) sz)) (va_A ((wW_k_X3_eachInstance ty X hn kn on cu pu gw b_1 b_2 b_3 b_p su po hds kr kv kb) ++ pw ty pp) sz)) 0 0 (va_A ((wW_k_X3_eachInstance ty X hn kn on cu pu gw b_1 b_2 b_3 b_p su po hds kr kv kb) ++ pw ty pp) sz) := by
  refine Met.ofW (cc := cX3_eachInstance) (maxL := 10) (ret := none) (by decide) rfl ?_
  intro p e s m args below meth c s₁ B hml hv
  obtain ⟨rfl, hsz, hP, hK, hD0, hE⟩ := hv
  have hx := B.exec
  have hb := B.bytes
  have hr := B.returns
  have hts := atoms_spec (ws := vs_k_X3_eachInstance) B.pre
  have hown : s.vm.findClass RX3 = some m.cls := findClass_of_methodNamed B.named
  have hlocks := B.notSynchronized
  subst hsz
  have hD := hD0.self (sz := s.heap.size)
  generalize hAe : va_A ((wW_k_X3_eachInstance ty X hn kn on cu pu gw b_1 b_2 b_3 b_p su po hds kr kv kb) ++ pw ty pp) s.heap.size = A at hD hE ⊢
  have hA : ∀ q : Nat, s.heap.size ≤ q → A q := fun q h => by rw [← hAe]; exact Or.inr h
  have hS : va_S A s.heap s.heap [] := va_S.rf
  have hP : va_P D vwCl ((wW_k_X3_eachInstance ty X hn kn on cu pu gw b_1 b_2 b_3 b_p su po hds kr kv kb) ++ pw ty pp) s.heap := hP
  have hl := lv_entry ([.ref (X 8), .ref a0, .int a1, .int a2]) (n := 10) (Nat.le_of_ble_eq_true rfl)
  rw [lg_entry_eq]
  generalize (lg_sl ([.ref (X 8), .ref a0, .int a1, .int a2]) ++ List.replicate (10 - (lg_sl ([.ref (X 8), .ref a0, .int a1, .int a2])).length) Slot.unset).toArray = ls at hl ⊢
  have hl : lv_has ls 10 [(0, .ref (X 8)), (1, .ref a0), (2, .int a1), (3, .int a2)] := hl
  have END : ∀ (w9_0 : Nat → Int64) (w9_1 : Nat → Int64) (w9_2 : Nat → Int32) (w9_3 : Nat → Int32) (w9_4 : Nat → Int32) (w9_5 : Nat → Int32) (w9_6 : Int32) (w9_7 : Int32) (w9_8 : Int32) (w9_9 : Int32) (w9_10 : Int32) (w9_11 : Int32) (w9_12 : Int32), TT = (w9_0, w9_1, w9_2, w9_3, w9_4, w9_5, w9_6, w9_7, w9_8, w9_9, w9_10, w9_11, w9_12) → ∀ (H : Heap) (locs : List Loc), va_P D vwCl ((wW_k_X3_eachInstance ty X w9_7 w9_8 on cu pu w9_6 w9_9 w9_10 w9_11 w9_12 w9_0 w9_1 w9_2 w9_3 w9_4 w9_5) ++ pw ty pp) H → va_D A ((wW_k_X3_eachInstance ty X w9_7 w9_8 on cu pu w9_6 w9_9 w9_10 w9_11 w9_12 w9_0 w9_1 w9_2 w9_3 w9_4 w9_5) ++ pw ty pp) → va_S A s.heap H locs → ∀ (ls : Array Slot) (pc : Nat), decode cX3_eachInstance pc = .ok (.return_, 1) → W p l e (headSpec vs_k_X3_eachInstance { frames := 4, cells := 0, slots := 0, locals := 97 }).room s m ([.ref (X 8), .ref a0, .int a1, .int a2] : List Value).toArray below meth c H locs 0 0 (MQ below (va_Qv (fun u : va_W => ((u = ((wW_k_X3_eachInstance ty X TT.2.2.2.2.2.2.2.1 TT.2.2.2.2.2.2.2.2.1 on cu pu TT.2.2.2.2.2.2.1 TT.2.2.2.2.2.2.2.2.2.1 TT.2.2.2.2.2.2.2.2.2.2.1 TT.2.2.2.2.2.2.2.2.2.2.2.1 TT.2.2.2.2.2.2.2.2.2.2.2.2 TT.1 TT.2.1 TT.2.2.1 TT.2.2.2.1 TT.2.2.2.2.1 TT.2.2.2.2.2.1) ++ pw ty pp)))) (wq_B D A) A) ([.ref (X 8), .ref a0, .int a1, .int a2] : List Value).toArray s 0 0 A) (F0 m pc ls []) := by
    intro w9_0 w9_1 w9_2 w9_3 w9_4 w9_5 w9_6 w9_7 w9_8 w9_9 w9_10 w9_11 w9_12 hT H locs hP hD hS ls pc hd
    have hM : TT = (w9_0, w9_1, w9_2, w9_3, w9_4, w9_5, w9_6, w9_7, w9_8, w9_9, w9_10, w9_11, w9_12) := hT
    exact W.vret hx hb hr (fun t ht hW => ⟨⟨((wW_k_X3_eachInstance ty X w9_7 w9_8 on cu pu w9_6 w9_9 w9_10 w9_11 w9_12 w9_0 w9_1 w9_2 w9_3 w9_4 w9_5) ++ pw ty pp), rfl, (by rw [hM]), wq_B.of ht hP hD⟩, hS.F ht⟩) hS.2.2 hd
  have hT := hTT
  rw [m_k_X3_eachInstance] at hT
  refine lv_aload_n hx hb dX3_eachInstance_0 rfl (lv_at hl 0 rfl) ?_
  refine va_get (D := D) (ci := 5) (v := .ref (X 9)) (C := RX3) (T := TX3) (N := 16) hx hb hts iv_k_X3_eachInstance_X3 hown hK hP 0 rfl rfl 1 (by decide) (hts (.fieldLink RX3 12 "AnswerFold$Grounding" "binding" "LAnswerFold$Binding;") (by decide +kernel)) (fun _ h9 => h9) rfl dX3_eachInstance_1 ?_
  refine lv_iload_n hx hb dX3_eachInstance_4 rfl (lv_at hl 3 rfl) ?_
  refine va_putN (D := D) (ci := 4) (v := .int a2) (ty := tyX2 3) (C := RX2) (T := TX2) (N := 4) hx hb hts iv_k_X3_eachInstance_X2 tyX2 tyX2_ok nmX2 hown hK hP hD hS 1 rfl rfl 3 (by decide) (hE.at (.fieldLinkNest "AnswerFold$Grounding" 135 "AnswerFold$Binding" "parameter" "I" "AnswerFold") (by decide +kernel)) (fun _ h9 => h9) rfl (by decide +kernel) rfl rfl (Nat.le_of_ble_eq_true rfl) dX3_eachInstance_5 (fun H locs hP hD hS => ?_)
  have hP : va_P D vwCl ((wW_k_X3_eachInstance ty X hn kn on cu pu gw b_1 b_2 b_3 a2 su po hds kr kv kb) ++ pw ty pp) H := hP
  have hD : va_D A ((wW_k_X3_eachInstance ty X hn kn on cu pu gw b_1 b_2 b_3 a2 su po hds kr kv kb) ++ pw ty pp) := hD
  refine lv_iload_n hx hb dX3_eachInstance_8 rfl (lv_at hl 3 rfl) ?_
  refine lv_iconst (v := (-1)) hx hb dX3_eachInstance_9 (by decide) ?_
  refine lv_icmp_eq (tgt := 22) hx hb dX3_eachInstance_10 (by decide) (fun c_1 => ?_) (fun c_1 => ?_)
  · rw [if_pos c_1] at hT
    exact END su po hds kr kv kb gw hn kn b_1 b_2 b_3 a2 hT _ _ hP hD hS _ _ dX3_eachInstance_22
  · rw [if_neg c_1] at hT
    refine lv_aload_n hx hb dX3_eachInstance_13 rfl (lv_at hl 0 rfl) ?_
    refine lv_aload_n hx hb dX3_eachInstance_14 rfl (lv_at hl 1 rfl) ?_
    refine lv_iconst (v := 0) hx hb dX3_eachInstance_15 (by decide) ?_
    obtain ⟨t_16, ht_16⟩ : ∃ t, t = m_k_X3_mayHold pp pu b_1 b_2 b_3 a2 su po a0 0 := ⟨_, rfl⟩
    rw [lE_eq ht_16] at hT
    refine wq_iPW (wc := (wW_k_X3_mayHold ty X hn kn on cu pu gw b_1 b_2 b_3 a2 su po)) (pl := pw ty pp) (ux := (wW_k_X3_mayHold ty X hn kn on cu pu gw b_1 b_2 b_3 a2 su po)) (va_runV (As := [.ref a0, .int 0]) (rest := []) ⟨hx, hb, hml, hown, hts⟩ (k_X3_mayHold l D ty td mi H.size pp X hn kn on cu pu gw b_1 b_2 b_3 a2 su po a0 0 hok hm_a0 t_16 ht_16) (cwV 2 hts gv_k_X3_eachInstance_0 rfl rfl rfl (by decide +kernel) ⟨(Nat.le_of_ble_eq_true rfl), (Nat.le_of_ble_eq_true rfl)⟩) (wm_V (wm_preSP hP hD hK hE hS hA [true, true, true, true, true, true] rfl) (va_recv (q0 := 0) (ci := 5) hK hP rfl rfl)) rfl rfl hl.1 rfl (lv_room (Nat.le_of_ble_eq_true rfl)) dX3_eachInstance_16 ⟨(Nat.le_of_ble_eq_true rfl), (Nat.le_of_ble_eq_true rfl)⟩) hS hA hP hD [true, true, true, true, true, true] rfl rfl (fun _ _ h => h.2.2) (fun r H locs hw hP hD hS => ?_)
    obtain ⟨hr0, c_4, -⟩ := hw
    subst r
    have hP : va_P D vwCl ((wW_k_X3_eachInstance ty X hn kn on cu pu gw b_1 b_2 b_3 a2 su po hds kr kv kb) ++ pw ty pp) H := hP
    have hD : va_D A ((wW_k_X3_eachInstance ty X hn kn on cu pu gw b_1 b_2 b_3 a2 su po hds kr kv kb) ++ pw ty pp) := hD
    refine W.widen (k := 0) (n := 0) (Nat.le_of_ble_eq_true rfl) (Nat.le_of_ble_eq_true rfl) ?_
    refine lv_if_ne (tgt := 23) hx hb dX3_eachInstance_19 (by decide) (fun c_5 => ?_) (fun c_5 => ?_)
    · rw [if_neg c_5] at hT
      refine lv_aload_n hx hb dX3_eachInstance_23 rfl (lv_at hl 1 rfl) ?_
      refine lv_iconst (v := 1) hx hb dX3_eachInstance_24 (by decide) ?_
      obtain ⟨t_25, ht_25⟩ : ∃ t, t = m_k_X8_valuesFor pp a0 1 := ⟨_, rfl⟩
      rw [lE_eq ht_25] at hT
      obtain ⟨k_6, hk_6⟩ := List.getElem?_of_mem (pw_rule (ty := ty) (p := pp) (L := [((X 8), .inr (5, [.ref (X 1), .ref (X 9), .ref (X 10), .ref (X 12), .ref (X 14), .int hn, .ref (X 15), .ref (X 16), .ref (X 17), .int kn, .ref (X 18), .ref (X 19), .int on, .int cu, .int pu, .int gw])), ((X 9), .inr (4, [.int b_1, .int b_2, .int b_3, .int a2])), ((X 10), .inr (3, [.ref (X 11)])), ((X 11), .inl (ty 1, 6, .inr (.inl su))), ((X 12), .inr (3, [.ref (X 13)])), ((X 13), .inl (ty 1, 6, .inr (.inl po))), ((X 14), .inl (ty 0, 16, .inl hds)), ((X 15), .inl (ty 0, 300, .inl kr)), ((X 16), .inl (ty 0, 300, .inl kv)), ((X 17), .inl (ty 0, 20, .inl kb))]) hm_a0)
      refine wq_iPW (wc := []) (pl := pw ty pp) (ux := []) (va_runV (As := [.int 1]) (rest := []) ⟨hx, hb, hml, hown, hts⟩ (k_X8_valuesFor l D ty td mi H.size pp a0 1 hok hm_a0 t_25 ht_25) (cwV 1 hts gv_k_X3_eachInstance_1 rfl rfl rfl (by decide +kernel) ⟨(Nat.le_of_ble_eq_true rfl), (Nat.le_of_ble_eq_true rfl)⟩) (wm_V (wm_preSP hP hD hK hE hS hA [] rfl) (va_recv (q0 := k_6) (ci := 10) hK hP rfl hk_6)) rfl rfl hl.1 rfl (lv_room (Nat.le_of_ble_eq_true rfl)) dX3_eachInstance_25 ⟨(Nat.le_of_ble_eq_true rfl), (Nat.le_of_ble_eq_true rfl)⟩) hS hA hP hD [] rfl rfl (fun _ _ h => h.2) (fun r H locs hw hP hD hS => ?_)
      obtain ⟨hr0, -⟩ := hw
      subst r
      have hP : va_P D vwCl ((wW_k_X3_eachInstance ty X hn kn on cu pu gw b_1 b_2 b_3 a2 su po hds kr kv kb) ++ pw ty pp) H := hP
      have hD : va_D A ((wW_k_X3_eachInstance ty X hn kn on cu pu gw b_1 b_2 b_3 a2 su po hds kr kv kb) ++ pw ty pp) := hD
      refine W.widen (k := 0) (n := 0) (Nat.le_of_ble_eq_true rfl) (Nat.le_of_ble_eq_true rfl) ?_
      refine lv_istore (lv' := [(4, .int t_25), (0, .ref (X 8)), (1, .ref a0), (2, .int a1), (3, .int a2)]) hx hb dX3_eachInstance_28 hl (by decide) rfl (fun ls hl => ?_)
      refine lv_aload_n hx hb dX3_eachInstance_30 rfl (lv_at hl 2 rfl) ?_
      refine lv_iconst (v := 2) hx hb dX3_eachInstance_31 (by decide) ?_
      obtain ⟨t_32, ht_32⟩ : ∃ t, t = m_k_X8_valuesFor pp a0 2 := ⟨_, rfl⟩
      rw [lE_eq ht_32] at hT
      obtain ⟨k_9, hk_9⟩ := List.getElem?_of_mem (pw_rule (ty := ty) (p := pp) (L := [((X 8), .inr (5, [.ref (X 1), .ref (X 9), .ref (X 10), .ref (X 12), .ref (X 14), .int hn, .ref (X 15), .ref (X 16), .ref (X 17), .int kn, .ref (X 18), .ref (X 19), .int on, .int cu, .int pu, .int gw])), ((X 9), .inr (4, [.int b_1, .int b_2, .int b_3, .int a2])), ((X 10), .inr (3, [.ref (X 11)])), ((X 11), .inl (ty 1, 6, .inr (.inl su))), ((X 12), .inr (3, [.ref (X 13)])), ((X 13), .inl (ty 1, 6, .inr (.inl po))), ((X 14), .inl (ty 0, 16, .inl hds)), ((X 15), .inl (ty 0, 300, .inl kr)), ((X 16), .inl (ty 0, 300, .inl kv)), ((X 17), .inl (ty 0, 20, .inl kb))]) hm_a0)
      refine wq_iPW (wc := []) (pl := pw ty pp) (ux := []) (va_runV (As := [.int 2]) (rest := []) ⟨hx, hb, hml, hown, hts⟩ (k_X8_valuesFor l D ty td mi H.size pp a0 2 hok hm_a0 t_32 ht_32) (cwV 1 hts gv_k_X3_eachInstance_2 rfl rfl rfl (by decide +kernel) ⟨(Nat.le_of_ble_eq_true rfl), (Nat.le_of_ble_eq_true rfl)⟩) (wm_V (wm_preSP hP hD hK hE hS hA [] rfl) (va_recv (q0 := k_9) (ci := 10) hK hP rfl hk_9)) rfl rfl hl.1 rfl (lv_room (Nat.le_of_ble_eq_true rfl)) dX3_eachInstance_32 ⟨(Nat.le_of_ble_eq_true rfl), (Nat.le_of_ble_eq_true rfl)⟩) hS hA hP hD [] rfl rfl (fun _ _ h => h.2) (fun r H locs hw hP hD hS => ?_)
      obtain ⟨hr0, -⟩ := hw
      subst r
      have hP : va_P D vwCl ((wW_k_X3_eachInstance ty X hn kn on cu pu gw b_1 b_2 b_3 a2 su po hds kr kv kb) ++ pw ty pp) H := hP
      have hD : va_D A ((wW_k_X3_eachInstance ty X hn kn on cu pu gw b_1 b_2 b_3 a2 su po hds kr kv kb) ++ pw ty pp) := hD
      refine W.widen (k := 0) (n := 0) (Nat.le_of_ble_eq_true rfl) (Nat.le_of_ble_eq_true rfl) ?_
      refine lv_istore (lv' := [(5, .int t_32), (4, .int t_25), (0, .ref (X 8)), (1, .ref a0), (2, .int a1), (3, .int a2)]) hx hb dX3_eachInstance_35 hl (by decide) rfl (fun ls hl => ?_)
      refine lv_aload_n hx hb dX3_eachInstance_37 rfl (lv_at hl 3 rfl) ?_
      refine lv_iconst (v := 3) hx hb dX3_eachInstance_38 (by decide) ?_
      obtain ⟨t_39, ht_39⟩ : ∃ t, t = m_k_X8_valuesFor pp a0 3 := ⟨_, rfl⟩
      rw [lE_eq ht_39] at hT
      obtain ⟨k_12, hk_12⟩ := List.getElem?_of_mem (pw_rule (ty := ty) (p := pp) (L := [((X 8), .inr (5, [.ref (X 1), .ref (X 9), .ref (X 10), .ref (X 12), .ref (X 14), .int hn, .ref (X 15), .ref (X 16), .ref (X 17), .int kn, .ref (X 18), .ref (X 19), .int on, .int cu, .int pu, .int gw])), ((X 9), .inr (4, [.int b_1, .int b_2, .int b_3, .int a2])), ((X 10), .inr (3, [.ref (X 11)])), ((X 11), .inl (ty 1, 6, .inr (.inl su))), ((X 12), .inr (3, [.ref (X 13)])), ((X 13), .inl (ty 1, 6, .inr (.inl po))), ((X 14), .inl (ty 0, 16, .inl hds)), ((X 15), .inl (ty 0, 300, .inl kr)), ((X 16), .inl (ty 0, 300, .inl kv)), ((X 17), .inl (ty 0, 20, .inl kb))]) hm_a0)
      refine wq_iPW (wc := []) (pl := pw ty pp) (ux := []) (va_runV (As := [.int 3]) (rest := []) ⟨hx, hb, hml, hown, hts⟩ (k_X8_valuesFor l D ty td mi H.size pp a0 3 hok hm_a0 t_39 ht_39) (cwV 1 hts gv_k_X3_eachInstance_3 rfl rfl rfl (by decide +kernel) ⟨(Nat.le_of_ble_eq_true rfl), (Nat.le_of_ble_eq_true rfl)⟩) (wm_V (wm_preSP hP hD hK hE hS hA [] rfl) (va_recv (q0 := k_12) (ci := 10) hK hP rfl hk_12)) rfl rfl hl.1 rfl (lv_room (Nat.le_of_ble_eq_true rfl)) dX3_eachInstance_39 ⟨(Nat.le_of_ble_eq_true rfl), (Nat.le_of_ble_eq_true rfl)⟩) hS hA hP hD [] rfl rfl (fun _ _ h => h.2) (fun r H locs hw hP hD hS => ?_)
      obtain ⟨hr0, -⟩ := hw
      subst r
      have hP : va_P D vwCl ((wW_k_X3_eachInstance ty X hn kn on cu pu gw b_1 b_2 b_3 a2 su po hds kr kv kb) ++ pw ty pp) H := hP
      have hD : va_D A ((wW_k_X3_eachInstance ty X hn kn on cu pu gw b_1 b_2 b_3 a2 su po hds kr kv kb) ++ pw ty pp) := hD
      refine W.widen (k := 0) (n := 0) (Nat.le_of_ble_eq_true rfl) (Nat.le_of_ble_eq_true rfl) ?_
      refine lv_istore (lv' := [(6, .int t_39), (5, .int t_32), (4, .int t_25), (0, .ref (X 8)), (1, .ref a0), (2, .int a1), (3, .int a2)]) hx hb dX3_eachInstance_42 hl (by decide) rfl (fun ls hl => ?_)
      refine lv_iconst (v := 0) hx hb dX3_eachInstance_44 (by decide) ?_
      refine lv_istore (lv' := [(7, .int 0), (6, .int t_39), (5, .int t_32), (4, .int t_25), (0, .ref (X 8)), (1, .ref a0), (2, .int a1), (3, .int a2)]) hx hb dX3_eachInstance_45 hl (by decide) rfl (fun ls hl => ?_)
      have L_47 : ∀ (n_47 : Nat) (v7_47 : Int32) (x11_f_47 : Nat → Int64) (x13_f_47 : Nat → Int64) (x14_f_47 : Nat → Int32) (x15_f_47 : Nat → Int32) (x16_f_47 : Nat → Int32) (x17_f_47 : Nat → Int32) (x8_15_47 : Int32) (x8_5_47 : Int32) (x8_9_47 : Int32) (x9_0_47 : Int32) (x9_1_47 : Int32) (x9_2_47 : Int32), (2147483648 - v7_47.toInt).toNat < n_47 → TT = m_k_X3_eachInstance_47 pp pu a0 a1 a2 t_25 t_32 t_39 n_47 v7_47 x11_f_47 x13_f_47 x14_f_47 x15_f_47 x16_f_47 x17_f_47 x8_15_47 x8_5_47 x8_9_47 x9_0_47 x9_1_47 x9_2_47 → 0 ≤ v7_47.toInt → ∀ (H : Heap) (locs : List Loc), va_P D vwCl ((wW_k_X3_eachInstance ty X x8_5_47 x8_9_47 on cu pu x8_15_47 x9_0_47 x9_1_47 x9_2_47 a2 x11_f_47 x13_f_47 x14_f_47 x15_f_47 x16_f_47 x17_f_47) ++ pw ty pp) H → va_D A ((wW_k_X3_eachInstance ty X x8_5_47 x8_9_47 on cu pu x8_15_47 x9_0_47 x9_1_47 x9_2_47 a2 x11_f_47 x13_f_47 x14_f_47 x15_f_47 x16_f_47 x17_f_47) ++ pw ty pp) → va_S A s.heap H locs → ∀ ls : Array Slot, lv_has ls 10 [(0, .ref (X 8)), (1, .ref a0), (2, .int a1), (4, .int t_25), (5, .int t_32), (6, .int t_39), (7, .int v7_47)] → W p l e (headSpec vs_k_X3_eachInstance { frames := 4, cells := 0, slots := 0, locals := 97 }).room s m ([.ref (X 8), .ref a0, .int a1, .int a2] : List Value).toArray below meth c H locs 0 0 (MQ below (va_Qv (fun u : va_W => ((u = ((wW_k_X3_eachInstance ty X TT.2.2.2.2.2.2.2.1 TT.2.2.2.2.2.2.2.2.1 on cu pu TT.2.2.2.2.2.2.1 TT.2.2.2.2.2.2.2.2.2.1 TT.2.2.2.2.2.2.2.2.2.2.1 TT.2.2.2.2.2.2.2.2.2.2.2.1 TT.2.2.2.2.2.2.2.2.2.2.2.2 TT.1 TT.2.1 TT.2.2.1 TT.2.2.2.1 TT.2.2.2.2.1 TT.2.2.2.2.2.1) ++ pw ty pp)))) (wq_B D A) A) ([.ref (X 8), .ref a0, .int a1, .int a2] : List Value).toArray s 0 0 A) (F0 m 47 ls []) := by
        intro n_47
        induction n_47 with
        | zero => intro v7_47 x11_f_47 x13_f_47 x14_f_47 x15_f_47 x16_f_47 x17_f_47 x8_15_47 x8_5_47 x8_9_47 x9_0_47 x9_1_47 x9_2_47 hu; exact absurd hu (Nat.not_lt_zero _)
        | succ n_47 ih_47 =>
          intro v7_47 x11_f_47 x13_f_47 x14_f_47 x15_f_47 x16_f_47 x17_f_47 x8_15_47 x8_5_47 x8_9_47 x9_0_47 x9_1_47 x9_2_47 hu_47 hT hn_47 H locs hP hD hS ls hl
          rw [m_k_X3_eachInstance_47_succ, m_k_X3_eachInstance_47s] at hT
          refine lv_iload hx hb dX3_eachInstance_47 (lv_at hl 6 rfl) ?_
          refine lv_iload hx hb dX3_eachInstance_49 (lv_at hl 3 rfl) ?_
          refine lv_icmp_ge (tgt := 158) hx hb dX3_eachInstance_51 (by decide) (fun c_15 => ?_) (fun c_15 => ?_)
          · rw [if_pos c_15] at hT
            exact END x11_f_47 x13_f_47 x14_f_47 x15_f_47 x16_f_47 x17_f_47 x8_15_47 x8_5_47 x8_9_47 x9_0_47 x9_1_47 x9_2_47 a2 hT _ _ hP hD hS _ _ dX3_eachInstance_158
          · rw [if_neg c_15] at hT
            refine lv_aload_n hx hb dX3_eachInstance_54 rfl (lv_at hl 0 rfl) ?_
            refine va_get (D := D) (ci := 5) (v := .ref (X 9)) (C := RX3) (T := TX3) (N := 16) hx hb hts iv_k_X3_eachInstance_X3 hown hK hP 0 rfl rfl 1 (by decide) (hts (.fieldLink RX3 12 "AnswerFold$Grounding" "binding" "LAnswerFold$Binding;") (by decide +kernel)) (fun _ h9 => h9) rfl dX3_eachInstance_55 ?_
            refine lv_iload hx hb dX3_eachInstance_58 (lv_at hl 6 rfl) ?_
            refine va_putN (D := D) (ci := 4) (v := .int v7_47) (ty := tyX2 0) (C := RX2) (T := TX2) (N := 4) hx hb hts iv_k_X3_eachInstance_X2 tyX2 tyX2_ok nmX2 hown hK hP hD hS 1 rfl rfl 0 (by decide) (hE.at (.fieldLinkNest "AnswerFold$Grounding" 145 "AnswerFold$Binding" "first" "I" "AnswerFold") (by decide +kernel)) (fun _ h9 => h9) rfl (by decide +kernel) rfl rfl (Nat.le_of_ble_eq_true rfl) dX3_eachInstance_60 (fun H locs hP hD hS => ?_)
            have hP : va_P D vwCl ((wW_k_X3_eachInstance ty X x8_5_47 x8_9_47 on cu pu x8_15_47 v7_47 x9_1_47 x9_2_47 a2 x11_f_47 x13_f_47 x14_f_47 x15_f_47 x16_f_47 x17_f_47) ++ pw ty pp) H := hP
            have hD : va_D A ((wW_k_X3_eachInstance ty X x8_5_47 x8_9_47 on cu pu x8_15_47 v7_47 x9_1_47 x9_2_47 a2 x11_f_47 x13_f_47 x14_f_47 x15_f_47 x16_f_47 x17_f_47) ++ pw ty pp) := hD
            refine lv_aload_n hx hb dX3_eachInstance_63 rfl (lv_at hl 0 rfl) ?_
            refine lv_aload_n hx hb dX3_eachInstance_64 rfl (lv_at hl 1 rfl) ?_
            refine lv_iconst (v := 1) hx hb dX3_eachInstance_65 (by decide) ?_
            obtain ⟨t_66, ht_66⟩ : ∃ t, t = m_k_X3_mayHold pp pu v7_47 x9_1_47 x9_2_47 a2 x11_f_47 x13_f_47 a0 1 := ⟨_, rfl⟩
            rw [lE_eq ht_66] at hT
            refine wq_iPW (wc := (wW_k_X3_mayHold ty X x8_5_47 x8_9_47 on cu pu x8_15_47 v7_47 x9_1_47 x9_2_47 a2 x11_f_47 x13_f_47)) (pl := pw ty pp) (ux := (wW_k_X3_mayHold ty X x8_5_47 x8_9_47 on cu pu x8_15_47 v7_47 x9_1_47 x9_2_47 a2 x11_f_47 x13_f_47)) (va_runV (As := [.ref a0, .int 1]) (rest := []) ⟨hx, hb, hml, hown, hts⟩ (k_X3_mayHold l D ty td mi H.size pp X x8_5_47 x8_9_47 on cu pu x8_15_47 v7_47 x9_1_47 x9_2_47 a2 x11_f_47 x13_f_47 a0 1 hok hm_a0 t_66 ht_66) (cwV 2 hts gv_k_X3_eachInstance_4 rfl rfl rfl (by decide +kernel) ⟨(Nat.le_of_ble_eq_true rfl), (Nat.le_of_ble_eq_true rfl)⟩) (wm_V (wm_preSP hP hD hK hE hS hA [true, true, true, true, true, true] rfl) (va_recv (q0 := 0) (ci := 5) hK hP rfl rfl)) rfl rfl hl.1 rfl (lv_room (Nat.le_of_ble_eq_true rfl)) dX3_eachInstance_66 ⟨(Nat.le_of_ble_eq_true rfl), (Nat.le_of_ble_eq_true rfl)⟩) hS hA hP hD [true, true, true, true, true, true] rfl rfl (fun _ _ h => h.2.2) (fun r H locs hw hP hD hS => ?_)
            obtain ⟨hr0, c_18, -⟩ := hw
            subst r
            have hP : va_P D vwCl ((wW_k_X3_eachInstance ty X x8_5_47 x8_9_47 on cu pu x8_15_47 v7_47 x9_1_47 x9_2_47 a2 x11_f_47 x13_f_47 x14_f_47 x15_f_47 x16_f_47 x17_f_47) ++ pw ty pp) H := hP
            have hD : va_D A ((wW_k_X3_eachInstance ty X x8_5_47 x8_9_47 on cu pu x8_15_47 v7_47 x9_1_47 x9_2_47 a2 x11_f_47 x13_f_47 x14_f_47 x15_f_47 x16_f_47 x17_f_47) ++ pw ty pp) := hD
            refine W.widen (k := 0) (n := 0) (Nat.le_of_ble_eq_true rfl) (Nat.le_of_ble_eq_true rfl) ?_
            have J_152 : ∀ (x11_f_152 : Nat → Int64) (x13_f_152 : Nat → Int64) (x14_f_152 : Nat → Int32) (x15_f_152 : Nat → Int32) (x16_f_152 : Nat → Int32) (x17_f_152 : Nat → Int32) (x8_15_152 : Int32) (x8_5_152 : Int32) (x8_9_152 : Int32) (x9_1_152 : Int32) (x9_2_152 : Int32), TT = m_k_X3_eachInstance_152 (m_k_X3_eachInstance_47 pp pu a0 a1 a2 t_25 t_32 t_39 n_47) v7_47 x11_f_152 x13_f_152 x14_f_152 x15_f_152 x16_f_152 x17_f_152 x8_15_152 x8_5_152 x8_9_152 x9_1_152 x9_2_152 → ∀ (H : Heap) (locs : List Loc), va_P D vwCl ((wW_k_X3_eachInstance ty X x8_5_152 x8_9_152 on cu pu x8_15_152 v7_47 x9_1_152 x9_2_152 a2 x11_f_152 x13_f_152 x14_f_152 x15_f_152 x16_f_152 x17_f_152) ++ pw ty pp) H → va_D A ((wW_k_X3_eachInstance ty X x8_5_152 x8_9_152 on cu pu x8_15_152 v7_47 x9_1_152 x9_2_152 a2 x11_f_152 x13_f_152 x14_f_152 x15_f_152 x16_f_152 x17_f_152) ++ pw ty pp) → va_S A s.heap H locs → ∀ ls : Array Slot, lv_has ls 10 [(0, .ref (X 8)), (1, .ref a0), (2, .int a1), (4, .int t_25), (5, .int t_32), (6, .int t_39), (7, .int v7_47)] → W p l e (headSpec vs_k_X3_eachInstance { frames := 4, cells := 0, slots := 0, locals := 97 }).room s m ([.ref (X 8), .ref a0, .int a1, .int a2] : List Value).toArray below meth c H locs 0 0 (MQ below (va_Qv (fun u : va_W => ((u = ((wW_k_X3_eachInstance ty X TT.2.2.2.2.2.2.2.1 TT.2.2.2.2.2.2.2.2.1 on cu pu TT.2.2.2.2.2.2.1 TT.2.2.2.2.2.2.2.2.2.1 TT.2.2.2.2.2.2.2.2.2.2.1 TT.2.2.2.2.2.2.2.2.2.2.2.1 TT.2.2.2.2.2.2.2.2.2.2.2.2 TT.1 TT.2.1 TT.2.2.1 TT.2.2.2.1 TT.2.2.2.2.1 TT.2.2.2.2.2.1) ++ pw ty pp)))) (wq_B D A) A) ([.ref (X 8), .ref a0, .int a1, .int a2] : List Value).toArray s 0 0 A) (F0 m 152 ls []) := by
              intro x11_f_152 x13_f_152 x14_f_152 x15_f_152 x16_f_152 x17_f_152 x8_15_152 x8_5_152 x8_9_152 x9_1_152 x9_2_152 hT  H locs hP hD hS ls hl
              rw [m_k_X3_eachInstance_152] at hT
              refine lv_iinc (v := v7_47 + 1) (lv' := [(7, .int (v7_47 + 1)), (0, .ref (X 8)), (1, .ref a0), (2, .int a1), (4, .int t_25), (5, .int t_32), (6, .int t_39)]) hx hb dX3_eachInstance_152 hl (k := 6) rfl (by rfl) (by decide) rfl (fun ls hl => ?_)
              refine lv_goto (tgt := 47) hx hb dX3_eachInstance_155 (by decide) ?_
              exact ih_47 (v7_47 + 1) x11_f_152 x13_f_152 x14_f_152 x15_f_152 x16_f_152 x17_f_152 x8_15_152 x8_5_152 x8_9_152 v7_47 x9_1_152 x9_2_152 (wi_up hu_47 (Int32.not_le.mp c_15)) hT (wi_inc hn_47 (Int32.not_le.mp c_15)) _ _ hP hD hS _ (lv_sub hl [1, 2, 3, 4, 5, 6, 0] rfl)
            refine lv_if_ne (tgt := 75) hx hb dX3_eachInstance_69 (by decide) (fun c_19 => ?_) (fun c_19 => ?_)
            · rw [if_neg c_19] at hT
              refine lv_iconst (v := 0) hx hb dX3_eachInstance_75 (by decide) ?_
              refine lv_istore (lv' := [(8, .int 0), (0, .ref (X 8)), (1, .ref a0), (2, .int a1), (4, .int t_25), (5, .int t_32), (6, .int t_39), (7, .int v7_47)]) hx hb dX3_eachInstance_76 hl (by decide) rfl (fun ls hl => ?_)
              have L_78 : ∀ (n_78 : Nat) (v8_78 : Int32) (x11_f_78 : Nat → Int64) (x13_f_78 : Nat → Int64) (x14_f_78 : Nat → Int32) (x15_f_78 : Nat → Int32) (x16_f_78 : Nat → Int32) (x17_f_78 : Nat → Int32) (x8_15_78 : Int32) (x8_5_78 : Int32) (x8_9_78 : Int32) (x9_1_78 : Int32) (x9_2_78 : Int32), (2147483648 - v8_78.toInt).toNat < n_78 → TT = m_k_X3_eachInstance_78 pp pu a0 a1 a2 (m_k_X3_eachInstance_47 pp pu a0 a1 a2 t_25 t_32 t_39 n_47) t_32 t_39 v7_47 n_78 v8_78 x11_f_78 x13_f_78 x14_f_78 x15_f_78 x16_f_78 x17_f_78 x8_15_78 x8_5_78 x8_9_78 x9_1_78 x9_2_78 → 0 ≤ v8_78.toInt → ∀ (H : Heap) (locs : List Loc), va_P D vwCl ((wW_k_X3_eachInstance ty X x8_5_78 x8_9_78 on cu pu x8_15_78 v7_47 x9_1_78 x9_2_78 a2 x11_f_78 x13_f_78 x14_f_78 x15_f_78 x16_f_78 x17_f_78) ++ pw ty pp) H → va_D A ((wW_k_X3_eachInstance ty X x8_5_78 x8_9_78 on cu pu x8_15_78 v7_47 x9_1_78 x9_2_78 a2 x11_f_78 x13_f_78 x14_f_78 x15_f_78 x16_f_78 x17_f_78) ++ pw ty pp) → va_S A s.heap H locs → ∀ ls : Array Slot, lv_has ls 10 [(0, .ref (X 8)), (1, .ref a0), (2, .int a1), (4, .int t_25), (5, .int t_32), (6, .int t_39), (7, .int v7_47), (8, .int v8_78)] → W p l e (headSpec vs_k_X3_eachInstance { frames := 4, cells := 0, slots := 0, locals := 97 }).room s m ([.ref (X 8), .ref a0, .int a1, .int a2] : List Value).toArray below meth c H locs 0 0 (MQ below (va_Qv (fun u : va_W => ((u = ((wW_k_X3_eachInstance ty X TT.2.2.2.2.2.2.2.1 TT.2.2.2.2.2.2.2.2.1 on cu pu TT.2.2.2.2.2.2.1 TT.2.2.2.2.2.2.2.2.2.1 TT.2.2.2.2.2.2.2.2.2.2.1 TT.2.2.2.2.2.2.2.2.2.2.2.1 TT.2.2.2.2.2.2.2.2.2.2.2.2 TT.1 TT.2.1 TT.2.2.1 TT.2.2.2.1 TT.2.2.2.2.1 TT.2.2.2.2.2.1) ++ pw ty pp)))) (wq_B D A) A) ([.ref (X 8), .ref a0, .int a1, .int a2] : List Value).toArray s 0 0 A) (F0 m 78 ls []) := by
                intro n_78
                induction n_78 with
                | zero => intro v8_78 x11_f_78 x13_f_78 x14_f_78 x15_f_78 x16_f_78 x17_f_78 x8_15_78 x8_5_78 x8_9_78 x9_1_78 x9_2_78 hu; exact absurd hu (Nat.not_lt_zero _)
                | succ n_78 ih_78 =>
                  intro v8_78 x11_f_78 x13_f_78 x14_f_78 x15_f_78 x16_f_78 x17_f_78 x8_15_78 x8_5_78 x8_9_78 x9_1_78 x9_2_78 hu_78 hT hn_78 H locs hP hD hS ls hl
                  rw [m_k_X3_eachInstance_78_succ, m_k_X3_eachInstance_78s] at hT
                  refine lv_iload hx hb dX3_eachInstance_78 (lv_at hl 7 rfl) ?_
                  refine lv_iload hx hb dX3_eachInstance_80 (lv_at hl 4 rfl) ?_
                  refine lv_icmp_ge (tgt := 152) hx hb dX3_eachInstance_82 (by decide) (fun c_20 => ?_) (fun c_20 => ?_)
                  · rw [if_pos c_20] at hT
                    exact J_152 x11_f_78 x13_f_78 x14_f_78 x15_f_78 x16_f_78 x17_f_78 x8_15_78 x8_5_78 x8_9_78 x9_1_78 x9_2_78 hT _ _ hP hD hS _ (lv_sub hl [0, 1, 2, 3, 4, 5, 6] rfl)
                  · rw [if_neg c_20] at hT
                    refine lv_aload_n hx hb dX3_eachInstance_85 rfl (lv_at hl 0 rfl) ?_
                    refine va_get (D := D) (ci := 5) (v := .ref (X 9)) (C := RX3) (T := TX3) (N := 16) hx hb hts iv_k_X3_eachInstance_X3 hown hK hP 0 rfl rfl 1 (by decide) (hts (.fieldLink RX3 12 "AnswerFold$Grounding" "binding" "LAnswerFold$Binding;") (by decide +kernel)) (fun _ h9 => h9) rfl dX3_eachInstance_86 ?_
                    refine lv_iload hx hb dX3_eachInstance_89 (lv_at hl 7 rfl) ?_
                    refine va_putN (D := D) (ci := 4) (v := .int v8_78) (ty := tyX2 1) (C := RX2) (T := TX2) (N := 4) hx hb hts iv_k_X3_eachInstance_X2 tyX2 tyX2_ok nmX2 hown hK hP hD hS 1 rfl rfl 1 (by decide) (hE.at (.fieldLinkNest "AnswerFold$Grounding" 148 "AnswerFold$Binding" "second" "I" "AnswerFold") (by decide +kernel)) (fun _ h9 => h9) rfl (by decide +kernel) rfl rfl (Nat.le_of_ble_eq_true rfl) dX3_eachInstance_91 (fun H locs hP hD hS => ?_)
                    have hP : va_P D vwCl ((wW_k_X3_eachInstance ty X x8_5_78 x8_9_78 on cu pu x8_15_78 v7_47 v8_78 x9_2_78 a2 x11_f_78 x13_f_78 x14_f_78 x15_f_78 x16_f_78 x17_f_78) ++ pw ty pp) H := hP
                    have hD : va_D A ((wW_k_X3_eachInstance ty X x8_5_78 x8_9_78 on cu pu x8_15_78 v7_47 v8_78 x9_2_78 a2 x11_f_78 x13_f_78 x14_f_78 x15_f_78 x16_f_78 x17_f_78) ++ pw ty pp) := hD
                    refine lv_aload_n hx hb dX3_eachInstance_94 rfl (lv_at hl 0 rfl) ?_
                    refine lv_aload_n hx hb dX3_eachInstance_95 rfl (lv_at hl 1 rfl) ?_
                    refine lv_iconst (v := 2) hx hb dX3_eachInstance_96 (by decide) ?_
                    obtain ⟨t_97, ht_97⟩ : ∃ t, t = m_k_X3_mayHold pp pu v7_47 v8_78 x9_2_78 a2 x11_f_78 x13_f_78 a0 2 := ⟨_, rfl⟩
                    rw [lE_eq ht_97] at hT
                    refine wq_iPW (wc := (wW_k_X3_mayHold ty X x8_5_78 x8_9_78 on cu pu x8_15_78 v7_47 v8_78 x9_2_78 a2 x11_f_78 x13_f_78)) (pl := pw ty pp) (ux := (wW_k_X3_mayHold ty X x8_5_78 x8_9_78 on cu pu x8_15_78 v7_47 v8_78 x9_2_78 a2 x11_f_78 x13_f_78)) (va_runV (As := [.ref a0, .int 2]) (rest := []) ⟨hx, hb, hml, hown, hts⟩ (k_X3_mayHold l D ty td mi H.size pp X x8_5_78 x8_9_78 on cu pu x8_15_78 v7_47 v8_78 x9_2_78 a2 x11_f_78 x13_f_78 a0 2 hok hm_a0 t_97 ht_97) (cwV 2 hts gv_k_X3_eachInstance_5 rfl rfl rfl (by decide +kernel) ⟨(Nat.le_of_ble_eq_true rfl), (Nat.le_of_ble_eq_true rfl)⟩) (wm_V (wm_preSP hP hD hK hE hS hA [true, true, true, true, true, true] rfl) (va_recv (q0 := 0) (ci := 5) hK hP rfl rfl)) rfl rfl hl.1 rfl (lv_room (Nat.le_of_ble_eq_true rfl)) dX3_eachInstance_97 ⟨(Nat.le_of_ble_eq_true rfl), (Nat.le_of_ble_eq_true rfl)⟩) hS hA hP hD [true, true, true, true, true, true] rfl rfl (fun _ _ h => h.2.2) (fun r H locs hw hP hD hS => ?_)
                    obtain ⟨hr0, c_23, -⟩ := hw
                    subst r
                    have hP : va_P D vwCl ((wW_k_X3_eachInstance ty X x8_5_78 x8_9_78 on cu pu x8_15_78 v7_47 v8_78 x9_2_78 a2 x11_f_78 x13_f_78 x14_f_78 x15_f_78 x16_f_78 x17_f_78) ++ pw ty pp) H := hP
                    have hD : va_D A ((wW_k_X3_eachInstance ty X x8_5_78 x8_9_78 on cu pu x8_15_78 v7_47 v8_78 x9_2_78 a2 x11_f_78 x13_f_78 x14_f_78 x15_f_78 x16_f_78 x17_f_78) ++ pw ty pp) := hD
                    refine W.widen (k := 0) (n := 0) (Nat.le_of_ble_eq_true rfl) (Nat.le_of_ble_eq_true rfl) ?_
                    have J_146 : ∀ (x11_f_146 : Nat → Int64) (x13_f_146 : Nat → Int64) (x14_f_146 : Nat → Int32) (x15_f_146 : Nat → Int32) (x16_f_146 : Nat → Int32) (x17_f_146 : Nat → Int32) (x8_15_146 : Int32) (x8_5_146 : Int32) (x8_9_146 : Int32) (x9_2_146 : Int32), TT = m_k_X3_eachInstance_146 (m_k_X3_eachInstance_78 pp pu a0 a1 a2 (m_k_X3_eachInstance_47 pp pu a0 a1 a2 t_25 t_32 t_39 n_47) t_32 t_39 v7_47 n_78) v8_78 x11_f_146 x13_f_146 x14_f_146 x15_f_146 x16_f_146 x17_f_146 x8_15_146 x8_5_146 x8_9_146 x9_2_146 → ∀ (H : Heap) (locs : List Loc), va_P D vwCl ((wW_k_X3_eachInstance ty X x8_5_146 x8_9_146 on cu pu x8_15_146 v7_47 v8_78 x9_2_146 a2 x11_f_146 x13_f_146 x14_f_146 x15_f_146 x16_f_146 x17_f_146) ++ pw ty pp) H → va_D A ((wW_k_X3_eachInstance ty X x8_5_146 x8_9_146 on cu pu x8_15_146 v7_47 v8_78 x9_2_146 a2 x11_f_146 x13_f_146 x14_f_146 x15_f_146 x16_f_146 x17_f_146) ++ pw ty pp) → va_S A s.heap H locs → ∀ ls : Array Slot, lv_has ls 10 [(0, .ref (X 8)), (1, .ref a0), (2, .int a1), (4, .int t_25), (5, .int t_32), (6, .int t_39), (7, .int v7_47), (8, .int v8_78)] → W p l e (headSpec vs_k_X3_eachInstance { frames := 4, cells := 0, slots := 0, locals := 97 }).room s m ([.ref (X 8), .ref a0, .int a1, .int a2] : List Value).toArray below meth c H locs 0 0 (MQ below (va_Qv (fun u : va_W => ((u = ((wW_k_X3_eachInstance ty X TT.2.2.2.2.2.2.2.1 TT.2.2.2.2.2.2.2.2.1 on cu pu TT.2.2.2.2.2.2.1 TT.2.2.2.2.2.2.2.2.2.1 TT.2.2.2.2.2.2.2.2.2.2.1 TT.2.2.2.2.2.2.2.2.2.2.2.1 TT.2.2.2.2.2.2.2.2.2.2.2.2 TT.1 TT.2.1 TT.2.2.1 TT.2.2.2.1 TT.2.2.2.2.1 TT.2.2.2.2.2.1) ++ pw ty pp)))) (wq_B D A) A) ([.ref (X 8), .ref a0, .int a1, .int a2] : List Value).toArray s 0 0 A) (F0 m 146 ls []) := by
                      intro x11_f_146 x13_f_146 x14_f_146 x15_f_146 x16_f_146 x17_f_146 x8_15_146 x8_5_146 x8_9_146 x9_2_146 hT  H locs hP hD hS ls hl
                      rw [m_k_X3_eachInstance_146] at hT
                      refine lv_iinc (v := v8_78 + 1) (lv' := [(8, .int (v8_78 + 1)), (0, .ref (X 8)), (1, .ref a0), (2, .int a1), (4, .int t_25), (5, .int t_32), (6, .int t_39), (7, .int v7_47)]) hx hb dX3_eachInstance_146 hl (k := 7) rfl (by rfl) (by decide) rfl (fun ls hl => ?_)
                      refine lv_goto (tgt := 78) hx hb dX3_eachInstance_149 (by decide) ?_
                      exact ih_78 (v8_78 + 1) x11_f_146 x13_f_146 x14_f_146 x15_f_146 x16_f_146 x17_f_146 x8_15_146 x8_5_146 x8_9_146 v8_78 x9_2_146 (wi_up hu_78 (Int32.not_le.mp c_20)) hT (wi_inc hn_78 (Int32.not_le.mp c_20)) _ _ hP hD hS _ (lv_sub hl [1, 2, 3, 4, 5, 6, 7, 0] rfl)
                    refine lv_if_ne (tgt := 106) hx hb dX3_eachInstance_100 (by decide) (fun c_24 => ?_) (fun c_24 => ?_)
                    · rw [if_neg c_24] at hT
                      refine lv_iconst (v := 0) hx hb dX3_eachInstance_106 (by decide) ?_
                      refine lv_istore (lv' := [(9, .int 0), (0, .ref (X 8)), (1, .ref a0), (2, .int a1), (4, .int t_25), (5, .int t_32), (6, .int t_39), (7, .int v7_47), (8, .int v8_78)]) hx hb dX3_eachInstance_107 hl (by decide) rfl (fun ls hl => ?_)
                      have L_109 : ∀ (n_109 : Nat) (v9_109 : Int32) (x11_f_109 : Nat → Int64) (x13_f_109 : Nat → Int64) (x14_f_109 : Nat → Int32) (x15_f_109 : Nat → Int32) (x16_f_109 : Nat → Int32) (x17_f_109 : Nat → Int32) (x8_15_109 : Int32) (x8_5_109 : Int32) (x8_9_109 : Int32) (x9_2_109 : Int32), (2147483648 - v9_109.toInt).toNat < n_109 → TT = m_k_X3_eachInstance_109 pp pu a0 a1 a2 (m_k_X3_eachInstance_78 pp pu a0 a1 a2 (m_k_X3_eachInstance_47 pp pu a0 a1 a2 t_25 t_32 t_39 n_47) t_32 t_39 v7_47 n_78) t_39 v7_47 v8_78 n_109 v9_109 x11_f_109 x13_f_109 x14_f_109 x15_f_109 x16_f_109 x17_f_109 x8_15_109 x8_5_109 x8_9_109 x9_2_109 → 0 ≤ v9_109.toInt → ∀ (H : Heap) (locs : List Loc), va_P D vwCl ((wW_k_X3_eachInstance ty X x8_5_109 x8_9_109 on cu pu x8_15_109 v7_47 v8_78 x9_2_109 a2 x11_f_109 x13_f_109 x14_f_109 x15_f_109 x16_f_109 x17_f_109) ++ pw ty pp) H → va_D A ((wW_k_X3_eachInstance ty X x8_5_109 x8_9_109 on cu pu x8_15_109 v7_47 v8_78 x9_2_109 a2 x11_f_109 x13_f_109 x14_f_109 x15_f_109 x16_f_109 x17_f_109) ++ pw ty pp) → va_S A s.heap H locs → ∀ ls : Array Slot, lv_has ls 10 [(0, .ref (X 8)), (1, .ref a0), (2, .int a1), (4, .int t_25), (5, .int t_32), (6, .int t_39), (7, .int v7_47), (8, .int v8_78), (9, .int v9_109)] → W p l e (headSpec vs_k_X3_eachInstance { frames := 4, cells := 0, slots := 0, locals := 97 }).room s m ([.ref (X 8), .ref a0, .int a1, .int a2] : List Value).toArray below meth c H locs 0 0 (MQ below (va_Qv (fun u : va_W => ((u = ((wW_k_X3_eachInstance ty X TT.2.2.2.2.2.2.2.1 TT.2.2.2.2.2.2.2.2.1 on cu pu TT.2.2.2.2.2.2.1 TT.2.2.2.2.2.2.2.2.2.1 TT.2.2.2.2.2.2.2.2.2.2.1 TT.2.2.2.2.2.2.2.2.2.2.2.1 TT.2.2.2.2.2.2.2.2.2.2.2.2 TT.1 TT.2.1 TT.2.2.1 TT.2.2.2.1 TT.2.2.2.2.1 TT.2.2.2.2.2.1) ++ pw ty pp)))) (wq_B D A) A) ([.ref (X 8), .ref a0, .int a1, .int a2] : List Value).toArray s 0 0 A) (F0 m 109 ls []) := by
                        intro n_109
                        induction n_109 with
                        | zero => intro v9_109 x11_f_109 x13_f_109 x14_f_109 x15_f_109 x16_f_109 x17_f_109 x8_15_109 x8_5_109 x8_9_109 x9_2_109 hu; exact absurd hu (Nat.not_lt_zero _)
                        | succ n_109 ih_109 =>
                          intro v9_109 x11_f_109 x13_f_109 x14_f_109 x15_f_109 x16_f_109 x17_f_109 x8_15_109 x8_5_109 x8_9_109 x9_2_109 hu_109 hT hn_109 H locs hP hD hS ls hl
                          rw [m_k_X3_eachInstance_109_succ, m_k_X3_eachInstance_109s] at hT
                          refine lv_iload hx hb dX3_eachInstance_109 (lv_at hl 8 rfl) ?_
                          refine lv_iload hx hb dX3_eachInstance_111 (lv_at hl 5 rfl) ?_
                          refine lv_icmp_ge (tgt := 146) hx hb dX3_eachInstance_113 (by decide) (fun c_25 => ?_) (fun c_25 => ?_)
                          · rw [if_pos c_25] at hT
                            exact J_146 x11_f_109 x13_f_109 x14_f_109 x15_f_109 x16_f_109 x17_f_109 x8_15_109 x8_5_109 x8_9_109 x9_2_109 hT _ _ hP hD hS _ (lv_sub hl [0, 1, 2, 3, 4, 5, 6, 7] rfl)
                          · rw [if_neg c_25] at hT
                            refine lv_aload_n hx hb dX3_eachInstance_116 rfl (lv_at hl 0 rfl) ?_
                            refine va_get (D := D) (ci := 5) (v := .ref (X 9)) (C := RX3) (T := TX3) (N := 16) hx hb hts iv_k_X3_eachInstance_X3 hown hK hP 0 rfl rfl 1 (by decide) (hts (.fieldLink RX3 12 "AnswerFold$Grounding" "binding" "LAnswerFold$Binding;") (by decide +kernel)) (fun _ h9 => h9) rfl dX3_eachInstance_117 ?_
                            refine lv_iload hx hb dX3_eachInstance_120 (lv_at hl 8 rfl) ?_
                            refine va_putN (D := D) (ci := 4) (v := .int v9_109) (ty := tyX2 2) (C := RX2) (T := TX2) (N := 4) hx hb hts iv_k_X3_eachInstance_X2 tyX2 tyX2_ok nmX2 hown hK hP hD hS 1 rfl rfl 2 (by decide) (hE.at (.fieldLinkNest "AnswerFold$Grounding" 151 "AnswerFold$Binding" "third" "I" "AnswerFold") (by decide +kernel)) (fun _ h9 => h9) rfl (by decide +kernel) rfl rfl (Nat.le_of_ble_eq_true rfl) dX3_eachInstance_122 (fun H locs hP hD hS => ?_)
                            have hP : va_P D vwCl ((wW_k_X3_eachInstance ty X x8_5_109 x8_9_109 on cu pu x8_15_109 v7_47 v8_78 v9_109 a2 x11_f_109 x13_f_109 x14_f_109 x15_f_109 x16_f_109 x17_f_109) ++ pw ty pp) H := hP
                            have hD : va_D A ((wW_k_X3_eachInstance ty X x8_5_109 x8_9_109 on cu pu x8_15_109 v7_47 v8_78 v9_109 a2 x11_f_109 x13_f_109 x14_f_109 x15_f_109 x16_f_109 x17_f_109) ++ pw ty pp) := hD
                            refine lv_aload_n hx hb dX3_eachInstance_125 rfl (lv_at hl 0 rfl) ?_
                            refine lv_aload_n hx hb dX3_eachInstance_126 rfl (lv_at hl 1 rfl) ?_
                            refine lv_iconst (v := 3) hx hb dX3_eachInstance_127 (by decide) ?_
                            obtain ⟨t_128, ht_128⟩ : ∃ t, t = m_k_X3_mayHold pp pu v7_47 v8_78 v9_109 a2 x11_f_109 x13_f_109 a0 3 := ⟨_, rfl⟩
                            rw [lE_eq ht_128] at hT
                            refine wq_iPW (wc := (wW_k_X3_mayHold ty X x8_5_109 x8_9_109 on cu pu x8_15_109 v7_47 v8_78 v9_109 a2 x11_f_109 x13_f_109)) (pl := pw ty pp) (ux := (wW_k_X3_mayHold ty X x8_5_109 x8_9_109 on cu pu x8_15_109 v7_47 v8_78 v9_109 a2 x11_f_109 x13_f_109)) (va_runV (As := [.ref a0, .int 3]) (rest := []) ⟨hx, hb, hml, hown, hts⟩ (k_X3_mayHold l D ty td mi H.size pp X x8_5_109 x8_9_109 on cu pu x8_15_109 v7_47 v8_78 v9_109 a2 x11_f_109 x13_f_109 a0 3 hok hm_a0 t_128 ht_128) (cwV 2 hts gv_k_X3_eachInstance_6 rfl rfl rfl (by decide +kernel) ⟨(Nat.le_of_ble_eq_true rfl), (Nat.le_of_ble_eq_true rfl)⟩) (wm_V (wm_preSP hP hD hK hE hS hA [true, true, true, true, true, true] rfl) (va_recv (q0 := 0) (ci := 5) hK hP rfl rfl)) rfl rfl hl.1 rfl (lv_room (Nat.le_of_ble_eq_true rfl)) dX3_eachInstance_128 ⟨(Nat.le_of_ble_eq_true rfl), (Nat.le_of_ble_eq_true rfl)⟩) hS hA hP hD [true, true, true, true, true, true] rfl rfl (fun _ _ h => h.2.2) (fun r H locs hw hP hD hS => ?_)
                            obtain ⟨hr0, c_28, -⟩ := hw
                            subst r
                            have hP : va_P D vwCl ((wW_k_X3_eachInstance ty X x8_5_109 x8_9_109 on cu pu x8_15_109 v7_47 v8_78 v9_109 a2 x11_f_109 x13_f_109 x14_f_109 x15_f_109 x16_f_109 x17_f_109) ++ pw ty pp) H := hP
                            have hD : va_D A ((wW_k_X3_eachInstance ty X x8_5_109 x8_9_109 on cu pu x8_15_109 v7_47 v8_78 v9_109 a2 x11_f_109 x13_f_109 x14_f_109 x15_f_109 x16_f_109 x17_f_109) ++ pw ty pp) := hD
                            refine W.widen (k := 0) (n := 0) (Nat.le_of_ble_eq_true rfl) (Nat.le_of_ble_eq_true rfl) ?_
                            have J_140 : ∀ (x11_f_140 : Nat → Int64) (x13_f_140 : Nat → Int64) (x14_f_140 : Nat → Int32) (x15_f_140 : Nat → Int32) (x16_f_140 : Nat → Int32) (x17_f_140 : Nat → Int32) (x8_15_140 : Int32) (x8_5_140 : Int32) (x8_9_140 : Int32) (x9_2_140 : Int32), TT = m_k_X3_eachInstance_140 (m_k_X3_eachInstance_109 pp pu a0 a1 a2 (m_k_X3_eachInstance_78 pp pu a0 a1 a2 (m_k_X3_eachInstance_47 pp pu a0 a1 a2 t_25 t_32 t_39 n_47) t_32 t_39 v7_47 n_78) t_39 v7_47 v8_78 n_109) v9_109 x11_f_140 x13_f_140 x14_f_140 x15_f_140 x16_f_140 x17_f_140 x8_15_140 x8_5_140 x8_9_140 x9_2_140 → ∀ (H : Heap) (locs : List Loc), va_P D vwCl ((wW_k_X3_eachInstance ty X x8_5_140 x8_9_140 on cu pu x8_15_140 v7_47 v8_78 x9_2_140 a2 x11_f_140 x13_f_140 x14_f_140 x15_f_140 x16_f_140 x17_f_140) ++ pw ty pp) H → va_D A ((wW_k_X3_eachInstance ty X x8_5_140 x8_9_140 on cu pu x8_15_140 v7_47 v8_78 x9_2_140 a2 x11_f_140 x13_f_140 x14_f_140 x15_f_140 x16_f_140 x17_f_140) ++ pw ty pp) → va_S A s.heap H locs → ∀ ls : Array Slot, lv_has ls 10 [(0, .ref (X 8)), (1, .ref a0), (2, .int a1), (4, .int t_25), (5, .int t_32), (6, .int t_39), (7, .int v7_47), (8, .int v8_78), (9, .int v9_109)] → W p l e (headSpec vs_k_X3_eachInstance { frames := 4, cells := 0, slots := 0, locals := 97 }).room s m ([.ref (X 8), .ref a0, .int a1, .int a2] : List Value).toArray below meth c H locs 0 0 (MQ below (va_Qv (fun u : va_W => ((u = ((wW_k_X3_eachInstance ty X TT.2.2.2.2.2.2.2.1 TT.2.2.2.2.2.2.2.2.1 on cu pu TT.2.2.2.2.2.2.1 TT.2.2.2.2.2.2.2.2.2.1 TT.2.2.2.2.2.2.2.2.2.2.1 TT.2.2.2.2.2.2.2.2.2.2.2.1 TT.2.2.2.2.2.2.2.2.2.2.2.2 TT.1 TT.2.1 TT.2.2.1 TT.2.2.2.1 TT.2.2.2.2.1 TT.2.2.2.2.2.1) ++ pw ty pp)))) (wq_B D A) A) ([.ref (X 8), .ref a0, .int a1, .int a2] : List Value).toArray s 0 0 A) (F0 m 140 ls []) := by
                              intro x11_f_140 x13_f_140 x14_f_140 x15_f_140 x16_f_140 x17_f_140 x8_15_140 x8_5_140 x8_9_140 x9_2_140 hT  H locs hP hD hS ls hl
                              rw [m_k_X3_eachInstance_140] at hT
                              refine lv_iinc (v := v9_109 + 1) (lv' := [(9, .int (v9_109 + 1)), (0, .ref (X 8)), (1, .ref a0), (2, .int a1), (4, .int t_25), (5, .int t_32), (6, .int t_39), (7, .int v7_47), (8, .int v8_78)]) hx hb dX3_eachInstance_140 hl (k := 8) rfl (by rfl) (by decide) rfl (fun ls hl => ?_)
                              refine lv_goto (tgt := 109) hx hb dX3_eachInstance_143 (by decide) ?_
                              exact ih_109 (v9_109 + 1) x11_f_140 x13_f_140 x14_f_140 x15_f_140 x16_f_140 x17_f_140 x8_15_140 x8_5_140 x8_9_140 x9_2_140 (wi_up hu_109 (Int32.not_le.mp c_25)) hT (wi_inc hn_109 (Int32.not_le.mp c_25)) _ _ hP hD hS _ (lv_sub hl [1, 2, 3, 4, 5, 6, 7, 8, 0] rfl)
                            refine lv_if_eq (tgt := 140) hx hb dX3_eachInstance_131 (by decide) (fun c_29 => ?_) (fun c_29 => ?_)
                            · rw [if_pos c_29] at hT
                              exact J_140 x11_f_109 x13_f_109 x14_f_109 x15_f_109 x16_f_109 x17_f_109 x8_15_109 x8_5_109 x8_9_109 v9_109 hT _ _ hP hD hS _ (lv_sub hl [0, 1, 2, 3, 4, 5, 6, 7, 8] rfl)
                            · rw [if_neg c_29] at hT
                              refine lv_aload_n hx hb dX3_eachInstance_134 rfl (lv_at hl 0 rfl) ?_
                              refine lv_aload_n hx hb dX3_eachInstance_135 rfl (lv_at hl 1 rfl) ?_
                              refine lv_iload_n hx hb dX3_eachInstance_136 rfl (lv_at hl 2 rfl) ?_
                              obtain ⟨t_137, ht_137⟩ : ∃ t, t = m_k_X3_takeInstance pp x8_9_109 pu x8_15_109 v7_47 v8_78 v9_109 a2 x11_f_109 x13_f_109 x14_f_109 x15_f_109 x16_f_109 x17_f_109 a0 a1 := ⟨_, rfl⟩
                              rw [lE_eq ht_137] at hT
                              refine wq_vPW (wc := (wW_k_X3_takeInstance ty X x8_5_109 x8_9_109 on cu pu x8_15_109 v7_47 v8_78 v9_109 a2 x11_f_109 x13_f_109 x14_f_109 x15_f_109 x16_f_109 x17_f_109)) (pl := pw ty pp) (ux := (wW_k_X3_takeInstance ty X t_137.2.2.2.2.2.2.2.1 t_137.2.2.2.2.2.2.2.2.1 on cu pu t_137.2.2.2.2.2.2.1 v7_47 v8_78 t_137.2.2.2.2.2.2.2.2.2 a2 t_137.1 t_137.2.1 t_137.2.2.1 t_137.2.2.2.1 t_137.2.2.2.2.1 t_137.2.2.2.2.2.1)) (va_runV (As := [.ref a0, .int a1]) (rest := []) ⟨hx, hb, hml, hown, hts⟩ (k_X3_takeInstance l D ty td mi H.size pp X x8_5_109 x8_9_109 on cu pu x8_15_109 v7_47 v8_78 v9_109 a2 x11_f_109 x13_f_109 x14_f_109 x15_f_109 x16_f_109 x17_f_109 a0 a1 hok hm_a0 t_137 ht_137) (cwV 2 hts gv_k_X3_eachInstance_7 rfl rfl rfl (by decide +kernel) ⟨(Nat.le_of_ble_eq_true rfl), (Nat.le_of_ble_eq_true rfl)⟩) (wm_V (wm_preSP hP hD hK hE hS hA [true, true, true, true, true, true, true, true, true, true] rfl) (va_recv (q0 := 0) (ci := 5) hK hP rfl rfl)) rfl rfl hl.1 rfl (lv_room (Nat.le_of_ble_eq_true rfl)) dX3_eachInstance_137 ⟨(Nat.le_of_ble_eq_true rfl), (Nat.le_of_ble_eq_true rfl)⟩) hS hA hP hD [true, true, true, true, true, true, true, true, true, true] rfl rfl (fun _ h => h) (fun  H locs hw hP hD hS => ?_)
                              have hP : va_P D vwCl ((wW_k_X3_eachInstance ty X t_137.2.2.2.2.2.2.2.1 t_137.2.2.2.2.2.2.2.2.1 on cu pu t_137.2.2.2.2.2.2.1 v7_47 v8_78 t_137.2.2.2.2.2.2.2.2.2 a2 t_137.1 t_137.2.1 t_137.2.2.1 t_137.2.2.2.1 t_137.2.2.2.2.1 t_137.2.2.2.2.2.1) ++ pw ty pp) H := hP
                              have hD : va_D A ((wW_k_X3_eachInstance ty X t_137.2.2.2.2.2.2.2.1 t_137.2.2.2.2.2.2.2.2.1 on cu pu t_137.2.2.2.2.2.2.1 v7_47 v8_78 t_137.2.2.2.2.2.2.2.2.2 a2 t_137.1 t_137.2.1 t_137.2.2.1 t_137.2.2.2.1 t_137.2.2.2.2.1 t_137.2.2.2.2.2.1) ++ pw ty pp) := hD
                              refine W.widen (k := 0) (n := 0) (Nat.le_of_ble_eq_true rfl) (Nat.le_of_ble_eq_true rfl) ?_
                              exact J_140 t_137.1 t_137.2.1 t_137.2.2.1 t_137.2.2.2.1 t_137.2.2.2.2.1 t_137.2.2.2.2.2.1 t_137.2.2.2.2.2.2.1 t_137.2.2.2.2.2.2.2.1 t_137.2.2.2.2.2.2.2.2.1 t_137.2.2.2.2.2.2.2.2.2 hT _ _ hP hD hS _ (lv_sub hl [0, 1, 2, 3, 4, 5, 6, 7, 8] rfl)
                      exact L_109 wF 0 x11_f_78 x13_f_78 x14_f_78 x15_f_78 x16_f_78 x17_f_78 x8_15_78 x8_5_78 x8_9_78 x9_2_78 (wF_up 0) hT (by decide) _ _ hP hD hS _ (lv_sub hl [1, 2, 3, 4, 5, 6, 7, 8, 0] rfl)
                    · rw [if_pos c_24] at hT
                      refine lv_goto (tgt := 146) hx hb dX3_eachInstance_103 (by decide) ?_
                      exact J_146 x11_f_78 x13_f_78 x14_f_78 x15_f_78 x16_f_78 x17_f_78 x8_15_78 x8_5_78 x8_9_78 x9_2_78 hT _ _ hP hD hS _ (lv_sub hl [0, 1, 2, 3, 4, 5, 6, 7] rfl)
              exact L_78 wF 0 x11_f_47 x13_f_47 x14_f_47 x15_f_47 x16_f_47 x17_f_47 x8_15_47 x8_5_47 x8_9_47 x9_1_47 x9_2_47 (wF_up 0) hT (by decide) _ _ hP hD hS _ (lv_sub hl [1, 2, 3, 4, 5, 6, 7, 0] rfl)
            · rw [if_pos c_19] at hT
              refine lv_goto (tgt := 152) hx hb dX3_eachInstance_72 (by decide) ?_
              exact J_152 x11_f_47 x13_f_47 x14_f_47 x15_f_47 x16_f_47 x17_f_47 x8_15_47 x8_5_47 x8_9_47 x9_1_47 x9_2_47 hT _ _ hP hD hS _ (lv_sub hl [0, 1, 2, 3, 4, 5, 6] rfl)
      exact L_47 wF 0 su po hds kr kv kb gw hn kn b_1 b_2 b_3 (wF_up 0) hT (by decide) _ _ hP hD hS _ (lv_sub hl [4, 5, 6, 3, 2, 1, 0] rfl)
    · rw [if_pos c_5] at hT
      exact END su po hds kr kv kb gw hn kn b_1 b_2 b_3 a2 hT _ _ hP hD hS _ _ dX3_eachInstance_22
theorem dX3_keepInstances_0 : decode cX3_keepInstances 0 = .ok (.aload_n 0, 1) := by decide +kernel
theorem dX3_keepInstances_1 : decode cX3_keepInstances 1 = .ok (.iconst 0, 1) := by decide +kernel
theorem dX3_keepInstances_2 : decode cX3_keepInstances 2 = .ok (.putfield 132, 3) := by decide +kernel
theorem dX3_keepInstances_5 : decode cX3_keepInstances 5 = .ok (.iconst 0, 1) := by decide +kernel
theorem dX3_keepInstances_6 : decode cX3_keepInstances 6 = .ok (.istore_n 1, 1) := by decide +kernel
theorem dX3_keepInstances_7 : decode cX3_keepInstances 7 = .ok (.iload_n 1, 1) := by decide +kernel
theorem dX3_keepInstances_8 : decode cX3_keepInstances 8 = .ok (.bipush 20, 2) := by decide +kernel
theorem dX3_keepInstances_10 : decode cX3_keepInstances 10 = .ok (.if_icmp .ge 66, 3) := by decide +kernel
theorem dX3_keepInstances_13 : decode cX3_keepInstances 13 = .ok (.aload_n 0, 1) := by decide +kernel
theorem dX3_keepInstances_14 : decode cX3_keepInstances 14 = .ok (.getfield 38, 3) := by decide +kernel
theorem dX3_keepInstances_17 : decode cX3_keepInstances 17 = .ok (.iload_n 1, 1) := by decide +kernel
theorem dX3_keepInstances_18 : decode cX3_keepInstances 18 = .ok (.iconst 0, 1) := by decide +kernel
theorem dX3_keepInstances_19 : decode cX3_keepInstances 19 = .ok (.iastore, 1) := by decide +kernel
theorem dX3_keepInstances_20 : decode cX3_keepInstances 20 = .ok (.aload_n 0, 1) := by decide +kernel
theorem dX3_keepInstances_21 : decode cX3_keepInstances 21 = .ok (.getfield 47, 3) := by decide +kernel
theorem dX3_keepInstances_24 : decode cX3_keepInstances 24 = .ok (.iload_n 1, 1) := by decide +kernel
theorem dX3_keepInstances_25 : decode cX3_keepInstances 25 = .ok (.invokevirtual 97, 3) := by decide +kernel
theorem dX3_keepInstances_28 : decode cX3_keepInstances 28 = .ok (.astore_n 2, 1) := by decide +kernel
theorem dX3_keepInstances_29 : decode cX3_keepInstances 29 = .ok (.iconst 0, 1) := by decide +kernel
theorem dX3_keepInstances_30 : decode cX3_keepInstances 30 = .ok (.istore_n 3, 1) := by decide +kernel
theorem dX3_keepInstances_31 : decode cX3_keepInstances 31 = .ok (.aload_n 2, 1) := by decide +kernel
theorem dX3_keepInstances_32 : decode cX3_keepInstances 32 = .ok (.ifnull 38, 3) := by decide +kernel
theorem dX3_keepInstances_35 : decode cX3_keepInstances 35 = .ok (.iload_n 3, 1) := by decide +kernel
theorem dX3_keepInstances_36 : decode cX3_keepInstances 36 = .ok (.aload_n 0, 1) := by decide +kernel
theorem dX3_keepInstances_37 : decode cX3_keepInstances 37 = .ok (.getfield 47, 3) := by decide +kernel
theorem dX3_keepInstances_40 : decode cX3_keepInstances 40 = .ok (.getfield 104, 3) := by decide +kernel
theorem dX3_keepInstances_43 : decode cX3_keepInstances 43 = .ok (.if_icmp .ge 27, 3) := by decide +kernel
theorem dX3_keepInstances_46 : decode cX3_keepInstances 46 = .ok (.aload_n 0, 1) := by decide +kernel
theorem dX3_keepInstances_47 : decode cX3_keepInstances 47 = .ok (.aload_n 2, 1) := by decide +kernel
theorem dX3_keepInstances_48 : decode cX3_keepInstances 48 = .ok (.iload_n 1, 1) := by decide +kernel
theorem dX3_keepInstances_49 : decode cX3_keepInstances 49 = .ok (.aload_n 0, 1) := by decide +kernel
theorem dX3_keepInstances_50 : decode cX3_keepInstances 50 = .ok (.getfield 47, 3) := by decide +kernel
theorem dX3_keepInstances_53 : decode cX3_keepInstances 53 = .ok (.iload_n 3, 1) := by decide +kernel
theorem dX3_keepInstances_54 : decode cX3_keepInstances 54 = .ok (.aload_n 2, 1) := by decide +kernel
theorem dX3_keepInstances_55 : decode cX3_keepInstances 55 = .ok (.getfield 107, 3) := by decide +kernel
theorem dX3_keepInstances_58 : decode cX3_keepInstances 58 = .ok (.invokevirtual 112, 3) := by decide +kernel
theorem dX3_keepInstances_61 : decode cX3_keepInstances 61 = .ok (.invokevirtual 116, 3) := by decide +kernel
theorem dX3_keepInstances_64 : decode cX3_keepInstances 64 = .ok (.iinc 3 1, 3) := by decide +kernel
theorem dX3_keepInstances_67 : decode cX3_keepInstances 67 = .ok (.goto (-36), 3) := by decide +kernel
theorem dX3_keepInstances_70 : decode cX3_keepInstances 70 = .ok (.iinc 1 1, 3) := by decide +kernel
theorem dX3_keepInstances_73 : decode cX3_keepInstances 73 = .ok (.goto (-66), 3) := by decide +kernel
theorem dX3_keepInstances_76 : decode cX3_keepInstances 76 = .ok (.return_, 1) := by decide +kernel
def wW_k_X3_keepInstances (ty : Nat → ClassId) (X : Nat → Nat) (z9_0 : Int32) (z9_1 : Int32) (z9_2 : Int32) (z9_3 : Int32) (z9_4 : Nat → Option Nat) (z9_5 : Nat → Int32) (z9_6 : Nat → Int32) (z9_7 : Int32) (z9_8 : Int32) (z9_9 : Int32) (z9_10 : Int32) (z9_11 : Int32) (z9_12 : Int32) (z9_13 : Int32) (z9_14 : Int32) (z9_15 : Int32) (z9_16 : Int32) (z9_17 : Nat → Int64) (z9_18 : Nat → Int64) (z9_19 : Nat → Int32) (z9_20 : Nat → Int32) (z9_21 : Nat → Int32) (z9_22 : Nat → Int32) : va_W := [((X 1), .inr (8, [.ref (X 2), .int z9_0, .ref (X 3), .int z9_1, .ref (X 4), .ref (X 5), .int z9_2, .ref (X 6), .ref (X 7), .int z9_3])), ((X 3), .inl (ty 4, 20, .inr (.inr (.inr (.inr z9_4))))), ((X 4), .inl (ty 0, 7, .inl z9_5)), ((X 5), .inl (ty 0, 7, .inl z9_6)), ((X 8), .inr (5, [.ref (X 1), .ref (X 9), .ref (X 10), .ref (X 12), .ref (X 14), .int z9_7, .ref (X 15), .ref (X 16), .ref (X 17), .int z9_8, .ref (X 18), .ref (X 19), .int z9_9, .int z9_10, .int z9_11, .int z9_12])), ((X 9), .inr (4, [.int z9_13, .int z9_14, .int z9_15, .int z9_16])), ((X 10), .inr (3, [.ref (X 11)])), ((X 11), .inl (ty 1, 6, .inr (.inl z9_17))), ((X 12), .inr (3, [.ref (X 13)])), ((X 13), .inl (ty 1, 6, .inr (.inl z9_18))), ((X 14), .inl (ty 0, 16, .inl z9_19)), ((X 15), .inl (ty 0, 300, .inl z9_20)), ((X 16), .inl (ty 0, 300, .inl z9_21)), ((X 17), .inl (ty 0, 20, .inl z9_22))]
def vs_k_X3_keepInstances : List Cond := .code yX3_keepInstances cX3_keepInstances 4 none :: ([.fieldLink RX3 132 "AnswerFold$Grounding" "keptCount" "I", .fieldLink RX3 38 "AnswerFold$Grounding" "keptByRule" "[I", .fieldLink RX3 47 "AnswerFold$Grounding" "program" "LAnswerFold$Program;", .methodLink RX3 97 yX6_ruleAt, .instanceMethod yX6_ruleAt, .selects RX6 yX6_ruleAt yX6_ruleAt, .initialized RX6, .methodLink RX3 112 yX6_parameterAt, .instanceMethod yX6_parameterAt, .selects RX6 yX6_parameterAt yX6_parameterAt, .methodLink RX3 116 yX3_eachInstance, .instanceMethod yX3_eachInstance, .selects RX3 yX3_eachInstance yX3_eachInstance, .initialized RX3] ++ (u_ws RX3 TX3 16 ++ (vs_k_X6_ruleAt ++ (u_ws RX6 TX6 10 ++ (u_ws RX8 TX8 11 ++ (vs_k_X6_parameterAt ++ (vs_k_X3_eachInstance)))))))
theorem iv_k_X3_keepInstances_X3 : ∀ w ∈ u_ws RX3 TX3 16, w ∈ vs_k_X3_keepInstances := (fun _ h => List.mem_cons_of_mem _ (List.mem_append_right _ (List.mem_append_left _ h)))
theorem iv_k_X3_keepInstances_X6 : ∀ w ∈ u_ws RX6 TX6 10, w ∈ vs_k_X3_keepInstances := (fun _ h => List.mem_cons_of_mem _ (List.mem_append_right _ (List.mem_append_right _ (List.mem_append_right _ (List.mem_append_left _ h)))))
theorem iv_k_X3_keepInstances_X8 : ∀ w ∈ u_ws RX8 TX8 11, w ∈ vs_k_X3_keepInstances := (fun _ h => List.mem_cons_of_mem _ (List.mem_append_right _ (List.mem_append_right _ (List.mem_append_right _ (List.mem_append_right _ (List.mem_append_left _ h))))))
set_option maxRecDepth 20000 in
theorem gv_k_X3_keepInstances_0 : GoodIn vs_k_X3_keepInstances (wsV RX3 97 RX6 yX6_ruleAt vs_k_X6_ruleAt) := goodIn_app (goodIn_sub (by decide +kernel) (by decide +kernel)) (goodIn_sub (fun _ h => List.mem_cons_of_mem _ (List.mem_append_right _ (List.mem_append_right _ (List.mem_append_left _ h)))) (by decide +kernel))
set_option maxRecDepth 20000 in
theorem gv_k_X3_keepInstances_1 : GoodIn vs_k_X3_keepInstances (wsV RX3 112 RX6 yX6_parameterAt vs_k_X6_parameterAt) := goodIn_app (goodIn_sub (by decide +kernel) (by decide +kernel)) (goodIn_sub (fun _ h => List.mem_cons_of_mem _ (List.mem_append_right _ (List.mem_append_right _ (List.mem_append_right _ (List.mem_append_right _ (List.mem_append_right _ (List.mem_append_left _ h))))))) (by decide +kernel))
set_option maxRecDepth 20000 in
theorem gv_k_X3_keepInstances_2 : GoodIn vs_k_X3_keepInstances (wsV RX3 116 RX3 yX3_eachInstance vs_k_X3_eachInstance) := goodIn_app (goodIn_sub (by decide +kernel) (by decide +kernel)) (goodIn_sub (fun _ h => List.mem_cons_of_mem _ (List.mem_append_right _ (List.mem_append_right _ (List.mem_append_right _ (List.mem_append_right _ (List.mem_append_right _ (List.mem_append_right _ (h)))))))) (by decide +kernel))
set_option maxHeartbeats 4000000 in
set_option maxRecDepth 100000 in
theorem k_X3_keepInstances (l : Launch) (D : va_G) (ty : Nat → ClassId) (td mi sz : Nat) (pp : pT) (X : Nat → Nat) (pn : Int32) (rn : Int32) (tn : Int32) (en : Int32) (rf : Nat → Option Nat) (tp : Nat → Int32) (tq : Nat → Int32) (hn : Int32) (kn : Int32) (on : Int32) (cu : Int32) (pu : Int32) (gw : Int32) (b_1 : Int32) (b_2 : Int32) (b_3 : Int32) (b_p : Int32) (su : Nat → Int64) (po : Nat → Int64) (hds : Nat → Int32) (kr : Nat → Int32) (kv : Nat → Int32) (kb : Nat → Int32) (hok : pOK pp) (hru : ∀ (i a : Nat), rf i = some a → a ∈ pRA pp) (TT : r_k_X3_keepInstances) (hTT : TT = m_k_X3_keepInstances pp rn tn rf tp tq hn pu gw b_1 b_2 b_3 b_p su po hds kr kv kb) : Met l yX3_keepInstances vs_k_X3_keepInstances { frames := 5, cells := 0, slots := 0, locals := 126 } (va_Pc [.ref (X 8)] (wq_P D ty td mi ((wW_k_X3_keepInstances ty X pn rn tn en rf tp tq hn kn on cu pu gw b_1 b_2 b_3 b_p su po hds kr kv kb) ++ pw ty pp) sz)) (va_Qv (fun u : va_W => ((u = ((wW_k_X3_keepInstances ty X pn rn tn en rf tp tq TT.2.2.2.2.2.2.2.1 TT.2.2.2.2.2.2.2.2.1 on cu pu TT.2.2.2.2.2.2.1 TT.2.2.2.2.2.2.2.2.2.1 TT.2.2.2.2.2.2.2.2.2.2.1 TT.2.2.2.2.2.2.2.2.2.2.2.1 TT.2.2.2.2.2.2.2.2.2.2.2.2 TT.1 TT.2.1 TT.2.2.1 TT.2.2.2.1 TT.2.2.2.2.1 TT.2.2.2.2.2.1) ++ pw ty pp)))) (wq_B D (va_A ((wW_k_X3_keepInstances ty X pn rn tn en rf tp tq hn kn on cu pu gw b_1 b_2 b_3 b_p su po hds kr kv kb) ++ pw ty pp) sz)) (va_A ((wW_k_X3_keepInstances ty X pn rn tn en rf tp tq hn kn on cu pu gw b_1 b_2 b_3 b_p su po hds kr kv kb) ++ pw ty pp) sz)) 0 0 (va_A ((wW_k_X3_keepInstances ty X pn rn tn en rf tp tq hn kn on cu pu gw b_1 b_2 b_3 b_p su po hds kr kv kb) ++ pw ty pp) sz) := by
  refine Met.ofW (cc := cX3_keepInstances) (maxL := 4) (ret := none) (by decide) rfl ?_
  intro p e s m args below meth c s₁ B hml hv
  obtain ⟨rfl, hsz, hP, hK, hD0, hE⟩ := hv
  have hx := B.exec
  have hb := B.bytes
  have hr := B.returns
  have hts := atoms_spec (ws := vs_k_X3_keepInstances) B.pre
  have hown : s.vm.findClass RX3 = some m.cls := findClass_of_methodNamed B.named
  have hlocks := B.notSynchronized
  subst hsz
  have hD := hD0.self (sz := s.heap.size)
  generalize hAe : va_A ((wW_k_X3_keepInstances ty X pn rn tn en rf tp tq hn kn on cu pu gw b_1 b_2 b_3 b_p su po hds kr kv kb) ++ pw ty pp) s.heap.size = A at hD hE ⊢
  have hA : ∀ q : Nat, s.heap.size ≤ q → A q := fun q h => by rw [← hAe]; exact Or.inr h
  have hS : va_S A s.heap s.heap [] := va_S.rf
  have hP : va_P D vwCl ((wW_k_X3_keepInstances ty X pn rn tn en rf tp tq hn kn on cu pu gw b_1 b_2 b_3 b_p su po hds kr kv kb) ++ pw ty pp) s.heap := hP
  have hl := lv_entry ([.ref (X 8)]) (n := 4) (Nat.le_of_ble_eq_true rfl)
  rw [lg_entry_eq]
  generalize (lg_sl ([.ref (X 8)]) ++ List.replicate (4 - (lg_sl ([.ref (X 8)])).length) Slot.unset).toArray = ls at hl ⊢
  have hl : lv_has ls 4 [(0, .ref (X 8))] := hl
  have END : ∀ (w9_0 : Nat → Int64) (w9_1 : Nat → Int64) (w9_2 : Nat → Int32) (w9_3 : Nat → Int32) (w9_4 : Nat → Int32) (w9_5 : Nat → Int32) (w9_6 : Int32) (w9_7 : Int32) (w9_8 : Int32) (w9_9 : Int32) (w9_10 : Int32) (w9_11 : Int32) (w9_12 : Int32), TT = (w9_0, w9_1, w9_2, w9_3, w9_4, w9_5, w9_6, w9_7, w9_8, w9_9, w9_10, w9_11, w9_12) → ∀ (H : Heap) (locs : List Loc), va_P D vwCl ((wW_k_X3_keepInstances ty X pn rn tn en rf tp tq w9_7 w9_8 on cu pu w9_6 w9_9 w9_10 w9_11 w9_12 w9_0 w9_1 w9_2 w9_3 w9_4 w9_5) ++ pw ty pp) H → va_D A ((wW_k_X3_keepInstances ty X pn rn tn en rf tp tq w9_7 w9_8 on cu pu w9_6 w9_9 w9_10 w9_11 w9_12 w9_0 w9_1 w9_2 w9_3 w9_4 w9_5) ++ pw ty pp) → va_S A s.heap H locs → ∀ (ls : Array Slot) (pc : Nat), decode cX3_keepInstances pc = .ok (.return_, 1) → W p l e (headSpec vs_k_X3_keepInstances { frames := 5, cells := 0, slots := 0, locals := 126 }).room s m ([.ref (X 8)] : List Value).toArray below meth c H locs 0 0 (MQ below (va_Qv (fun u : va_W => ((u = ((wW_k_X3_keepInstances ty X pn rn tn en rf tp tq TT.2.2.2.2.2.2.2.1 TT.2.2.2.2.2.2.2.2.1 on cu pu TT.2.2.2.2.2.2.1 TT.2.2.2.2.2.2.2.2.2.1 TT.2.2.2.2.2.2.2.2.2.2.1 TT.2.2.2.2.2.2.2.2.2.2.2.1 TT.2.2.2.2.2.2.2.2.2.2.2.2 TT.1 TT.2.1 TT.2.2.1 TT.2.2.2.1 TT.2.2.2.2.1 TT.2.2.2.2.2.1) ++ pw ty pp)))) (wq_B D A) A) ([.ref (X 8)] : List Value).toArray s 0 0 A) (F0 m pc ls []) := by
    intro w9_0 w9_1 w9_2 w9_3 w9_4 w9_5 w9_6 w9_7 w9_8 w9_9 w9_10 w9_11 w9_12 hT H locs hP hD hS ls pc hd
    have hM : TT = (w9_0, w9_1, w9_2, w9_3, w9_4, w9_5, w9_6, w9_7, w9_8, w9_9, w9_10, w9_11, w9_12) := hT
    exact W.vret hx hb hr (fun t ht hW => ⟨⟨((wW_k_X3_keepInstances ty X pn rn tn en rf tp tq w9_7 w9_8 on cu pu w9_6 w9_9 w9_10 w9_11 w9_12 w9_0 w9_1 w9_2 w9_3 w9_4 w9_5) ++ pw ty pp), rfl, (by rw [hM]), wq_B.of ht hP hD⟩, hS.F ht⟩) hS.2.2 hd
  have hT := hTT
  rw [m_k_X3_keepInstances] at hT
  refine lv_aload_n hx hb dX3_keepInstances_0 rfl (lv_at hl 0 rfl) ?_
  refine lv_iconst (v := 0) hx hb dX3_keepInstances_1 (by decide) ?_
  refine va_put (D := D) (ci := 5) (v := .int 0) (ty := tyX3 9) (C := RX3) (T := TX3) (N := 16) hx hb hts iv_k_X3_keepInstances_X3 tyX3 tyX3_ok nmX3 hown hK hP hD hS 4 rfl rfl 9 (by decide) (hts (.fieldLink RX3 132 "AnswerFold$Grounding" "keptCount" "I") (by decide +kernel)) (fun _ h9 => h9) rfl (by decide +kernel) rfl rfl (Nat.le_of_ble_eq_true rfl) dX3_keepInstances_2 (fun H locs hP hD hS => ?_)
  have hP : va_P D vwCl ((wW_k_X3_keepInstances ty X pn rn tn en rf tp tq hn (0) on cu pu gw b_1 b_2 b_3 b_p su po hds kr kv kb) ++ pw ty pp) H := hP
  have hD : va_D A ((wW_k_X3_keepInstances ty X pn rn tn en rf tp tq hn (0) on cu pu gw b_1 b_2 b_3 b_p su po hds kr kv kb) ++ pw ty pp) := hD
  refine lv_iconst (v := 0) hx hb dX3_keepInstances_5 (by decide) ?_
  refine lv_istore_n (lv' := [(1, .int 0), (0, .ref (X 8))]) hx hb dX3_keepInstances_6 rfl hl (by decide) rfl (fun ls hl => ?_)
  have L_7 : ∀ (n_7 : Nat) (v1_7 : Int32) (x11_f_7 : Nat → Int64) (x13_f_7 : Nat → Int64) (x14_f_7 : Nat → Int32) (x15_f_7 : Nat → Int32) (x16_f_7 : Nat → Int32) (x17_f_7 : Nat → Int32) (x8_15_7 : Int32) (x8_5_7 : Int32) (x8_9_7 : Int32) (x9_0_7 : Int32) (x9_1_7 : Int32) (x9_2_7 : Int32) (x9_3_7 : Int32), (2147483648 - v1_7.toInt).toNat < n_7 → TT = m_k_X3_keepInstances_7 pp rn tn rf tp tq pu n_7 v1_7 x11_f_7 x13_f_7 x14_f_7 x15_f_7 x16_f_7 x17_f_7 x8_15_7 x8_5_7 x8_9_7 x9_0_7 x9_1_7 x9_2_7 x9_3_7 → 0 ≤ v1_7.toInt → ∀ (H : Heap) (locs : List Loc), va_P D vwCl ((wW_k_X3_keepInstances ty X pn rn tn en rf tp tq x8_5_7 x8_9_7 on cu pu x8_15_7 x9_0_7 x9_1_7 x9_2_7 x9_3_7 x11_f_7 x13_f_7 x14_f_7 x15_f_7 x16_f_7 x17_f_7) ++ pw ty pp) H → va_D A ((wW_k_X3_keepInstances ty X pn rn tn en rf tp tq x8_5_7 x8_9_7 on cu pu x8_15_7 x9_0_7 x9_1_7 x9_2_7 x9_3_7 x11_f_7 x13_f_7 x14_f_7 x15_f_7 x16_f_7 x17_f_7) ++ pw ty pp) → va_S A s.heap H locs → ∀ ls : Array Slot, lv_has ls 4 [(0, .ref (X 8)), (1, .int v1_7)] → W p l e (headSpec vs_k_X3_keepInstances { frames := 5, cells := 0, slots := 0, locals := 126 }).room s m ([.ref (X 8)] : List Value).toArray below meth c H locs 0 0 (MQ below (va_Qv (fun u : va_W => ((u = ((wW_k_X3_keepInstances ty X pn rn tn en rf tp tq TT.2.2.2.2.2.2.2.1 TT.2.2.2.2.2.2.2.2.1 on cu pu TT.2.2.2.2.2.2.1 TT.2.2.2.2.2.2.2.2.2.1 TT.2.2.2.2.2.2.2.2.2.2.1 TT.2.2.2.2.2.2.2.2.2.2.2.1 TT.2.2.2.2.2.2.2.2.2.2.2.2 TT.1 TT.2.1 TT.2.2.1 TT.2.2.2.1 TT.2.2.2.2.1 TT.2.2.2.2.2.1) ++ pw ty pp)))) (wq_B D A) A) ([.ref (X 8)] : List Value).toArray s 0 0 A) (F0 m 7 ls []) := by
    intro n_7
    induction n_7 with
    | zero => intro v1_7 x11_f_7 x13_f_7 x14_f_7 x15_f_7 x16_f_7 x17_f_7 x8_15_7 x8_5_7 x8_9_7 x9_0_7 x9_1_7 x9_2_7 x9_3_7 hu; exact absurd hu (Nat.not_lt_zero _)
    | succ n_7 ih_7 =>
      intro v1_7 x11_f_7 x13_f_7 x14_f_7 x15_f_7 x16_f_7 x17_f_7 x8_15_7 x8_5_7 x8_9_7 x9_0_7 x9_1_7 x9_2_7 x9_3_7 hu_7 hT hn_7 H locs hP hD hS ls hl
      rw [m_k_X3_keepInstances_7_succ, m_k_X3_keepInstances_7s] at hT
      refine lv_iload_n hx hb dX3_keepInstances_7 rfl (lv_at hl 1 rfl) ?_
      refine lv_bipush (v := 20) hx hb dX3_keepInstances_8 (by decide) ?_
      refine lv_icmp_ge (tgt := 76) hx hb dX3_keepInstances_10 (by decide) (fun c_1 => ?_) (fun c_1 => ?_)
      · rw [if_pos c_1] at hT
        exact END x11_f_7 x13_f_7 x14_f_7 x15_f_7 x16_f_7 x17_f_7 x8_15_7 x8_5_7 x8_9_7 x9_0_7 x9_1_7 x9_2_7 x9_3_7 hT _ _ hP hD hS _ _ dX3_keepInstances_76
      · rw [if_neg c_1] at hT
        refine lv_aload_n hx hb dX3_keepInstances_13 rfl (lv_at hl 0 rfl) ?_
        refine va_get (D := D) (ci := 5) (v := .ref (X 17)) (C := RX3) (T := TX3) (N := 16) hx hb hts iv_k_X3_keepInstances_X3 hown hK hP 4 rfl rfl 8 (by decide) (hts (.fieldLink RX3 38 "AnswerFold$Grounding" "keptByRule" "[I") (by decide +kernel)) (fun _ h9 => h9) rfl dX3_keepInstances_14 ?_
        refine lv_iload_n hx hb dX3_keepInstances_17 rfl (lv_at hl 1 rfl) ?_
        refine lv_iconst (v := 0) hx hb dX3_keepInstances_18 (by decide) ?_
        refine va_iast (D := D) hx hb hK hP hD hS 13 0 rfl rfl (wi_in hn_7 (wi_hi c_1 (by decide))) dX3_keepInstances_19 (fun H locs hP hD hS => ?_)
        have hP : va_P D vwCl ((wW_k_X3_keepInstances ty X pn rn tn en rf tp tq x8_5_7 x8_9_7 on cu pu x8_15_7 x9_0_7 x9_1_7 x9_2_7 x9_3_7 x11_f_7 x13_f_7 x14_f_7 x15_f_7 x16_f_7 (upd x17_f_7 v1_7.toNatClampNeg 0)) ++ pw ty pp) H := hP
        have hD : va_D A ((wW_k_X3_keepInstances ty X pn rn tn en rf tp tq x8_5_7 x8_9_7 on cu pu x8_15_7 x9_0_7 x9_1_7 x9_2_7 x9_3_7 x11_f_7 x13_f_7 x14_f_7 x15_f_7 x16_f_7 (upd x17_f_7 v1_7.toNatClampNeg 0)) ++ pw ty pp) := hD
        refine lv_aload_n hx hb dX3_keepInstances_20 rfl (lv_at hl 0 rfl) ?_
        refine va_get (D := D) (ci := 5) (v := .ref (X 1)) (C := RX3) (T := TX3) (N := 16) hx hb hts iv_k_X3_keepInstances_X3 hown hK hP 4 rfl rfl 0 (by decide) (hts (.fieldLink RX3 47 "AnswerFold$Grounding" "program" "LAnswerFold$Program;") (by decide +kernel)) (fun _ h9 => h9) rfl dX3_keepInstances_21 ?_
        refine lv_iload_n hx hb dX3_keepInstances_24 rfl (lv_at hl 1 rfl) ?_
        obtain ⟨t_25, ht_25⟩ : ∃ t, t = m_k_X6_ruleAt rn rf v1_7 := ⟨_, rfl⟩
        rw [lE_eq ht_25] at hT
        refine wq_rPW (wc := (wW_k_X6_ruleAt ty X pn rn tn en rf)) (pl := pw ty pp) (ux := (wW_k_X6_ruleAt ty X pn rn tn en rf)) (va_runV (As := [.int v1_7]) (rest := []) ⟨hx, hb, hml, hown, hts⟩ (k_X6_ruleAt l D ty td mi H.size pp X pn rn tn en rf v1_7 hok hru t_25 ht_25) (cwV 1 hts gv_k_X3_keepInstances_0 rfl rfl rfl (by decide +kernel) ⟨(Nat.le_of_ble_eq_true rfl), (Nat.le_of_ble_eq_true rfl)⟩) (wm_V (wm_preSP hP hD hK hE hS hA [true, true] rfl) (va_recv (q0 := 0) (ci := 8) hK hP rfl rfl)) rfl rfl hl.1 rfl (lv_room (Nat.le_of_ble_eq_true rfl)) dX3_keepInstances_25 ⟨(Nat.le_of_ble_eq_true rfl), (Nat.le_of_ble_eq_true rfl)⟩) hS hA hP hD [true, true] rfl rfl (fun _ _ h => h.2) (fun r H locs hw hP hD hS => ?_)
        obtain ⟨rfl, -⟩ := hw
        have hP : va_P D vwCl ((wW_k_X3_keepInstances ty X pn rn tn en rf tp tq x8_5_7 x8_9_7 on cu pu x8_15_7 x9_0_7 x9_1_7 x9_2_7 x9_3_7 x11_f_7 x13_f_7 x14_f_7 x15_f_7 x16_f_7 (upd x17_f_7 v1_7.toNatClampNeg 0)) ++ pw ty pp) H := hP
        have hD : va_D A ((wW_k_X3_keepInstances ty X pn rn tn en rf tp tq x8_5_7 x8_9_7 on cu pu x8_15_7 x9_0_7 x9_1_7 x9_2_7 x9_3_7 x11_f_7 x13_f_7 x14_f_7 x15_f_7 x16_f_7 (upd x17_f_7 v1_7.toNatClampNeg 0)) ++ pw ty pp) := hD
        refine W.widen (k := 0) (n := 0) (Nat.le_of_ble_eq_true rfl) (Nat.le_of_ble_eq_true rfl) ?_
        rcases ho_25 : t_25 with _ | o_25
        · rw [ho_25, oE_none] at hT
          refine W.eq (g2 := F0 m 28 ls [.null]) rfl ?_
          refine lv_astore_nN (lv' := [(2, .null), (0, .ref (X 8)), (1, .int v1_7)]) hx hb dX3_keepInstances_28 rfl hl (by decide) rfl (fun ls hl => ?_)
          refine lv_iconst (v := 0) hx hb dX3_keepInstances_29 (by decide) ?_
          refine lv_istore_n (lv' := [(3, .int 0), (2, .null), (0, .ref (X 8)), (1, .int v1_7)]) hx hb dX3_keepInstances_30 rfl hl (by decide) rfl (fun ls hl => ?_)
          have L_31 : ∀ (n_31 : Nat) (v3_31 : Int32) (x11_f_31 : Nat → Int64) (x13_f_31 : Nat → Int64) (x14_f_31 : Nat → Int32) (x15_f_31 : Nat → Int32) (x16_f_31 : Nat → Int32) (x17_f_31 : Nat → Int32) (x8_15_31 : Int32) (x8_5_31 : Int32) (x8_9_31 : Int32) (x9_0_31 : Int32) (x9_1_31 : Int32) (x9_2_31 : Int32) (x9_3_31 : Int32), (2147483648 - v3_31.toInt).toNat < n_31 → TT = m_k_X3_keepInstances_31 (m_k_X3_keepInstances_7 pp rn tn rf tp tq pu n_7) v1_7 n_31 v3_31 x11_f_31 x13_f_31 x14_f_31 x15_f_31 x16_f_31 x17_f_31 x8_15_31 x8_5_31 x8_9_31 x9_0_31 x9_1_31 x9_2_31 x9_3_31 → 0 ≤ v3_31.toInt → v3_31 = 0 ∨ v3_31 = 1 → ∀ (H : Heap) (locs : List Loc), va_P D vwCl ((wW_k_X3_keepInstances ty X pn rn tn en rf tp tq x8_5_31 x8_9_31 on cu pu x8_15_31 x9_0_31 x9_1_31 x9_2_31 x9_3_31 x11_f_31 x13_f_31 x14_f_31 x15_f_31 x16_f_31 x17_f_31) ++ pw ty pp) H → va_D A ((wW_k_X3_keepInstances ty X pn rn tn en rf tp tq x8_5_31 x8_9_31 on cu pu x8_15_31 x9_0_31 x9_1_31 x9_2_31 x9_3_31 x11_f_31 x13_f_31 x14_f_31 x15_f_31 x16_f_31 x17_f_31) ++ pw ty pp) → va_S A s.heap H locs → ∀ ls : Array Slot, lv_has ls 4 [(0, .ref (X 8)), (1, .int v1_7), (2, .null), (3, .int v3_31)] → W p l e (headSpec vs_k_X3_keepInstances { frames := 5, cells := 0, slots := 0, locals := 126 }).room s m ([.ref (X 8)] : List Value).toArray below meth c H locs 0 0 (MQ below (va_Qv (fun u : va_W => ((u = ((wW_k_X3_keepInstances ty X pn rn tn en rf tp tq TT.2.2.2.2.2.2.2.1 TT.2.2.2.2.2.2.2.2.1 on cu pu TT.2.2.2.2.2.2.1 TT.2.2.2.2.2.2.2.2.2.1 TT.2.2.2.2.2.2.2.2.2.2.1 TT.2.2.2.2.2.2.2.2.2.2.2.1 TT.2.2.2.2.2.2.2.2.2.2.2.2 TT.1 TT.2.1 TT.2.2.1 TT.2.2.2.1 TT.2.2.2.2.1 TT.2.2.2.2.2.1) ++ pw ty pp)))) (wq_B D A) A) ([.ref (X 8)] : List Value).toArray s 0 0 A) (F0 m 31 ls []) := by
            intro n_31
            induction n_31 with
            | zero => intro v3_31 x11_f_31 x13_f_31 x14_f_31 x15_f_31 x16_f_31 x17_f_31 x8_15_31 x8_5_31 x8_9_31 x9_0_31 x9_1_31 x9_2_31 x9_3_31 hu; exact absurd hu (Nat.not_lt_zero _)
            | succ n_31 ih_31 =>
              intro v3_31 x11_f_31 x13_f_31 x14_f_31 x15_f_31 x16_f_31 x17_f_31 x8_15_31 x8_5_31 x8_9_31 x9_0_31 x9_1_31 x9_2_31 x9_3_31 hu_31 hT hn_31 hb_v3_31 H locs hP hD hS ls hl
              rw [m_k_X3_keepInstances_31_succ, m_k_X3_keepInstances_31s] at hT
              refine lv_aload_nN hx hb dX3_keepInstances_31 rfl (lv_at hl 2 rfl) ?_
              have J_70 : ∀ (x11_f_70 : Nat → Int64) (x13_f_70 : Nat → Int64) (x14_f_70 : Nat → Int32) (x15_f_70 : Nat → Int32) (x16_f_70 : Nat → Int32) (x17_f_70 : Nat → Int32) (x8_15_70 : Int32) (x8_5_70 : Int32) (x8_9_70 : Int32) (x9_0_70 : Int32) (x9_1_70 : Int32) (x9_2_70 : Int32) (x9_3_70 : Int32), TT = m_k_X3_keepInstances_70 (m_k_X3_keepInstances_7 pp rn tn rf tp tq pu n_7) v1_7 x11_f_70 x13_f_70 x14_f_70 x15_f_70 x16_f_70 x17_f_70 x8_15_70 x8_5_70 x8_9_70 x9_0_70 x9_1_70 x9_2_70 x9_3_70 → ∀ (H : Heap) (locs : List Loc), va_P D vwCl ((wW_k_X3_keepInstances ty X pn rn tn en rf tp tq x8_5_70 x8_9_70 on cu pu x8_15_70 x9_0_70 x9_1_70 x9_2_70 x9_3_70 x11_f_70 x13_f_70 x14_f_70 x15_f_70 x16_f_70 x17_f_70) ++ pw ty pp) H → va_D A ((wW_k_X3_keepInstances ty X pn rn tn en rf tp tq x8_5_70 x8_9_70 on cu pu x8_15_70 x9_0_70 x9_1_70 x9_2_70 x9_3_70 x11_f_70 x13_f_70 x14_f_70 x15_f_70 x16_f_70 x17_f_70) ++ pw ty pp) → va_S A s.heap H locs → ∀ ls : Array Slot, lv_has ls 4 [(0, .ref (X 8)), (1, .int v1_7)] → W p l e (headSpec vs_k_X3_keepInstances { frames := 5, cells := 0, slots := 0, locals := 126 }).room s m ([.ref (X 8)] : List Value).toArray below meth c H locs 0 0 (MQ below (va_Qv (fun u : va_W => ((u = ((wW_k_X3_keepInstances ty X pn rn tn en rf tp tq TT.2.2.2.2.2.2.2.1 TT.2.2.2.2.2.2.2.2.1 on cu pu TT.2.2.2.2.2.2.1 TT.2.2.2.2.2.2.2.2.2.1 TT.2.2.2.2.2.2.2.2.2.2.1 TT.2.2.2.2.2.2.2.2.2.2.2.1 TT.2.2.2.2.2.2.2.2.2.2.2.2 TT.1 TT.2.1 TT.2.2.1 TT.2.2.2.1 TT.2.2.2.2.1 TT.2.2.2.2.2.1) ++ pw ty pp)))) (wq_B D A) A) ([.ref (X 8)] : List Value).toArray s 0 0 A) (F0 m 70 ls []) := by
                intro x11_f_70 x13_f_70 x14_f_70 x15_f_70 x16_f_70 x17_f_70 x8_15_70 x8_5_70 x8_9_70 x9_0_70 x9_1_70 x9_2_70 x9_3_70 hT  H locs hP hD hS ls hl
                rw [m_k_X3_keepInstances_70] at hT
                refine lv_iinc (v := v1_7 + 1) (lv' := [(1, .int (v1_7 + 1)), (0, .ref (X 8))]) hx hb dX3_keepInstances_70 hl (k := 1) rfl (by rfl) (by decide) rfl (fun ls hl => ?_)
                refine lv_goto (tgt := 7) hx hb dX3_keepInstances_73 (by decide) ?_
                exact ih_7 (v1_7 + 1) x11_f_70 x13_f_70 x14_f_70 x15_f_70 x16_f_70 x17_f_70 x8_15_70 x8_5_70 x8_9_70 x9_0_70 x9_1_70 x9_2_70 x9_3_70 (wi_up hu_7 (Int32.not_le.mp c_1)) hT (wi_inc hn_7 (Int32.not_le.mp c_1)) _ _ hP hD hS _ (lv_sub hl [1, 0] rfl)
              refine lv_ifnullN (tgt := 70) hx hb dX3_keepInstances_32 (by decide) ?_
              exact J_70 x11_f_31 x13_f_31 x14_f_31 x15_f_31 x16_f_31 x17_f_31 x8_15_31 x8_5_31 x8_9_31 x9_0_31 x9_1_31 x9_2_31 x9_3_31 hT _ _ hP hD hS _ (lv_sub hl [0, 1] rfl)
          exact L_31 wF 0 x11_f_7 x13_f_7 x14_f_7 x15_f_7 x16_f_7 (upd x17_f_7 v1_7.toNatClampNeg 0) x8_15_7 x8_5_7 x8_9_7 x9_0_7 x9_1_7 x9_2_7 x9_3_7 (wF_up 0) hT (by decide) (by decide) _ _ hP hD hS _ (lv_sub hl [2, 3, 1, 0] rfl)
        · rw [ho_25, oE_some] at hT
          refine W.eq (g2 := F0 m 28 ls [.ref o_25]) rfl ?_
          refine lv_astore_n (lv' := [(2, .ref o_25), (0, .ref (X 8)), (1, .int v1_7)]) hx hb dX3_keepInstances_28 rfl hl (by decide) rfl (fun ls hl => ?_)
          refine lv_iconst (v := 0) hx hb dX3_keepInstances_29 (by decide) ?_
          refine lv_istore_n (lv' := [(3, .int 0), (2, .ref o_25), (0, .ref (X 8)), (1, .int v1_7)]) hx hb dX3_keepInstances_30 rfl hl (by decide) rfl (fun ls hl => ?_)
          have L_31a : ∀ (n_31a : Nat) (v3_31a : Int32) (x11_f_31a : Nat → Int64) (x13_f_31a : Nat → Int64) (x14_f_31a : Nat → Int32) (x15_f_31a : Nat → Int32) (x16_f_31a : Nat → Int32) (x17_f_31a : Nat → Int32) (x8_15_31a : Int32) (x8_5_31a : Int32) (x8_9_31a : Int32) (x9_0_31a : Int32) (x9_1_31a : Int32) (x9_2_31a : Int32) (x9_3_31a : Int32), (2147483648 - v3_31a.toInt).toNat < n_31a → TT = m_k_X3_keepInstances_31a pp tn tp tq pu o_25 (m_k_X3_keepInstances_7 pp rn tn rf tp tq pu n_7) v1_7 n_31a v3_31a x11_f_31a x13_f_31a x14_f_31a x15_f_31a x16_f_31a x17_f_31a x8_15_31a x8_5_31a x8_9_31a x9_0_31a x9_1_31a x9_2_31a x9_3_31a → 0 ≤ v3_31a.toInt → ∀ (H : Heap) (locs : List Loc), va_P D vwCl ((wW_k_X3_keepInstances ty X pn rn tn en rf tp tq x8_5_31a x8_9_31a on cu pu x8_15_31a x9_0_31a x9_1_31a x9_2_31a x9_3_31a x11_f_31a x13_f_31a x14_f_31a x15_f_31a x16_f_31a x17_f_31a) ++ pw ty pp) H → va_D A ((wW_k_X3_keepInstances ty X pn rn tn en rf tp tq x8_5_31a x8_9_31a on cu pu x8_15_31a x9_0_31a x9_1_31a x9_2_31a x9_3_31a x11_f_31a x13_f_31a x14_f_31a x15_f_31a x16_f_31a x17_f_31a) ++ pw ty pp) → va_S A s.heap H locs → ∀ ls : Array Slot, lv_has ls 4 [(0, .ref (X 8)), (1, .int v1_7), (2, .ref o_25), (3, .int v3_31a)] → W p l e (headSpec vs_k_X3_keepInstances { frames := 5, cells := 0, slots := 0, locals := 126 }).room s m ([.ref (X 8)] : List Value).toArray below meth c H locs 0 0 (MQ below (va_Qv (fun u : va_W => ((u = ((wW_k_X3_keepInstances ty X pn rn tn en rf tp tq TT.2.2.2.2.2.2.2.1 TT.2.2.2.2.2.2.2.2.1 on cu pu TT.2.2.2.2.2.2.1 TT.2.2.2.2.2.2.2.2.2.1 TT.2.2.2.2.2.2.2.2.2.2.1 TT.2.2.2.2.2.2.2.2.2.2.2.1 TT.2.2.2.2.2.2.2.2.2.2.2.2 TT.1 TT.2.1 TT.2.2.1 TT.2.2.2.1 TT.2.2.2.2.1 TT.2.2.2.2.2.1) ++ pw ty pp)))) (wq_B D A) A) ([.ref (X 8)] : List Value).toArray s 0 0 A) (F0 m 31 ls []) := by
            intro n_31a
            induction n_31a with
            | zero => intro v3_31a x11_f_31a x13_f_31a x14_f_31a x15_f_31a x16_f_31a x17_f_31a x8_15_31a x8_5_31a x8_9_31a x9_0_31a x9_1_31a x9_2_31a x9_3_31a hu; exact absurd hu (Nat.not_lt_zero _)
            | succ n_31a ih_31a =>
              intro v3_31a x11_f_31a x13_f_31a x14_f_31a x15_f_31a x16_f_31a x17_f_31a x8_15_31a x8_5_31a x8_9_31a x9_0_31a x9_1_31a x9_2_31a x9_3_31a hu_31a hT hn_31a H locs hP hD hS ls hl
              rw [m_k_X3_keepInstances_31a_succ, m_k_X3_keepInstances_31as] at hT
              refine lv_aload_n hx hb dX3_keepInstances_31 rfl (lv_at hl 2 rfl) ?_
              have J_70 : ∀ (x11_f_70 : Nat → Int64) (x13_f_70 : Nat → Int64) (x14_f_70 : Nat → Int32) (x15_f_70 : Nat → Int32) (x16_f_70 : Nat → Int32) (x17_f_70 : Nat → Int32) (x8_15_70 : Int32) (x8_5_70 : Int32) (x8_9_70 : Int32) (x9_0_70 : Int32) (x9_1_70 : Int32) (x9_2_70 : Int32) (x9_3_70 : Int32), TT = m_k_X3_keepInstances_70 (m_k_X3_keepInstances_7 pp rn tn rf tp tq pu n_7) v1_7 x11_f_70 x13_f_70 x14_f_70 x15_f_70 x16_f_70 x17_f_70 x8_15_70 x8_5_70 x8_9_70 x9_0_70 x9_1_70 x9_2_70 x9_3_70 → ∀ (H : Heap) (locs : List Loc), va_P D vwCl ((wW_k_X3_keepInstances ty X pn rn tn en rf tp tq x8_5_70 x8_9_70 on cu pu x8_15_70 x9_0_70 x9_1_70 x9_2_70 x9_3_70 x11_f_70 x13_f_70 x14_f_70 x15_f_70 x16_f_70 x17_f_70) ++ pw ty pp) H → va_D A ((wW_k_X3_keepInstances ty X pn rn tn en rf tp tq x8_5_70 x8_9_70 on cu pu x8_15_70 x9_0_70 x9_1_70 x9_2_70 x9_3_70 x11_f_70 x13_f_70 x14_f_70 x15_f_70 x16_f_70 x17_f_70) ++ pw ty pp) → va_S A s.heap H locs → ∀ ls : Array Slot, lv_has ls 4 [(0, .ref (X 8)), (1, .int v1_7)] → W p l e (headSpec vs_k_X3_keepInstances { frames := 5, cells := 0, slots := 0, locals := 126 }).room s m ([.ref (X 8)] : List Value).toArray below meth c H locs 0 0 (MQ below (va_Qv (fun u : va_W => ((u = ((wW_k_X3_keepInstances ty X pn rn tn en rf tp tq TT.2.2.2.2.2.2.2.1 TT.2.2.2.2.2.2.2.2.1 on cu pu TT.2.2.2.2.2.2.1 TT.2.2.2.2.2.2.2.2.2.1 TT.2.2.2.2.2.2.2.2.2.2.1 TT.2.2.2.2.2.2.2.2.2.2.2.1 TT.2.2.2.2.2.2.2.2.2.2.2.2 TT.1 TT.2.1 TT.2.2.1 TT.2.2.2.1 TT.2.2.2.2.1 TT.2.2.2.2.2.1) ++ pw ty pp)))) (wq_B D A) A) ([.ref (X 8)] : List Value).toArray s 0 0 A) (F0 m 70 ls []) := by
                intro x11_f_70 x13_f_70 x14_f_70 x15_f_70 x16_f_70 x17_f_70 x8_15_70 x8_5_70 x8_9_70 x9_0_70 x9_1_70 x9_2_70 x9_3_70 hT  H locs hP hD hS ls hl
                rw [m_k_X3_keepInstances_70] at hT
                refine lv_iinc (v := v1_7 + 1) (lv' := [(1, .int (v1_7 + 1)), (0, .ref (X 8))]) hx hb dX3_keepInstances_70 hl (k := 1) rfl (by rfl) (by decide) rfl (fun ls hl => ?_)
                refine lv_goto (tgt := 7) hx hb dX3_keepInstances_73 (by decide) ?_
                exact ih_7 (v1_7 + 1) x11_f_70 x13_f_70 x14_f_70 x15_f_70 x16_f_70 x17_f_70 x8_15_70 x8_5_70 x8_9_70 x9_0_70 x9_1_70 x9_2_70 x9_3_70 (wi_up hu_7 (Int32.not_le.mp c_1)) hT (wi_inc hn_7 (Int32.not_le.mp c_1)) _ _ hP hD hS _ (lv_sub hl [1, 0] rfl)
              refine lv_ifnull hx hb dX3_keepInstances_32 ?_
              refine lv_iload_n hx hb dX3_keepInstances_35 rfl (lv_at hl 3 rfl) ?_
              refine lv_aload_n hx hb dX3_keepInstances_36 rfl (lv_at hl 0 rfl) ?_
              refine va_get (D := D) (ci := 5) (v := .ref (X 1)) (C := RX3) (T := TX3) (N := 16) hx hb hts iv_k_X3_keepInstances_X3 hown hK hP 4 rfl rfl 0 (by decide) (hts (.fieldLink RX3 47 "AnswerFold$Grounding" "program" "LAnswerFold$Program;") (by decide +kernel)) (fun _ h9 => h9) rfl dX3_keepInstances_37 ?_
              refine va_getN (D := D) (ci := 8) (v := .int tn) (C := RX6) (T := TX6) (N := 10) hx hb hts iv_k_X3_keepInstances_X6 hown hK hP 0 rfl rfl 6 (by decide) (hE.at (.fieldLinkNest "AnswerFold$Grounding" 104 "AnswerFold$Program" "timeCount" "I" "AnswerFold") (by decide +kernel)) (fun _ h9 => h9) rfl dX3_keepInstances_40 ?_
              refine lv_icmp_ge (tgt := 70) hx hb dX3_keepInstances_43 (by decide) (fun c_4 => ?_) (fun c_4 => ?_)
              · rw [if_pos c_4] at hT
                exact J_70 x11_f_31a x13_f_31a x14_f_31a x15_f_31a x16_f_31a x17_f_31a x8_15_31a x8_5_31a x8_9_31a x9_0_31a x9_1_31a x9_2_31a x9_3_31a hT _ _ hP hD hS _ (lv_sub hl [0, 1] rfl)
              · rw [if_neg c_4] at hT
                refine lv_aload_n hx hb dX3_keepInstances_46 rfl (lv_at hl 0 rfl) ?_
                refine lv_aload_n hx hb dX3_keepInstances_47 rfl (lv_at hl 2 rfl) ?_
                refine lv_iload_n hx hb dX3_keepInstances_48 rfl (lv_at hl 1 rfl) ?_
                refine lv_aload_n hx hb dX3_keepInstances_49 rfl (lv_at hl 0 rfl) ?_
                refine va_get (D := D) (ci := 5) (v := .ref (X 1)) (C := RX3) (T := TX3) (N := 16) hx hb hts iv_k_X3_keepInstances_X3 hown hK hP 4 rfl rfl 0 (by decide) (hts (.fieldLink RX3 47 "AnswerFold$Grounding" "program" "LAnswerFold$Program;") (by decide +kernel)) (fun _ h9 => h9) rfl dX3_keepInstances_50 ?_
                refine lv_iload_n hx hb dX3_keepInstances_53 rfl (lv_at hl 3 rfl) ?_
                refine lv_aload_n hx hb dX3_keepInstances_54 rfl (lv_at hl 2 rfl) ?_
                obtain ⟨k_5, hk_5⟩ := List.getElem?_of_mem (pw_rule (ty := ty) (p := pp) (L := [((X 1), .inr (8, [.ref (X 2), .int pn, .ref (X 3), .int rn, .ref (X 4), .ref (X 5), .int tn, .ref (X 6), .ref (X 7), .int en])), ((X 3), .inl (ty 4, 20, .inr (.inr (.inr (.inr rf))))), ((X 4), .inl (ty 0, 7, .inl tp)), ((X 5), .inl (ty 0, 7, .inl tq)), ((X 8), .inr (5, [.ref (X 1), .ref (X 9), .ref (X 10), .ref (X 12), .ref (X 14), .int x8_5_31a, .ref (X 15), .ref (X 16), .ref (X 17), .int x8_9_31a, .ref (X 18), .ref (X 19), .int on, .int cu, .int pu, .int x8_15_31a])), ((X 9), .inr (4, [.int x9_0_31a, .int x9_1_31a, .int x9_2_31a, .int x9_3_31a])), ((X 10), .inr (3, [.ref (X 11)])), ((X 11), .inl (ty 1, 6, .inr (.inl x11_f_31a))), ((X 12), .inr (3, [.ref (X 13)])), ((X 13), .inl (ty 1, 6, .inr (.inl x13_f_31a))), ((X 14), .inl (ty 0, 16, .inl x14_f_31a)), ((X 15), .inl (ty 0, 300, .inl x15_f_31a)), ((X 16), .inl (ty 0, 300, .inl x16_f_31a)), ((X 17), .inl (ty 0, 20, .inl x17_f_31a))]) (mm_k_X6_ruleAt pp rn rf v1_7 hok hru _ (by rw [← ht_25]; exact ho_25)))
                refine va_getN (D := D) (ci := 10) (v := .int (pI pp o_25 1)) (C := RX8) (T := TX8) (N := 11) hx hb hts iv_k_X3_keepInstances_X8 hown hK hP k_5 hk_5 rfl 1 (by decide) (hE.at (.fieldLinkNest "AnswerFold$Grounding" 107 "AnswerFold$Rule" "part" "I" "AnswerFold") (by decide +kernel)) (fun _ h9 => h9) rfl dX3_keepInstances_55 ?_
                obtain ⟨t_58, ht_58⟩ : ∃ t, t = m_k_X6_parameterAt tp tq v3_31a (pI pp o_25 1) := ⟨_, rfl⟩
                rw [lE_eq ht_58] at hT
                refine wq_iQW (wc := (wW_k_X6_parameterAt ty X pn rn tn en tp tq)) (pl := pw ty pp) (va_runV (As := [.int v3_31a, .int (pI pp o_25 1)]) (rest := [.int v1_7, .ref o_25, .ref (X 8)]) ⟨hx, hb, hml, hown, hts⟩ (k_X6_parameterAt l D ty td mi H.size X pn rn tn en tp tq v3_31a (pI pp o_25 1) t_58 ht_58) (cwV 2 hts gv_k_X3_keepInstances_1 rfl rfl rfl (by decide +kernel) ⟨(Nat.le_of_ble_eq_true rfl), (Nat.le_of_ble_eq_true rfl)⟩) (wm_V (wm_preS (vP_left hP) (vD_left hD) hK hE hS hA [true, false, true, true] rfl) (va_recv (q0 := 0) (ci := 8) hK hP rfl rfl)) rfl rfl hl.1 rfl (lv_room (Nat.le_of_ble_eq_true rfl)) dX3_keepInstances_58 ⟨(Nat.le_of_ble_eq_true rfl), (Nat.le_of_ble_eq_true rfl)⟩) hS hA hP hD [true, false, true, true] rfl (fun _ _ h => by rcases h with ⟨-, rfl⟩; rfl) (fun r u H locs hw hP hD hS => ?_)
                obtain ⟨hr0, rfl⟩ := hw
                subst r
                have hP : va_P D vwCl ((wW_k_X3_keepInstances ty X pn rn tn en rf tp tq x8_5_31a x8_9_31a on cu pu x8_15_31a x9_0_31a x9_1_31a x9_2_31a x9_3_31a x11_f_31a x13_f_31a x14_f_31a x15_f_31a x16_f_31a x17_f_31a) ++ pw ty pp) H := hP
                have hD : va_D A ((wW_k_X3_keepInstances ty X pn rn tn en rf tp tq x8_5_31a x8_9_31a on cu pu x8_15_31a x9_0_31a x9_1_31a x9_2_31a x9_3_31a x11_f_31a x13_f_31a x14_f_31a x15_f_31a x16_f_31a x17_f_31a) ++ pw ty pp) := hD
                refine W.widen (k := 0) (n := 0) (Nat.le_of_ble_eq_true rfl) (Nat.le_of_ble_eq_true rfl) ?_
                obtain ⟨t_61, ht_61⟩ : ∃ t, t = m_k_X3_eachInstance pp x8_5_31a x8_9_31a pu x8_15_31a x9_0_31a x9_1_31a x9_2_31a x11_f_31a x13_f_31a x14_f_31a x15_f_31a x16_f_31a x17_f_31a o_25 v1_7 t_58 := ⟨_, rfl⟩
                rw [lE_eq ht_61] at hT
                refine wq_vPW (wc := (wW_k_X3_eachInstance ty X x8_5_31a x8_9_31a on cu pu x8_15_31a x9_0_31a x9_1_31a x9_2_31a x9_3_31a x11_f_31a x13_f_31a x14_f_31a x15_f_31a x16_f_31a x17_f_31a)) (pl := pw ty pp) (ux := (wW_k_X3_eachInstance ty X t_61.2.2.2.2.2.2.2.1 t_61.2.2.2.2.2.2.2.2.1 on cu pu t_61.2.2.2.2.2.2.1 t_61.2.2.2.2.2.2.2.2.2.1 t_61.2.2.2.2.2.2.2.2.2.2.1 t_61.2.2.2.2.2.2.2.2.2.2.2.1 t_61.2.2.2.2.2.2.2.2.2.2.2.2 t_61.1 t_61.2.1 t_61.2.2.1 t_61.2.2.2.1 t_61.2.2.2.2.1 t_61.2.2.2.2.2.1)) (va_runV (As := [.ref o_25, .int v1_7, .int t_58]) (rest := []) ⟨hx, hb, hml, hown, hts⟩ (k_X3_eachInstance l D ty td mi H.size pp X x8_5_31a x8_9_31a on cu pu x8_15_31a x9_0_31a x9_1_31a x9_2_31a x9_3_31a x11_f_31a x13_f_31a x14_f_31a x15_f_31a x16_f_31a x17_f_31a o_25 v1_7 t_58 hok (mm_k_X6_ruleAt pp rn rf v1_7 hok hru _ (by rw [← ht_25]; exact ho_25)) t_61 ht_61) (cwV 3 hts gv_k_X3_keepInstances_2 rfl rfl rfl (by decide +kernel) ⟨(Nat.le_of_ble_eq_true rfl), (Nat.le_of_ble_eq_true rfl)⟩) (wm_V (wm_preSP hP hD hK hE hS hA [false, false, false, false, true, true, true, true, true, true, true, true, true, true] rfl) (va_recv (q0 := 4) (ci := 5) hK hP rfl rfl)) rfl rfl hl.1 rfl (lv_room (Nat.le_of_ble_eq_true rfl)) dX3_keepInstances_61 ⟨(Nat.le_of_ble_eq_true rfl), (Nat.le_of_ble_eq_true rfl)⟩) hS hA hP hD [false, false, false, false, true, true, true, true, true, true, true, true, true, true] rfl rfl (fun _ h => h) (fun  H locs hw hP hD hS => ?_)
                have hP : va_P D vwCl ((wW_k_X3_keepInstances ty X pn rn tn en rf tp tq t_61.2.2.2.2.2.2.2.1 t_61.2.2.2.2.2.2.2.2.1 on cu pu t_61.2.2.2.2.2.2.1 t_61.2.2.2.2.2.2.2.2.2.1 t_61.2.2.2.2.2.2.2.2.2.2.1 t_61.2.2.2.2.2.2.2.2.2.2.2.1 t_61.2.2.2.2.2.2.2.2.2.2.2.2 t_61.1 t_61.2.1 t_61.2.2.1 t_61.2.2.2.1 t_61.2.2.2.2.1 t_61.2.2.2.2.2.1) ++ pw ty pp) H := hP
                have hD : va_D A ((wW_k_X3_keepInstances ty X pn rn tn en rf tp tq t_61.2.2.2.2.2.2.2.1 t_61.2.2.2.2.2.2.2.2.1 on cu pu t_61.2.2.2.2.2.2.1 t_61.2.2.2.2.2.2.2.2.2.1 t_61.2.2.2.2.2.2.2.2.2.2.1 t_61.2.2.2.2.2.2.2.2.2.2.2.1 t_61.2.2.2.2.2.2.2.2.2.2.2.2 t_61.1 t_61.2.1 t_61.2.2.1 t_61.2.2.2.1 t_61.2.2.2.2.1 t_61.2.2.2.2.2.1) ++ pw ty pp) := hD
                refine W.widen (k := 0) (n := 0) (Nat.le_of_ble_eq_true rfl) (Nat.le_of_ble_eq_true rfl) ?_
                refine lv_iinc (v := v3_31a + 1) (lv' := [(3, .int (v3_31a + 1)), (0, .ref (X 8)), (1, .int v1_7), (2, .ref o_25)]) hx hb dX3_keepInstances_64 hl (k := 3) rfl (by rfl) (by decide) rfl (fun ls hl => ?_)
                refine lv_goto (tgt := 31) hx hb dX3_keepInstances_67 (by decide) ?_
                exact ih_31a (v3_31a + 1) t_61.1 t_61.2.1 t_61.2.2.1 t_61.2.2.2.1 t_61.2.2.2.2.1 t_61.2.2.2.2.2.1 t_61.2.2.2.2.2.2.1 t_61.2.2.2.2.2.2.2.1 t_61.2.2.2.2.2.2.2.2.1 t_61.2.2.2.2.2.2.2.2.2.1 t_61.2.2.2.2.2.2.2.2.2.2.1 t_61.2.2.2.2.2.2.2.2.2.2.2.1 t_61.2.2.2.2.2.2.2.2.2.2.2.2 (wi_up hu_31a (Int32.not_le.mp c_4)) hT (wi_inc hn_31a (Int32.not_le.mp c_4)) _ _ hP hD hS _ (lv_sub hl [1, 2, 3, 0] rfl)
          exact L_31a wF 0 x11_f_7 x13_f_7 x14_f_7 x15_f_7 x16_f_7 (upd x17_f_7 v1_7.toNatClampNeg 0) x8_15_7 x8_5_7 x8_9_7 x9_0_7 x9_1_7 x9_2_7 x9_3_7 (wF_up 0) hT (by decide) _ _ hP hD hS _ (lv_sub hl [2, 3, 1, 0] rfl)
  exact L_7 wF 0 su po hds kr kv kb gw hn 0 b_1 b_2 b_3 b_p (wF_up 0) hT (by decide) _ _ hP hD hS _ (lv_sub hl [1, 0] rfl)
theorem dX3_rulesNeeding_0 : decode cX3_rulesNeeding 0 = .ok (.iconst 0, 1) := by decide +kernel
theorem dX3_rulesNeeding_1 : decode cX3_rulesNeeding 1 = .ok (.istore_n 2, 1) := by decide +kernel
theorem dX3_rulesNeeding_2 : decode cX3_rulesNeeding 2 = .ok (.iconst 0, 1) := by decide +kernel
theorem dX3_rulesNeeding_3 : decode cX3_rulesNeeding 3 = .ok (.istore_n 3, 1) := by decide +kernel
theorem dX3_rulesNeeding_4 : decode cX3_rulesNeeding 4 = .ok (.iload_n 3, 1) := by decide +kernel
theorem dX3_rulesNeeding_5 : decode cX3_rulesNeeding 5 = .ok (.aload_n 0, 1) := by decide +kernel
theorem dX3_rulesNeeding_6 : decode cX3_rulesNeeding 6 = .ok (.getfield 47, 3) := by decide +kernel
theorem dX3_rulesNeeding_9 : decode cX3_rulesNeeding 9 = .ok (.getfield 94, 3) := by decide +kernel
theorem dX3_rulesNeeding_12 : decode cX3_rulesNeeding 12 = .ok (.if_icmp .ge 73, 3) := by decide +kernel
theorem dX3_rulesNeeding_15 : decode cX3_rulesNeeding 15 = .ok (.aload_n 0, 1) := by decide +kernel
theorem dX3_rulesNeeding_16 : decode cX3_rulesNeeding 16 = .ok (.getfield 47, 3) := by decide +kernel
theorem dX3_rulesNeeding_19 : decode cX3_rulesNeeding 19 = .ok (.iload_n 3, 1) := by decide +kernel
theorem dX3_rulesNeeding_20 : decode cX3_rulesNeeding 20 = .ok (.invokevirtual 97, 3) := by decide +kernel
theorem dX3_rulesNeeding_23 : decode cX3_rulesNeeding 23 = .ok (.astore 4, 2) := by decide +kernel
theorem dX3_rulesNeeding_25 : decode cX3_rulesNeeding 25 = .ok (.aload 4, 2) := by decide +kernel
theorem dX3_rulesNeeding_27 : decode cX3_rulesNeeding 27 = .ok (.ifnull 52, 3) := by decide +kernel
theorem dX3_rulesNeeding_30 : decode cX3_rulesNeeding 30 = .ok (.aload 4, 2) := by decide +kernel
theorem dX3_rulesNeeding_32 : decode cX3_rulesNeeding 32 = .ok (.getfield 120, 3) := by decide +kernel
theorem dX3_rulesNeeding_35 : decode cX3_rulesNeeding 35 = .ok (.bipush 119, 2) := by decide +kernel
theorem dX3_rulesNeeding_37 : decode cX3_rulesNeeding 37 = .ok (.if_icmp .eq 42, 3) := by decide +kernel
theorem dX3_rulesNeeding_40 : decode cX3_rulesNeeding 40 = .ok (.aload_n 0, 1) := by decide +kernel
theorem dX3_rulesNeeding_41 : decode cX3_rulesNeeding 41 = .ok (.getfield 61, 3) := by decide +kernel
theorem dX3_rulesNeeding_44 : decode cX3_rulesNeeding 44 = .ok (.ifCond .ne 14, 3) := by decide +kernel
theorem dX3_rulesNeeding_47 : decode cX3_rulesNeeding 47 = .ok (.aload 4, 2) := by decide +kernel
theorem dX3_rulesNeeding_49 : decode cX3_rulesNeeding 49 = .ok (.invokevirtual 124, 3) := by decide +kernel
theorem dX3_rulesNeeding_52 : decode cX3_rulesNeeding 52 = .ok (.ifCond .ne 6, 3) := by decide +kernel
theorem dX3_rulesNeeding_55 : decode cX3_rulesNeeding 55 = .ok (.goto 24, 3) := by decide +kernel
theorem dX3_rulesNeeding_58 : decode cX3_rulesNeeding 58 = .ok (.iload_n 1, 1) := by decide +kernel
theorem dX3_rulesNeeding_59 : decode cX3_rulesNeeding 59 = .ok (.iconst (-1), 1) := by decide +kernel
theorem dX3_rulesNeeding_60 : decode cX3_rulesNeeding 60 = .ok (.if_icmp .eq 13, 3) := by decide +kernel
theorem dX3_rulesNeeding_63 : decode cX3_rulesNeeding 63 = .ok (.aload 4, 2) := by decide +kernel
theorem dX3_rulesNeeding_65 : decode cX3_rulesNeeding 65 = .ok (.invokevirtual 128, 3) := by decide +kernel
theorem dX3_rulesNeeding_68 : decode cX3_rulesNeeding 68 = .ok (.iload_n 1, 1) := by decide +kernel
theorem dX3_rulesNeeding_69 : decode cX3_rulesNeeding 69 = .ok (.iand, 1) := by decide +kernel
theorem dX3_rulesNeeding_70 : decode cX3_rulesNeeding 70 = .ok (.ifCond .eq 9, 3) := by decide +kernel
theorem dX3_rulesNeeding_73 : decode cX3_rulesNeeding 73 = .ok (.iload_n 2, 1) := by decide +kernel
theorem dX3_rulesNeeding_74 : decode cX3_rulesNeeding 74 = .ok (.iconst 1, 1) := by decide +kernel
theorem dX3_rulesNeeding_75 : decode cX3_rulesNeeding 75 = .ok (.iload_n 3, 1) := by decide +kernel
theorem dX3_rulesNeeding_76 : decode cX3_rulesNeeding 76 = .ok (.ishl, 1) := by decide +kernel
theorem dX3_rulesNeeding_77 : decode cX3_rulesNeeding 77 = .ok (.ior, 1) := by decide +kernel
theorem dX3_rulesNeeding_78 : decode cX3_rulesNeeding 78 = .ok (.istore_n 2, 1) := by decide +kernel
theorem dX3_rulesNeeding_79 : decode cX3_rulesNeeding 79 = .ok (.iinc 3 1, 3) := by decide +kernel
theorem dX3_rulesNeeding_82 : decode cX3_rulesNeeding 82 = .ok (.goto (-78), 3) := by decide +kernel
theorem dX3_rulesNeeding_85 : decode cX3_rulesNeeding 85 = .ok (.iload_n 2, 1) := by decide +kernel
theorem dX3_rulesNeeding_86 : decode cX3_rulesNeeding 86 = .ok (.ireturn, 1) := by decide +kernel
def wW_k_X3_rulesNeeding (ty : Nat → ClassId) (X : Nat → Nat) (z9_0 : Int32) (z9_1 : Int32) (z9_2 : Int32) (z9_3 : Int32) (z9_4 : Nat → Option Nat) (z9_5 : Int32) (z9_6 : Int32) (z9_7 : Int32) (z9_8 : Int32) (z9_9 : Int32) (z9_10 : Int32) : va_W := [((X 1), .inr (8, [.ref (X 2), .int z9_0, .ref (X 3), .int z9_1, .ref (X 4), .ref (X 5), .int z9_2, .ref (X 6), .ref (X 7), .int z9_3])), ((X 3), .inl (ty 4, 20, .inr (.inr (.inr (.inr z9_4))))), ((X 8), .inr (5, [.ref (X 1), .ref (X 9), .ref (X 10), .ref (X 12), .ref (X 14), .int z9_5, .ref (X 15), .ref (X 16), .ref (X 17), .int z9_6, .ref (X 18), .ref (X 19), .int z9_7, .int z9_8, .int z9_9, .int z9_10]))]
def vs_k_X3_rulesNeeding : List Cond := .code yX3_rulesNeeding cX3_rulesNeeding 5 (some .int) :: ([.fieldLink RX3 47 "AnswerFold$Grounding" "program" "LAnswerFold$Program;", .methodLink RX3 97 yX6_ruleAt, .instanceMethod yX6_ruleAt, .selects RX6 yX6_ruleAt yX6_ruleAt, .initialized RX6, .fieldLink RX3 61 "AnswerFold$Grounding" "purpose" "I", .methodLink RX3 128 yX8_neededPredicates, .instanceMethod yX8_neededPredicates, .selects RX8 yX8_neededPredicates yX8_neededPredicates, .initialized RX8, .methodLink RX3 124 yX8_isDefinite, .instanceMethod yX8_isDefinite, .selects RX8 yX8_isDefinite yX8_isDefinite] ++ (u_ws RX3 TX3 16 ++ (u_ws RX6 TX6 10 ++ (vs_k_X6_ruleAt ++ (u_ws RX8 TX8 11 ++ (vs_k_X8_neededPredicates ++ (vs_k_X8_isDefinite)))))))
theorem iv_k_X3_rulesNeeding_X3 : ∀ w ∈ u_ws RX3 TX3 16, w ∈ vs_k_X3_rulesNeeding := (fun _ h => List.mem_cons_of_mem _ (List.mem_append_right _ (List.mem_append_left _ h)))
theorem iv_k_X3_rulesNeeding_X6 : ∀ w ∈ u_ws RX6 TX6 10, w ∈ vs_k_X3_rulesNeeding := (fun _ h => List.mem_cons_of_mem _ (List.mem_append_right _ (List.mem_append_right _ (List.mem_append_left _ h))))
theorem iv_k_X3_rulesNeeding_X8 : ∀ w ∈ u_ws RX8 TX8 11, w ∈ vs_k_X3_rulesNeeding := (fun _ h => List.mem_cons_of_mem _ (List.mem_append_right _ (List.mem_append_right _ (List.mem_append_right _ (List.mem_append_right _ (List.mem_append_left _ h))))))
set_option maxRecDepth 20000 in
theorem gv_k_X3_rulesNeeding_0 : GoodIn vs_k_X3_rulesNeeding (wsV RX3 97 RX6 yX6_ruleAt vs_k_X6_ruleAt) := goodIn_app (goodIn_sub (by decide +kernel) (by decide +kernel)) (goodIn_sub (fun _ h => List.mem_cons_of_mem _ (List.mem_append_right _ (List.mem_append_right _ (List.mem_append_right _ (List.mem_append_left _ h))))) (by decide +kernel))
set_option maxRecDepth 20000 in
theorem gv_k_X3_rulesNeeding_1 : GoodIn vs_k_X3_rulesNeeding (wsV RX3 128 RX8 yX8_neededPredicates vs_k_X8_neededPredicates) := goodIn_app (goodIn_sub (by decide +kernel) (by decide +kernel)) (goodIn_sub (fun _ h => List.mem_cons_of_mem _ (List.mem_append_right _ (List.mem_append_right _ (List.mem_append_right _ (List.mem_append_right _ (List.mem_append_right _ (List.mem_append_left _ h))))))) (by decide +kernel))
set_option maxRecDepth 20000 in
theorem gv_k_X3_rulesNeeding_2 : GoodIn vs_k_X3_rulesNeeding (wsV RX3 124 RX8 yX8_isDefinite vs_k_X8_isDefinite) := goodIn_app (goodIn_sub (by decide +kernel) (by decide +kernel)) (goodIn_sub (fun _ h => List.mem_cons_of_mem _ (List.mem_append_right _ (List.mem_append_right _ (List.mem_append_right _ (List.mem_append_right _ (List.mem_append_right _ (List.mem_append_right _ (h)))))))) (by decide +kernel))
set_option maxHeartbeats 4000000 in
set_option maxRecDepth 100000 in
theorem k_X3_rulesNeeding (l : Launch) (D : va_G) (ty : Nat → ClassId) (td mi sz : Nat) (pp : pT) (X : Nat → Nat) (pn : Int32) (rn : Int32) (tn : Int32) (en : Int32) (rf : Nat → Option Nat) (hn : Int32) (kn : Int32) (on : Int32) (cu : Int32) (pu : Int32) (gw : Int32) (a1 : Int32) (hok : pOK pp) (hru : ∀ (i a : Nat), rf i = some a → a ∈ pRA pp) (TT : r_k_X3_rulesNeeding) (hTT : TT = m_k_X3_rulesNeeding pp rn rf pu a1) : Met l yX3_rulesNeeding vs_k_X3_rulesNeeding { frames := 2, cells := 0, slots := 0, locals := 44 } (va_Pc [.ref (X 8), .int a1] (wq_P D ty td mi ((wW_k_X3_rulesNeeding ty X pn rn tn en rf hn kn on cu pu gw) ++ pw ty pp) sz)) (va_Qi (fun (r : Int32) (u : va_W) => (r = TT ∧ (u = ((wW_k_X3_rulesNeeding ty X pn rn tn en rf hn kn on cu pu gw) ++ pw ty pp)))) (wq_B D (va_A ((wW_k_X3_rulesNeeding ty X pn rn tn en rf hn kn on cu pu gw) ++ pw ty pp) sz)) (va_A ((wW_k_X3_rulesNeeding ty X pn rn tn en rf hn kn on cu pu gw) ++ pw ty pp) sz)) 0 0 (va_A ((wW_k_X3_rulesNeeding ty X pn rn tn en rf hn kn on cu pu gw) ++ pw ty pp) sz) := by
  refine Met.ofW (cc := cX3_rulesNeeding) (maxL := 5) (ret := (some .int)) (by decide) rfl ?_
  intro p e s m args below meth c s₁ B hml hv
  obtain ⟨rfl, hsz, hP, hK, hD0, hE⟩ := hv
  have hx := B.exec
  have hb := B.bytes
  have hr := B.returns
  have hts := atoms_spec (ws := vs_k_X3_rulesNeeding) B.pre
  have hown : s.vm.findClass RX3 = some m.cls := findClass_of_methodNamed B.named
  have hlocks := B.notSynchronized
  subst hsz
  have hD := hD0.self (sz := s.heap.size)
  generalize hAe : va_A ((wW_k_X3_rulesNeeding ty X pn rn tn en rf hn kn on cu pu gw) ++ pw ty pp) s.heap.size = A at hD hE ⊢
  have hA : ∀ q : Nat, s.heap.size ≤ q → A q := fun q h => by rw [← hAe]; exact Or.inr h
  have hS : va_S A s.heap s.heap [] := va_S.rf
  have hP : va_P D vwCl ((wW_k_X3_rulesNeeding ty X pn rn tn en rf hn kn on cu pu gw) ++ pw ty pp) s.heap := hP
  have hl := lv_entry ([.ref (X 8), .int a1]) (n := 5) (Nat.le_of_ble_eq_true rfl)
  rw [lg_entry_eq]
  generalize (lg_sl ([.ref (X 8), .int a1]) ++ List.replicate (5 - (lg_sl ([.ref (X 8), .int a1])).length) Slot.unset).toArray = ls at hl ⊢
  have hl : lv_has ls 5 [(0, .ref (X 8)), (1, .int a1)] := hl
  have END : ∀ (r : Int32), TT = r → ∀ (H : Heap) (locs : List Loc), va_P D vwCl ((wW_k_X3_rulesNeeding ty X pn rn tn en rf hn kn on cu pu gw) ++ pw ty pp) H → va_D A ((wW_k_X3_rulesNeeding ty X pn rn tn en rf hn kn on cu pu gw) ++ pw ty pp) → va_S A s.heap H locs → ∀ (ls : Array Slot) (pc : Nat), decode cX3_rulesNeeding pc = .ok (.ireturn, 1) → W p l e (headSpec vs_k_X3_rulesNeeding { frames := 2, cells := 0, slots := 0, locals := 44 }).room s m ([.ref (X 8), .int a1] : List Value).toArray below meth c H locs 0 0 (MQ below (va_Qi (fun (r : Int32) (u : va_W) => (r = TT ∧ (u = ((wW_k_X3_rulesNeeding ty X pn rn tn en rf hn kn on cu pu gw) ++ pw ty pp)))) (wq_B D A) A) ([.ref (X 8), .int a1] : List Value).toArray s 0 0 A) (F0 m pc ls [.int r]) := by
    intro r hT H locs hP hD hS ls pc hd
    have hM : TT = r := hT
    exact W.iret (v := r) hx hb hr (fun t ht hW => ⟨⟨r, ((wW_k_X3_rulesNeeding ty X pn rn tn en rf hn kn on cu pu gw) ++ pw ty pp), rfl, ⟨(by rw [hM]), rfl⟩, wq_B.of ht hP hD⟩, hS.F ht⟩) hS.2.2 hd
  have hT := hTT
  rw [m_k_X3_rulesNeeding] at hT
  refine lv_iconst (v := 0) hx hb dX3_rulesNeeding_0 (by decide) ?_
  refine lv_istore_n (lv' := [(2, .int 0), (0, .ref (X 8)), (1, .int a1)]) hx hb dX3_rulesNeeding_1 rfl hl (by decide) rfl (fun ls hl => ?_)
  refine lv_iconst (v := 0) hx hb dX3_rulesNeeding_2 (by decide) ?_
  refine lv_istore_n (lv' := [(3, .int 0), (2, .int 0), (0, .ref (X 8)), (1, .int a1)]) hx hb dX3_rulesNeeding_3 rfl hl (by decide) rfl (fun ls hl => ?_)
  have L_4 : ∀ (n_4 : Nat) (v2_4 : Int32) (v3_4 : Int32), (2147483648 - v3_4.toInt).toNat < n_4 → TT = m_k_X3_rulesNeeding_4 pp rn rf pu a1 n_4 v2_4 v3_4 → 0 ≤ v3_4.toInt → ∀ (H : Heap) (locs : List Loc), va_P D vwCl ((wW_k_X3_rulesNeeding ty X pn rn tn en rf hn kn on cu pu gw) ++ pw ty pp) H → va_D A ((wW_k_X3_rulesNeeding ty X pn rn tn en rf hn kn on cu pu gw) ++ pw ty pp) → va_S A s.heap H locs → ∀ ls : Array Slot, lv_has ls 5 [(0, .ref (X 8)), (1, .int a1), (2, .int v2_4), (3, .int v3_4)] → W p l e (headSpec vs_k_X3_rulesNeeding { frames := 2, cells := 0, slots := 0, locals := 44 }).room s m ([.ref (X 8), .int a1] : List Value).toArray below meth c H locs 0 0 (MQ below (va_Qi (fun (r : Int32) (u : va_W) => (r = TT ∧ (u = ((wW_k_X3_rulesNeeding ty X pn rn tn en rf hn kn on cu pu gw) ++ pw ty pp)))) (wq_B D A) A) ([.ref (X 8), .int a1] : List Value).toArray s 0 0 A) (F0 m 4 ls []) := by
    intro n_4
    induction n_4 with
    | zero => intro v2_4 v3_4 hu; exact absurd hu (Nat.not_lt_zero _)
    | succ n_4 ih_4 =>
      intro v2_4 v3_4 hu_4 hT hn_4 H locs hP hD hS ls hl
      rw [m_k_X3_rulesNeeding_4_succ, m_k_X3_rulesNeeding_4s] at hT
      refine lv_iload_n hx hb dX3_rulesNeeding_4 rfl (lv_at hl 3 rfl) ?_
      refine lv_aload_n hx hb dX3_rulesNeeding_5 rfl (lv_at hl 0 rfl) ?_
      refine va_get (D := D) (ci := 5) (v := .ref (X 1)) (C := RX3) (T := TX3) (N := 16) hx hb hts iv_k_X3_rulesNeeding_X3 hown hK hP 2 rfl rfl 0 (by decide) (hts (.fieldLink RX3 47 "AnswerFold$Grounding" "program" "LAnswerFold$Program;") (by decide +kernel)) (fun _ h9 => h9) rfl dX3_rulesNeeding_6 ?_
      refine va_getN (D := D) (ci := 8) (v := .int rn) (C := RX6) (T := TX6) (N := 10) hx hb hts iv_k_X3_rulesNeeding_X6 hown hK hP 0 rfl rfl 3 (by decide) (hE.at (.fieldLinkNest "AnswerFold$Grounding" 94 "AnswerFold$Program" "ruleCount" "I" "AnswerFold") (by decide +kernel)) (fun _ h9 => h9) rfl dX3_rulesNeeding_9 ?_
      refine lv_icmp_ge (tgt := 85) hx hb dX3_rulesNeeding_12 (by decide) (fun c_1 => ?_) (fun c_1 => ?_)
      · rw [if_pos c_1] at hT
        refine lv_iload_n hx hb dX3_rulesNeeding_85 rfl (lv_at hl 2 rfl) ?_
        exact END v2_4 hT _ _ hP hD hS _ _ dX3_rulesNeeding_86
      · rw [if_neg c_1] at hT
        refine lv_aload_n hx hb dX3_rulesNeeding_15 rfl (lv_at hl 0 rfl) ?_
        refine va_get (D := D) (ci := 5) (v := .ref (X 1)) (C := RX3) (T := TX3) (N := 16) hx hb hts iv_k_X3_rulesNeeding_X3 hown hK hP 2 rfl rfl 0 (by decide) (hts (.fieldLink RX3 47 "AnswerFold$Grounding" "program" "LAnswerFold$Program;") (by decide +kernel)) (fun _ h9 => h9) rfl dX3_rulesNeeding_16 ?_
        refine lv_iload_n hx hb dX3_rulesNeeding_19 rfl (lv_at hl 3 rfl) ?_
        obtain ⟨t_20, ht_20⟩ : ∃ t, t = m_k_X6_ruleAt rn rf v3_4 := ⟨_, rfl⟩
        rw [lE_eq ht_20] at hT
        refine wq_rPW (wc := (wW_k_X6_ruleAt ty X pn rn tn en rf)) (pl := pw ty pp) (ux := (wW_k_X6_ruleAt ty X pn rn tn en rf)) (va_runV (As := [.int v3_4]) (rest := []) ⟨hx, hb, hml, hown, hts⟩ (k_X6_ruleAt l D ty td mi H.size pp X pn rn tn en rf v3_4 hok hru t_20 ht_20) (cwV 1 hts gv_k_X3_rulesNeeding_0 rfl rfl rfl (by decide +kernel) ⟨(Nat.le_of_ble_eq_true rfl), (Nat.le_of_ble_eq_true rfl)⟩) (wm_V (wm_preSP hP hD hK hE hS hA [true, true] rfl) (va_recv (q0 := 0) (ci := 8) hK hP rfl rfl)) rfl rfl hl.1 rfl (lv_room (Nat.le_of_ble_eq_true rfl)) dX3_rulesNeeding_20 ⟨(Nat.le_of_ble_eq_true rfl), (Nat.le_of_ble_eq_true rfl)⟩) hS hA hP hD [true, true] rfl rfl (fun _ _ h => h.2) (fun r H locs hw hP hD hS => ?_)
        obtain ⟨rfl, -⟩ := hw
        have hP : va_P D vwCl ((wW_k_X3_rulesNeeding ty X pn rn tn en rf hn kn on cu pu gw) ++ pw ty pp) H := hP
        have hD : va_D A ((wW_k_X3_rulesNeeding ty X pn rn tn en rf hn kn on cu pu gw) ++ pw ty pp) := hD
        refine W.widen (k := 0) (n := 0) (Nat.le_of_ble_eq_true rfl) (Nat.le_of_ble_eq_true rfl) ?_
        rcases ho_20 : t_20 with _ | o_20
        · rw [ho_20, oE_none] at hT
          refine W.eq (g2 := F0 m 23 ls [.null]) rfl ?_
          refine lv_astoreN (lv' := [(4, .null), (0, .ref (X 8)), (1, .int a1), (2, .int v2_4), (3, .int v3_4)]) hx hb dX3_rulesNeeding_23 hl (by decide) rfl (fun ls hl => ?_)
          refine lv_aloadN hx hb dX3_rulesNeeding_25 (lv_at hl 0 rfl) ?_
          have J_79 : ∀ (v2_79 : Int32), TT = m_k_X3_rulesNeeding_79 (m_k_X3_rulesNeeding_4 pp rn rf pu a1 n_4) v3_4 v2_79 → ∀ (H : Heap) (locs : List Loc), va_P D vwCl ((wW_k_X3_rulesNeeding ty X pn rn tn en rf hn kn on cu pu gw) ++ pw ty pp) H → va_D A ((wW_k_X3_rulesNeeding ty X pn rn tn en rf hn kn on cu pu gw) ++ pw ty pp) → va_S A s.heap H locs → ∀ ls : Array Slot, lv_has ls 5 [(0, .ref (X 8)), (1, .int a1), (2, .int v2_79), (3, .int v3_4)] → W p l e (headSpec vs_k_X3_rulesNeeding { frames := 2, cells := 0, slots := 0, locals := 44 }).room s m ([.ref (X 8), .int a1] : List Value).toArray below meth c H locs 0 0 (MQ below (va_Qi (fun (r : Int32) (u : va_W) => (r = TT ∧ (u = ((wW_k_X3_rulesNeeding ty X pn rn tn en rf hn kn on cu pu gw) ++ pw ty pp)))) (wq_B D A) A) ([.ref (X 8), .int a1] : List Value).toArray s 0 0 A) (F0 m 79 ls []) := by
            intro v2_79 hT  H locs hP hD hS ls hl
            rw [m_k_X3_rulesNeeding_79] at hT
            refine lv_iinc (v := v3_4 + 1) (lv' := [(3, .int (v3_4 + 1)), (0, .ref (X 8)), (1, .int a1), (2, .int v2_79)]) hx hb dX3_rulesNeeding_79 hl (k := 3) rfl (by rfl) (by decide) rfl (fun ls hl => ?_)
            refine lv_goto (tgt := 4) hx hb dX3_rulesNeeding_82 (by decide) ?_
            exact ih_4 v2_79 (v3_4 + 1) (wi_up hu_4 (Int32.not_le.mp c_1)) hT (wi_inc hn_4 (Int32.not_le.mp c_1)) _ _ hP hD hS _ (lv_sub hl [1, 2, 3, 0] rfl)
          refine lv_ifnullN (tgt := 79) hx hb dX3_rulesNeeding_27 (by decide) ?_
          exact J_79 v2_4 hT _ _ hP hD hS _ (lv_sub hl [1, 2, 3, 4] rfl)
        · rw [ho_20, oE_some] at hT
          refine W.eq (g2 := F0 m 23 ls [.ref o_20]) rfl ?_
          refine lv_astore (lv' := [(4, .ref o_20), (0, .ref (X 8)), (1, .int a1), (2, .int v2_4), (3, .int v3_4)]) hx hb dX3_rulesNeeding_23 hl (by decide) rfl (fun ls hl => ?_)
          refine lv_aload hx hb dX3_rulesNeeding_25 (lv_at hl 0 rfl) ?_
          have J_79 : ∀ (v2_79 : Int32), TT = m_k_X3_rulesNeeding_79 (m_k_X3_rulesNeeding_4 pp rn rf pu a1 n_4) v3_4 v2_79 → ∀ (H : Heap) (locs : List Loc), va_P D vwCl ((wW_k_X3_rulesNeeding ty X pn rn tn en rf hn kn on cu pu gw) ++ pw ty pp) H → va_D A ((wW_k_X3_rulesNeeding ty X pn rn tn en rf hn kn on cu pu gw) ++ pw ty pp) → va_S A s.heap H locs → ∀ ls : Array Slot, lv_has ls 5 [(0, .ref (X 8)), (1, .int a1), (2, .int v2_79), (3, .int v3_4)] → W p l e (headSpec vs_k_X3_rulesNeeding { frames := 2, cells := 0, slots := 0, locals := 44 }).room s m ([.ref (X 8), .int a1] : List Value).toArray below meth c H locs 0 0 (MQ below (va_Qi (fun (r : Int32) (u : va_W) => (r = TT ∧ (u = ((wW_k_X3_rulesNeeding ty X pn rn tn en rf hn kn on cu pu gw) ++ pw ty pp)))) (wq_B D A) A) ([.ref (X 8), .int a1] : List Value).toArray s 0 0 A) (F0 m 79 ls []) := by
            intro v2_79 hT  H locs hP hD hS ls hl
            rw [m_k_X3_rulesNeeding_79] at hT
            refine lv_iinc (v := v3_4 + 1) (lv' := [(3, .int (v3_4 + 1)), (0, .ref (X 8)), (1, .int a1), (2, .int v2_79)]) hx hb dX3_rulesNeeding_79 hl (k := 3) rfl (by rfl) (by decide) rfl (fun ls hl => ?_)
            refine lv_goto (tgt := 4) hx hb dX3_rulesNeeding_82 (by decide) ?_
            exact ih_4 v2_79 (v3_4 + 1) (wi_up hu_4 (Int32.not_le.mp c_1)) hT (wi_inc hn_4 (Int32.not_le.mp c_1)) _ _ hP hD hS _ (lv_sub hl [1, 2, 3, 0] rfl)
          refine lv_ifnull hx hb dX3_rulesNeeding_27 ?_
          refine lv_aload hx hb dX3_rulesNeeding_30 (lv_at hl 0 rfl) ?_
          obtain ⟨k_4, hk_4⟩ := List.getElem?_of_mem (pw_rule (ty := ty) (p := pp) (L := [((X 1), .inr (8, [.ref (X 2), .int pn, .ref (X 3), .int rn, .ref (X 4), .ref (X 5), .int tn, .ref (X 6), .ref (X 7), .int en])), ((X 3), .inl (ty 4, 20, .inr (.inr (.inr (.inr rf))))), ((X 8), .inr (5, [.ref (X 1), .ref (X 9), .ref (X 10), .ref (X 12), .ref (X 14), .int hn, .ref (X 15), .ref (X 16), .ref (X 17), .int kn, .ref (X 18), .ref (X 19), .int on, .int cu, .int pu, .int gw]))]) (mm_k_X6_ruleAt pp rn rf v3_4 hok hru _ (by rw [← ht_20]; exact ho_20)))
          refine va_getN (D := D) (ci := 10) (v := .int (pI pp o_20 0)) (C := RX8) (T := TX8) (N := 11) hx hb hts iv_k_X3_rulesNeeding_X8 hown hK hP k_4 hk_4 rfl 0 (by decide) (hE.at (.fieldLinkNest "AnswerFold$Grounding" 120 "AnswerFold$Rule" "kind" "C" "AnswerFold") (by decide +kernel)) (fun _ h9 => h9) rfl dX3_rulesNeeding_32 ?_
          refine lv_bipush (v := 119) hx hb dX3_rulesNeeding_35 (by decide) ?_
          refine lv_icmp_eq (tgt := 79) hx hb dX3_rulesNeeding_37 (by decide) (fun c_5 => ?_) (fun c_5 => ?_)
          · rw [if_pos c_5] at hT
            exact J_79 v2_4 hT _ _ hP hD hS _ (lv_sub hl [1, 2, 3, 4] rfl)
          · rw [if_neg c_5] at hT
            refine lv_aload_n hx hb dX3_rulesNeeding_40 rfl (lv_at hl 1 rfl) ?_
            refine va_get (D := D) (ci := 5) (v := .int pu) (C := RX3) (T := TX3) (N := 16) hx hb hts iv_k_X3_rulesNeeding_X3 hown hK hP 2 rfl rfl 14 (by decide) (hts (.fieldLink RX3 61 "AnswerFold$Grounding" "purpose" "I") (by decide +kernel)) (fun _ h9 => h9) rfl dX3_rulesNeeding_41 ?_
            have J_58 : ∀ (_ : Unit), TT = m_k_X3_rulesNeeding_58 pp a1 o_20 (m_k_X3_rulesNeeding_4 pp rn rf pu a1 n_4) v2_4 v3_4 → ∀ (H : Heap) (locs : List Loc), va_P D vwCl ((wW_k_X3_rulesNeeding ty X pn rn tn en rf hn kn on cu pu gw) ++ pw ty pp) H → va_D A ((wW_k_X3_rulesNeeding ty X pn rn tn en rf hn kn on cu pu gw) ++ pw ty pp) → va_S A s.heap H locs → ∀ ls : Array Slot, lv_has ls 5 [(0, .ref (X 8)), (1, .int a1), (2, .int v2_4), (3, .int v3_4), (4, .ref o_20)] → W p l e (headSpec vs_k_X3_rulesNeeding { frames := 2, cells := 0, slots := 0, locals := 44 }).room s m ([.ref (X 8), .int a1] : List Value).toArray below meth c H locs 0 0 (MQ below (va_Qi (fun (r : Int32) (u : va_W) => (r = TT ∧ (u = ((wW_k_X3_rulesNeeding ty X pn rn tn en rf hn kn on cu pu gw) ++ pw ty pp)))) (wq_B D A) A) ([.ref (X 8), .int a1] : List Value).toArray s 0 0 A) (F0 m 58 ls []) := by
              intro _ hT  H locs hP hD hS ls hl
              rw [m_k_X3_rulesNeeding_58] at hT
              refine lv_iload_n hx hb dX3_rulesNeeding_58 rfl (lv_at hl 1 rfl) ?_
              refine lv_iconst (v := (-1)) hx hb dX3_rulesNeeding_59 (by decide) ?_
              have J_73 : ∀ (_ : Unit), TT = m_k_X3_rulesNeeding_73 (m_k_X3_rulesNeeding_4 pp rn rf pu a1 n_4) v2_4 v3_4 → ∀ (H : Heap) (locs : List Loc), va_P D vwCl ((wW_k_X3_rulesNeeding ty X pn rn tn en rf hn kn on cu pu gw) ++ pw ty pp) H → va_D A ((wW_k_X3_rulesNeeding ty X pn rn tn en rf hn kn on cu pu gw) ++ pw ty pp) → va_S A s.heap H locs → ∀ ls : Array Slot, lv_has ls 5 [(0, .ref (X 8)), (1, .int a1), (2, .int v2_4), (3, .int v3_4)] → W p l e (headSpec vs_k_X3_rulesNeeding { frames := 2, cells := 0, slots := 0, locals := 44 }).room s m ([.ref (X 8), .int a1] : List Value).toArray below meth c H locs 0 0 (MQ below (va_Qi (fun (r : Int32) (u : va_W) => (r = TT ∧ (u = ((wW_k_X3_rulesNeeding ty X pn rn tn en rf hn kn on cu pu gw) ++ pw ty pp)))) (wq_B D A) A) ([.ref (X 8), .int a1] : List Value).toArray s 0 0 A) (F0 m 73 ls []) := by
                intro _ hT  H locs hP hD hS ls hl
                rw [m_k_X3_rulesNeeding_73] at hT
                refine lv_iload_n hx hb dX3_rulesNeeding_73 rfl (lv_at hl 2 rfl) ?_
                refine lv_iconst (v := 1) hx hb dX3_rulesNeeding_74 (by decide) ?_
                refine lv_iload_n hx hb dX3_rulesNeeding_75 rfl (lv_at hl 3 rfl) ?_
                refine lv_ishl hx hb dX3_rulesNeeding_76 ?_
                refine lv_ior hx hb dX3_rulesNeeding_77 ?_
                refine lv_istore_n (lv' := [(2, .int (v2_4 ||| ((1 : Int32) <<< (v3_4 &&& 31)))), (0, .ref (X 8)), (1, .int a1), (3, .int v3_4)]) hx hb dX3_rulesNeeding_78 rfl hl (by decide) rfl (fun ls hl => ?_)
                exact J_79 (v2_4 ||| ((1 : Int32) <<< (v3_4 &&& 31))) hT _ _ hP hD hS _ (lv_sub hl [1, 2, 0, 3] rfl)
              refine lv_icmp_eq (tgt := 73) hx hb dX3_rulesNeeding_60 (by decide) (fun c_6 => ?_) (fun c_6 => ?_)
              · rw [if_pos c_6] at hT
                exact J_73 () hT _ _ hP hD hS _ (lv_sub hl [0, 1, 2, 3] rfl)
              · rw [if_neg c_6] at hT
                refine lv_aload hx hb dX3_rulesNeeding_63 (lv_at hl 4 rfl) ?_
                obtain ⟨t_65, ht_65⟩ : ∃ t, t = m_k_X8_neededPredicates pp o_20 := ⟨_, rfl⟩
                rw [lE_eq ht_65] at hT
                obtain ⟨k_7, hk_7⟩ := List.getElem?_of_mem (pw_rule (ty := ty) (p := pp) (L := [((X 1), .inr (8, [.ref (X 2), .int pn, .ref (X 3), .int rn, .ref (X 4), .ref (X 5), .int tn, .ref (X 6), .ref (X 7), .int en])), ((X 3), .inl (ty 4, 20, .inr (.inr (.inr (.inr rf))))), ((X 8), .inr (5, [.ref (X 1), .ref (X 9), .ref (X 10), .ref (X 12), .ref (X 14), .int hn, .ref (X 15), .ref (X 16), .ref (X 17), .int kn, .ref (X 18), .ref (X 19), .int on, .int cu, .int pu, .int gw]))]) (mm_k_X6_ruleAt pp rn rf v3_4 hok hru _ (by rw [← ht_20]; exact ho_20)))
                refine wq_iPW (wc := []) (pl := pw ty pp) (ux := []) (va_runV (As := []) (rest := []) ⟨hx, hb, hml, hown, hts⟩ (k_X8_neededPredicates l D ty td mi H.size pp o_20 hok (mm_k_X6_ruleAt pp rn rf v3_4 hok hru _ (by rw [← ht_20]; exact ho_20)) t_65 ht_65) (cwV 0 hts gv_k_X3_rulesNeeding_1 rfl rfl rfl (by decide +kernel) ⟨(Nat.le_of_ble_eq_true rfl), (Nat.le_of_ble_eq_true rfl)⟩) (wm_V (wm_preSP hP hD hK hE hS hA [] rfl) (va_recv (q0 := k_7) (ci := 10) hK hP rfl hk_7)) rfl rfl hl.1 rfl (lv_room (Nat.le_of_ble_eq_true rfl)) dX3_rulesNeeding_65 ⟨(Nat.le_of_ble_eq_true rfl), (Nat.le_of_ble_eq_true rfl)⟩) hS hA hP hD [] rfl rfl (fun _ _ h => h.2) (fun r H locs hw hP hD hS => ?_)
                obtain ⟨hr0, -⟩ := hw
                subst r
                have hP : va_P D vwCl ((wW_k_X3_rulesNeeding ty X pn rn tn en rf hn kn on cu pu gw) ++ pw ty pp) H := hP
                have hD : va_D A ((wW_k_X3_rulesNeeding ty X pn rn tn en rf hn kn on cu pu gw) ++ pw ty pp) := hD
                refine W.widen (k := 0) (n := 0) (Nat.le_of_ble_eq_true rfl) (Nat.le_of_ble_eq_true rfl) ?_
                refine lv_iload_n hx hb dX3_rulesNeeding_68 rfl (lv_at hl 1 rfl) ?_
                refine lv_iand hx hb dX3_rulesNeeding_69 ?_
                refine lv_if_eq (tgt := 79) hx hb dX3_rulesNeeding_70 (by decide) (fun c_10 => ?_) (fun c_10 => ?_)
                · rw [if_pos c_10] at hT
                  exact J_79 v2_4 hT _ _ hP hD hS _ (lv_sub hl [0, 1, 2, 3] rfl)
                · rw [if_neg c_10] at hT
                  exact J_73 () hT _ _ hP hD hS _ (lv_sub hl [0, 1, 2, 3] rfl)
            refine lv_if_ne (tgt := 58) hx hb dX3_rulesNeeding_44 (by decide) (fun c_11 => ?_) (fun c_11 => ?_)
            · rw [if_neg c_11] at hT
              exact J_58 () hT _ _ hP hD hS _ (lv_sub hl [1, 2, 3, 4, 0] rfl)
            · rw [if_pos c_11] at hT
              refine lv_aload hx hb dX3_rulesNeeding_47 (lv_at hl 0 rfl) ?_
              obtain ⟨t_49, ht_49⟩ : ∃ t, t = m_k_X8_isDefinite pp o_20 := ⟨_, rfl⟩
              rw [lE_eq ht_49] at hT
              obtain ⟨k_12, hk_12⟩ := List.getElem?_of_mem (pw_rule (ty := ty) (p := pp) (L := [((X 1), .inr (8, [.ref (X 2), .int pn, .ref (X 3), .int rn, .ref (X 4), .ref (X 5), .int tn, .ref (X 6), .ref (X 7), .int en])), ((X 3), .inl (ty 4, 20, .inr (.inr (.inr (.inr rf))))), ((X 8), .inr (5, [.ref (X 1), .ref (X 9), .ref (X 10), .ref (X 12), .ref (X 14), .int hn, .ref (X 15), .ref (X 16), .ref (X 17), .int kn, .ref (X 18), .ref (X 19), .int on, .int cu, .int pu, .int gw]))]) (mm_k_X6_ruleAt pp rn rf v3_4 hok hru _ (by rw [← ht_20]; exact ho_20)))
              refine wq_iPW (wc := []) (pl := pw ty pp) (ux := []) (va_runV (As := []) (rest := []) ⟨hx, hb, hml, hown, hts⟩ (k_X8_isDefinite l D ty td mi H.size pp o_20 hok (mm_k_X6_ruleAt pp rn rf v3_4 hok hru _ (by rw [← ht_20]; exact ho_20)) t_49 ht_49) (cwV 0 hts gv_k_X3_rulesNeeding_2 rfl rfl rfl (by decide +kernel) ⟨(Nat.le_of_ble_eq_true rfl), (Nat.le_of_ble_eq_true rfl)⟩) (wm_V (wm_preSP hP hD hK hE hS hA [] rfl) (va_recv (q0 := k_12) (ci := 10) hK hP rfl hk_12)) rfl rfl hl.1 rfl (lv_room (Nat.le_of_ble_eq_true rfl)) dX3_rulesNeeding_49 ⟨(Nat.le_of_ble_eq_true rfl), (Nat.le_of_ble_eq_true rfl)⟩) hS hA hP hD [] rfl rfl (fun _ _ h => h.2.2) (fun r H locs hw hP hD hS => ?_)
              obtain ⟨hr0, c_15, -⟩ := hw
              subst r
              have hP : va_P D vwCl ((wW_k_X3_rulesNeeding ty X pn rn tn en rf hn kn on cu pu gw) ++ pw ty pp) H := hP
              have hD : va_D A ((wW_k_X3_rulesNeeding ty X pn rn tn en rf hn kn on cu pu gw) ++ pw ty pp) := hD
              refine W.widen (k := 0) (n := 0) (Nat.le_of_ble_eq_true rfl) (Nat.le_of_ble_eq_true rfl) ?_
              refine lv_if_ne (tgt := 58) hx hb dX3_rulesNeeding_52 (by decide) (fun c_16 => ?_) (fun c_16 => ?_)
              · rw [if_neg c_16] at hT
                exact J_58 () hT _ _ hP hD hS _ (lv_sub hl [1, 2, 3, 4, 0] rfl)
              · rw [if_pos c_16] at hT
                refine lv_goto (tgt := 79) hx hb dX3_rulesNeeding_55 (by decide) ?_
                exact J_79 v2_4 hT _ _ hP hD hS _ (lv_sub hl [1, 2, 3, 4] rfl)
  exact L_4 wF 0 0 (wF_up 0) hT (by decide) _ _ hP hD hS _ (lv_sub hl [2, 3, 1, 0] rfl)
