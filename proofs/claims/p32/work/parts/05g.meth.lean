theorem dX3_spread_0 : decode cX3_spread 0 = .ok (.aload_n 0, 1) := by decide +kernel
theorem dX3_spread_1 : decode cX3_spread 1 = .ok (.iconst (-1), 1) := by decide +kernel
theorem dX3_spread_2 : decode cX3_spread 2 = .ok (.invokevirtual 91, 3) := by decide +kernel
theorem dX3_spread_5 : decode cX3_spread 5 = .ok (.istore_n 1, 1) := by decide +kernel
theorem dX3_spread_6 : decode cX3_spread 6 = .ok (.iconst 0, 1) := by decide +kernel
theorem dX3_spread_7 : decode cX3_spread 7 = .ok (.istore_n 2, 1) := by decide +kernel
theorem dX3_spread_8 : decode cX3_spread 8 = .ok (.iload_n 1, 1) := by decide +kernel
theorem dX3_spread_9 : decode cX3_spread 9 = .ok (.ifCond .eq 138, 3) := by decide +kernel
theorem dX3_spread_12 : decode cX3_spread 12 = .ok (.iload_n 2, 1) := by decide +kernel
theorem dX3_spread_13 : decode cX3_spread 13 = .ok (.sipush 1000, 3) := by decide +kernel
theorem dX3_spread_16 : decode cX3_spread 16 = .ok (.if_icmp .ge 131, 3) := by decide +kernel
theorem dX3_spread_19 : decode cX3_spread 19 = .ok (.iconst 0, 1) := by decide +kernel
theorem dX3_spread_20 : decode cX3_spread 20 = .ok (.istore_n 3, 1) := by decide +kernel
theorem dX3_spread_21 : decode cX3_spread 21 = .ok (.iload_n 3, 1) := by decide +kernel
theorem dX3_spread_22 : decode cX3_spread 22 = .ok (.aload_n 0, 1) := by decide +kernel
theorem dX3_spread_23 : decode cX3_spread 23 = .ok (.getfield 47, 3) := by decide +kernel
theorem dX3_spread_26 : decode cX3_spread 26 = .ok (.getfield 94, 3) := by decide +kernel
theorem dX3_spread_29 : decode cX3_spread 29 = .ok (.if_icmp .ge 112, 3) := by decide +kernel
theorem dX3_spread_32 : decode cX3_spread 32 = .ok (.aload_n 0, 1) := by decide +kernel
theorem dX3_spread_33 : decode cX3_spread 33 = .ok (.getfield 47, 3) := by decide +kernel
theorem dX3_spread_36 : decode cX3_spread 36 = .ok (.iload_n 3, 1) := by decide +kernel
theorem dX3_spread_37 : decode cX3_spread 37 = .ok (.invokevirtual 97, 3) := by decide +kernel
theorem dX3_spread_40 : decode cX3_spread 40 = .ok (.astore 4, 2) := by decide +kernel
theorem dX3_spread_42 : decode cX3_spread 42 = .ok (.aload 4, 2) := by decide +kernel
theorem dX3_spread_44 : decode cX3_spread 44 = .ok (.ifnull 91, 3) := by decide +kernel
theorem dX3_spread_47 : decode cX3_spread 47 = .ok (.iload_n 1, 1) := by decide +kernel
theorem dX3_spread_48 : decode cX3_spread 48 = .ok (.iload_n 3, 1) := by decide +kernel
theorem dX3_spread_49 : decode cX3_spread 49 = .ok (.ishr, 1) := by decide +kernel
theorem dX3_spread_50 : decode cX3_spread 50 = .ok (.iconst 1, 1) := by decide +kernel
theorem dX3_spread_51 : decode cX3_spread 51 = .ok (.iand, 1) := by decide +kernel
theorem dX3_spread_52 : decode cX3_spread 52 = .ok (.ifCond .ne 6, 3) := by decide +kernel
theorem dX3_spread_55 : decode cX3_spread 55 = .ok (.goto 80, 3) := by decide +kernel
theorem dX3_spread_58 : decode cX3_spread 58 = .ok (.iload_n 1, 1) := by decide +kernel
theorem dX3_spread_59 : decode cX3_spread 59 = .ok (.iconst 1, 1) := by decide +kernel
theorem dX3_spread_60 : decode cX3_spread 60 = .ok (.iload_n 3, 1) := by decide +kernel
theorem dX3_spread_61 : decode cX3_spread 61 = .ok (.ishl, 1) := by decide +kernel
theorem dX3_spread_62 : decode cX3_spread 62 = .ok (.iconst (-1), 1) := by decide +kernel
theorem dX3_spread_63 : decode cX3_spread 63 = .ok (.ixor, 1) := by decide +kernel
theorem dX3_spread_64 : decode cX3_spread 64 = .ok (.iand, 1) := by decide +kernel
theorem dX3_spread_65 : decode cX3_spread 65 = .ok (.istore_n 1, 1) := by decide +kernel
theorem dX3_spread_66 : decode cX3_spread 66 = .ok (.aload_n 0, 1) := by decide +kernel
theorem dX3_spread_67 : decode cX3_spread 67 = .ok (.iconst 0, 1) := by decide +kernel
theorem dX3_spread_68 : decode cX3_spread 68 = .ok (.putfield 101, 3) := by decide +kernel
theorem dX3_spread_71 : decode cX3_spread 71 = .ok (.iconst 0, 1) := by decide +kernel
theorem dX3_spread_72 : decode cX3_spread 72 = .ok (.istore 5, 2) := by decide +kernel
theorem dX3_spread_74 : decode cX3_spread 74 = .ok (.iload 5, 2) := by decide +kernel
theorem dX3_spread_76 : decode cX3_spread 76 = .ok (.aload_n 0, 1) := by decide +kernel
theorem dX3_spread_77 : decode cX3_spread 77 = .ok (.getfield 47, 3) := by decide +kernel
theorem dX3_spread_80 : decode cX3_spread 80 = .ok (.getfield 104, 3) := by decide +kernel
theorem dX3_spread_83 : decode cX3_spread 83 = .ok (.if_icmp .ge 30, 3) := by decide +kernel
theorem dX3_spread_86 : decode cX3_spread 86 = .ok (.aload_n 0, 1) := by decide +kernel
theorem dX3_spread_87 : decode cX3_spread 87 = .ok (.aload 4, 2) := by decide +kernel
theorem dX3_spread_89 : decode cX3_spread 89 = .ok (.iload_n 3, 1) := by decide +kernel
theorem dX3_spread_90 : decode cX3_spread 90 = .ok (.aload_n 0, 1) := by decide +kernel
theorem dX3_spread_91 : decode cX3_spread 91 = .ok (.getfield 47, 3) := by decide +kernel
theorem dX3_spread_94 : decode cX3_spread 94 = .ok (.iload 5, 2) := by decide +kernel
theorem dX3_spread_96 : decode cX3_spread 96 = .ok (.aload 4, 2) := by decide +kernel
theorem dX3_spread_98 : decode cX3_spread 98 = .ok (.getfield 107, 3) := by decide +kernel
theorem dX3_spread_101 : decode cX3_spread 101 = .ok (.invokevirtual 112, 3) := by decide +kernel
theorem dX3_spread_104 : decode cX3_spread 104 = .ok (.invokevirtual 116, 3) := by decide +kernel
theorem dX3_spread_107 : decode cX3_spread 107 = .ok (.iinc 5 1, 3) := by decide +kernel
theorem dX3_spread_110 : decode cX3_spread 110 = .ok (.goto (-36), 3) := by decide +kernel
theorem dX3_spread_113 : decode cX3_spread 113 = .ok (.iload_n 1, 1) := by decide +kernel
theorem dX3_spread_114 : decode cX3_spread 114 = .ok (.aload_n 0, 1) := by decide +kernel
theorem dX3_spread_115 : decode cX3_spread 115 = .ok (.getfield 101, 3) := by decide +kernel
theorem dX3_spread_118 : decode cX3_spread 118 = .ok (.ifCond .ne 7, 3) := by decide +kernel
theorem dX3_spread_121 : decode cX3_spread 121 = .ok (.iconst 0, 1) := by decide +kernel
theorem dX3_spread_122 : decode cX3_spread 122 = .ok (.goto 11, 3) := by decide +kernel
theorem dX3_spread_125 : decode cX3_spread 125 = .ok (.aload_n 0, 1) := by decide +kernel
theorem dX3_spread_126 : decode cX3_spread 126 = .ok (.aload_n 0, 1) := by decide +kernel
theorem dX3_spread_127 : decode cX3_spread 127 = .ok (.getfield 101, 3) := by decide +kernel
theorem dX3_spread_130 : decode cX3_spread 130 = .ok (.invokevirtual 91, 3) := by decide +kernel
theorem dX3_spread_133 : decode cX3_spread 133 = .ok (.ior, 1) := by decide +kernel
theorem dX3_spread_134 : decode cX3_spread 134 = .ok (.istore_n 1, 1) := by decide +kernel
theorem dX3_spread_135 : decode cX3_spread 135 = .ok (.iinc 3 1, 3) := by decide +kernel
theorem dX3_spread_138 : decode cX3_spread 138 = .ok (.goto (-117), 3) := by decide +kernel
theorem dX3_spread_141 : decode cX3_spread 141 = .ok (.iinc 2 1, 3) := by decide +kernel
theorem dX3_spread_144 : decode cX3_spread 144 = .ok (.goto (-136), 3) := by decide +kernel
theorem dX3_spread_147 : decode cX3_spread 147 = .ok (.return_, 1) := by decide +kernel
def wW_k_X3_spread (ty : Nat → ClassId) (X : Nat → Nat) (z9_0 : Int32) (z9_1 : Int32) (z9_2 : Int32) (z9_3 : Int32) (z9_4 : Nat → Option Nat) (z9_5 : Nat → Int32) (z9_6 : Nat → Int32) (z9_7 : Int32) (z9_8 : Int32) (z9_9 : Int32) (z9_10 : Int32) (z9_11 : Int32) (z9_12 : Int32) (z9_13 : Int32) (z9_14 : Int32) (z9_15 : Int32) (z9_16 : Int32) (z9_17 : Nat → Int64) (z9_18 : Nat → Int64) (z9_19 : Nat → Int32) (z9_20 : Nat → Int32) (z9_21 : Nat → Int32) (z9_22 : Nat → Int32) : va_W := [((X 1), .inr (8, [.ref (X 2), .int z9_0, .ref (X 3), .int z9_1, .ref (X 4), .ref (X 5), .int z9_2, .ref (X 6), .ref (X 7), .int z9_3])), ((X 3), .inl (ty 4, 20, .inr (.inr (.inr (.inr z9_4))))), ((X 4), .inl (ty 0, 7, .inl z9_5)), ((X 5), .inl (ty 0, 7, .inl z9_6)), ((X 8), .inr (5, [.ref (X 1), .ref (X 9), .ref (X 10), .ref (X 12), .ref (X 14), .int z9_7, .ref (X 15), .ref (X 16), .ref (X 17), .int z9_8, .ref (X 18), .ref (X 19), .int z9_9, .int z9_10, .int z9_11, .int z9_12])), ((X 9), .inr (4, [.int z9_13, .int z9_14, .int z9_15, .int z9_16])), ((X 10), .inr (3, [.ref (X 11)])), ((X 11), .inl (ty 1, 6, .inr (.inl z9_17))), ((X 12), .inr (3, [.ref (X 13)])), ((X 13), .inl (ty 1, 6, .inr (.inl z9_18))), ((X 14), .inl (ty 0, 16, .inl z9_19)), ((X 15), .inl (ty 0, 300, .inl z9_20)), ((X 16), .inl (ty 0, 300, .inl z9_21)), ((X 17), .inl (ty 0, 20, .inl z9_22))]
def vs_k_X3_spread : List Cond := .code yX3_spread cX3_spread 6 none :: ([.methodLink RX3 91 yX3_rulesNeeding, .instanceMethod yX3_rulesNeeding, .selects RX3 yX3_rulesNeeding yX3_rulesNeeding, .initialized RX3, .fieldLink RX3 47 "AnswerFold$Grounding" "program" "LAnswerFold$Program;", .methodLink RX3 97 yX6_ruleAt, .instanceMethod yX6_ruleAt, .selects RX6 yX6_ruleAt yX6_ruleAt, .initialized RX6, .fieldLink RX3 101 "AnswerFold$Grounding" "grown" "I", .methodLink RX3 112 yX6_parameterAt, .instanceMethod yX6_parameterAt, .selects RX6 yX6_parameterAt yX6_parameterAt, .methodLink RX3 116 yX3_eachInstance, .instanceMethod yX3_eachInstance, .selects RX3 yX3_eachInstance yX3_eachInstance] ++ (vs_k_X3_rulesNeeding ++ (u_ws RX3 TX3 16 ++ (u_ws RX6 TX6 10 ++ (vs_k_X6_ruleAt ++ (u_ws RX8 TX8 11 ++ (vs_k_X6_parameterAt ++ (vs_k_X3_eachInstance))))))))
theorem iv_k_X3_spread_X3 : ∀ w ∈ u_ws RX3 TX3 16, w ∈ vs_k_X3_spread := (fun _ h => List.mem_cons_of_mem _ (List.mem_append_right _ (List.mem_append_right _ (List.mem_append_left _ h))))
theorem iv_k_X3_spread_X6 : ∀ w ∈ u_ws RX6 TX6 10, w ∈ vs_k_X3_spread := (fun _ h => List.mem_cons_of_mem _ (List.mem_append_right _ (List.mem_append_right _ (List.mem_append_right _ (List.mem_append_left _ h)))))
theorem iv_k_X3_spread_X8 : ∀ w ∈ u_ws RX8 TX8 11, w ∈ vs_k_X3_spread := (fun _ h => List.mem_cons_of_mem _ (List.mem_append_right _ (List.mem_append_right _ (List.mem_append_right _ (List.mem_append_right _ (List.mem_append_right _ (List.mem_append_left _ h)))))))
set_option maxRecDepth 20000 in
theorem gv_k_X3_spread_0 : GoodIn vs_k_X3_spread (wsV RX3 91 RX3 yX3_rulesNeeding vs_k_X3_rulesNeeding) := goodIn_app (goodIn_sub (by decide +kernel) (by decide +kernel)) (goodIn_sub (fun _ h => List.mem_cons_of_mem _ (List.mem_append_right _ (List.mem_append_left _ h))) (by decide +kernel))
set_option maxRecDepth 20000 in
theorem gv_k_X3_spread_1 : GoodIn vs_k_X3_spread (wsV RX3 97 RX6 yX6_ruleAt vs_k_X6_ruleAt) := goodIn_app (goodIn_sub (by decide +kernel) (by decide +kernel)) (goodIn_sub (fun _ h => List.mem_cons_of_mem _ (List.mem_append_right _ (List.mem_append_right _ (List.mem_append_right _ (List.mem_append_right _ (List.mem_append_left _ h)))))) (by decide +kernel))
set_option maxRecDepth 20000 in
theorem gv_k_X3_spread_2 : GoodIn vs_k_X3_spread (wsV RX3 91 RX3 yX3_rulesNeeding vs_k_X3_rulesNeeding) := goodIn_app (goodIn_sub (by decide +kernel) (by decide +kernel)) (goodIn_sub (fun _ h => List.mem_cons_of_mem _ (List.mem_append_right _ (List.mem_append_left _ h))) (by decide +kernel))
set_option maxRecDepth 20000 in
theorem gv_k_X3_spread_3 : GoodIn vs_k_X3_spread (wsV RX3 112 RX6 yX6_parameterAt vs_k_X6_parameterAt) := goodIn_app (goodIn_sub (by decide +kernel) (by decide +kernel)) (goodIn_sub (fun _ h => List.mem_cons_of_mem _ (List.mem_append_right _ (List.mem_append_right _ (List.mem_append_right _ (List.mem_append_right _ (List.mem_append_right _ (List.mem_append_right _ (List.mem_append_left _ h)))))))) (by decide +kernel))
set_option maxRecDepth 20000 in
theorem gv_k_X3_spread_4 : GoodIn vs_k_X3_spread (wsV RX3 116 RX3 yX3_eachInstance vs_k_X3_eachInstance) := goodIn_app (goodIn_sub (by decide +kernel) (by decide +kernel)) (goodIn_sub (fun _ h => List.mem_cons_of_mem _ (List.mem_append_right _ (List.mem_append_right _ (List.mem_append_right _ (List.mem_append_right _ (List.mem_append_right _ (List.mem_append_right _ (List.mem_append_right _ (h))))))))) (by decide +kernel))
set_option maxHeartbeats 4000000 in
set_option maxRecDepth 100000 in
theorem k_X3_spread (l : Launch) (D : va_G) (ty : Nat → ClassId) (td mi sz : Nat) (pp : pT) (X : Nat → Nat) (pn : Int32) (rn : Int32) (tn : Int32) (en : Int32) (rf : Nat → Option Nat) (tp : Nat → Int32) (tq : Nat → Int32) (hn : Int32) (kn : Int32) (on : Int32) (cu : Int32) (pu : Int32) (gw : Int32) (b_1 : Int32) (b_2 : Int32) (b_3 : Int32) (b_p : Int32) (su : Nat → Int64) (po : Nat → Int64) (hds : Nat → Int32) (kr : Nat → Int32) (kv : Nat → Int32) (kb : Nat → Int32) (hok : pOK pp) (hru : ∀ (i a : Nat), rf i = some a → a ∈ pRA pp) (TT : r_k_X3_spread) (hTT : TT = m_k_X3_spread pp rn tn rf tp tq hn kn pu gw b_1 b_2 b_3 b_p su po hds kr kv kb) : Met l yX3_spread vs_k_X3_spread { frames := 5, cells := 0, slots := 0, locals := 126 } (va_Pc [.ref (X 8)] (wq_P D ty td mi ((wW_k_X3_spread ty X pn rn tn en rf tp tq hn kn on cu pu gw b_1 b_2 b_3 b_p su po hds kr kv kb) ++ pw ty pp) sz)) (va_Qv (fun u : va_W => ((u = ((wW_k_X3_spread ty X pn rn tn en rf tp tq TT.2.2.2.2.2.2.2.1 TT.2.2.2.2.2.2.2.2.1 on cu pu TT.2.2.2.2.2.2.1 TT.2.2.2.2.2.2.2.2.2.1 TT.2.2.2.2.2.2.2.2.2.2.1 TT.2.2.2.2.2.2.2.2.2.2.2.1 TT.2.2.2.2.2.2.2.2.2.2.2.2 TT.1 TT.2.1 TT.2.2.1 TT.2.2.2.1 TT.2.2.2.2.1 TT.2.2.2.2.2.1) ++ pw ty pp)))) (wq_B D (va_A ((wW_k_X3_spread ty X pn rn tn en rf tp tq hn kn on cu pu gw b_1 b_2 b_3 b_p su po hds kr kv kb) ++ pw ty pp) sz)) (va_A ((wW_k_X3_spread ty X pn rn tn en rf tp tq hn kn on cu pu gw b_1 b_2 b_3 b_p su po hds kr kv kb) ++ pw ty pp) sz)) 0 0 (va_A ((wW_k_X3_spread ty X pn rn tn en rf tp tq hn kn on cu pu gw b_1 b_2 b_3 b_p su po hds kr kv kb) ++ pw ty pp) sz) := by
  refine Met.ofW (cc := cX3_spread) (maxL := 6) (ret := none) (by decide) rfl ?_
  intro p e s m args below meth c s₁ B hml hv
  obtain ⟨rfl, hsz, hP, hK, hD0, hE⟩ := hv
  have hx := B.exec
  have hb := B.bytes
  have hr := B.returns
  have hts := atoms_spec (ws := vs_k_X3_spread) B.pre
  have hown : s.vm.findClass RX3 = some m.cls := findClass_of_methodNamed B.named
  have hlocks := B.notSynchronized
  subst hsz
  have hD := hD0.self (sz := s.heap.size)
  generalize hAe : va_A ((wW_k_X3_spread ty X pn rn tn en rf tp tq hn kn on cu pu gw b_1 b_2 b_3 b_p su po hds kr kv kb) ++ pw ty pp) s.heap.size = A at hD hE ⊢
  have hA : ∀ q : Nat, s.heap.size ≤ q → A q := fun q h => by rw [← hAe]; exact Or.inr h
  have hS : va_S A s.heap s.heap [] := va_S.rf
  have hP : va_P D vwCl ((wW_k_X3_spread ty X pn rn tn en rf tp tq hn kn on cu pu gw b_1 b_2 b_3 b_p su po hds kr kv kb) ++ pw ty pp) s.heap := hP
  have hl := lv_entry ([.ref (X 8)]) (n := 6) (Nat.le_of_ble_eq_true rfl)
  rw [lg_entry_eq]
  generalize (lg_sl ([.ref (X 8)]) ++ List.replicate (6 - (lg_sl ([.ref (X 8)])).length) Slot.unset).toArray = ls at hl ⊢
  have hl : lv_has ls 6 [(0, .ref (X 8))] := hl
  have END : ∀ (w9_0 : Nat → Int64) (w9_1 : Nat → Int64) (w9_2 : Nat → Int32) (w9_3 : Nat → Int32) (w9_4 : Nat → Int32) (w9_5 : Nat → Int32) (w9_6 : Int32) (w9_7 : Int32) (w9_8 : Int32) (w9_9 : Int32) (w9_10 : Int32) (w9_11 : Int32) (w9_12 : Int32), TT = (w9_0, w9_1, w9_2, w9_3, w9_4, w9_5, w9_6, w9_7, w9_8, w9_9, w9_10, w9_11, w9_12) → ∀ (H : Heap) (locs : List Loc), va_P D vwCl ((wW_k_X3_spread ty X pn rn tn en rf tp tq w9_7 w9_8 on cu pu w9_6 w9_9 w9_10 w9_11 w9_12 w9_0 w9_1 w9_2 w9_3 w9_4 w9_5) ++ pw ty pp) H → va_D A ((wW_k_X3_spread ty X pn rn tn en rf tp tq w9_7 w9_8 on cu pu w9_6 w9_9 w9_10 w9_11 w9_12 w9_0 w9_1 w9_2 w9_3 w9_4 w9_5) ++ pw ty pp) → va_S A s.heap H locs → ∀ (ls : Array Slot) (pc : Nat), decode cX3_spread pc = .ok (.return_, 1) → W p l e (headSpec vs_k_X3_spread { frames := 5, cells := 0, slots := 0, locals := 126 }).room s m ([.ref (X 8)] : List Value).toArray below meth c H locs 0 0 (MQ below (va_Qv (fun u : va_W => ((u = ((wW_k_X3_spread ty X pn rn tn en rf tp tq TT.2.2.2.2.2.2.2.1 TT.2.2.2.2.2.2.2.2.1 on cu pu TT.2.2.2.2.2.2.1 TT.2.2.2.2.2.2.2.2.2.1 TT.2.2.2.2.2.2.2.2.2.2.1 TT.2.2.2.2.2.2.2.2.2.2.2.1 TT.2.2.2.2.2.2.2.2.2.2.2.2 TT.1 TT.2.1 TT.2.2.1 TT.2.2.2.1 TT.2.2.2.2.1 TT.2.2.2.2.2.1) ++ pw ty pp)))) (wq_B D A) A) ([.ref (X 8)] : List Value).toArray s 0 0 A) (F0 m pc ls []) := by
    intro w9_0 w9_1 w9_2 w9_3 w9_4 w9_5 w9_6 w9_7 w9_8 w9_9 w9_10 w9_11 w9_12 hT H locs hP hD hS ls pc hd
    have hM : TT = (w9_0, w9_1, w9_2, w9_3, w9_4, w9_5, w9_6, w9_7, w9_8, w9_9, w9_10, w9_11, w9_12) := hT
    exact W.vret hx hb hr (fun t ht hW => ⟨⟨((wW_k_X3_spread ty X pn rn tn en rf tp tq w9_7 w9_8 on cu pu w9_6 w9_9 w9_10 w9_11 w9_12 w9_0 w9_1 w9_2 w9_3 w9_4 w9_5) ++ pw ty pp), rfl, (by rw [hM]), wq_B.of ht hP hD⟩, hS.F ht⟩) hS.2.2 hd
  have hT := hTT
  rw [m_k_X3_spread] at hT
  refine lv_aload_n hx hb dX3_spread_0 rfl (lv_at hl 0 rfl) ?_
  refine lv_iconst (v := (-1)) hx hb dX3_spread_1 (by decide) ?_
  obtain ⟨t_2, ht_2⟩ : ∃ t, t = m_k_X3_rulesNeeding pp rn rf pu (-1) := ⟨_, rfl⟩
  rw [lE_eq ht_2] at hT
  refine wq_iPW (wc := (wW_k_X3_rulesNeeding ty X pn rn tn en rf hn kn on cu pu gw)) (pl := pw ty pp) (ux := (wW_k_X3_rulesNeeding ty X pn rn tn en rf hn kn on cu pu gw)) (va_runV (As := [.int (-1)]) (rest := []) ⟨hx, hb, hml, hown, hts⟩ (k_X3_rulesNeeding l D ty td mi s.heap.size pp X pn rn tn en rf hn kn on cu pu gw (-1) hok hru t_2 ht_2) (cwV 1 hts gv_k_X3_spread_0 rfl rfl rfl (by decide +kernel) ⟨(Nat.le_of_ble_eq_true rfl), (Nat.le_of_ble_eq_true rfl)⟩) (wm_V (wm_preSP hP hD hK hE hS hA [true, true, false, false, true] rfl) (va_recv (q0 := 4) (ci := 5) hK hP rfl rfl)) rfl rfl hl.1 rfl (lv_room (Nat.le_of_ble_eq_true rfl)) dX3_spread_2 ⟨(Nat.le_of_ble_eq_true rfl), (Nat.le_of_ble_eq_true rfl)⟩) hS hA hP hD [true, true, false, false, true] rfl rfl (fun _ _ h => h.2) (fun r H locs hw hP hD hS => ?_)
  obtain ⟨hr0, -⟩ := hw
  subst r
  have hP : va_P D vwCl ((wW_k_X3_spread ty X pn rn tn en rf tp tq hn kn on cu pu gw b_1 b_2 b_3 b_p su po hds kr kv kb) ++ pw ty pp) H := hP
  have hD : va_D A ((wW_k_X3_spread ty X pn rn tn en rf tp tq hn kn on cu pu gw b_1 b_2 b_3 b_p su po hds kr kv kb) ++ pw ty pp) := hD
  refine W.widen (k := 0) (n := 0) (Nat.le_of_ble_eq_true rfl) (Nat.le_of_ble_eq_true rfl) ?_
  refine lv_istore_n (lv' := [(1, .int t_2), (0, .ref (X 8))]) hx hb dX3_spread_5 rfl hl (by decide) rfl (fun ls hl => ?_)
  refine lv_iconst (v := 0) hx hb dX3_spread_6 (by decide) ?_
  refine lv_istore_n (lv' := [(2, .int 0), (1, .int t_2), (0, .ref (X 8))]) hx hb dX3_spread_7 rfl hl (by decide) rfl (fun ls hl => ?_)
  have L_8 : ∀ (n_8 : Nat) (v1_8 : Int32) (v2_8 : Int32) (x11_f_8 : Nat → Int64) (x13_f_8 : Nat → Int64) (x14_f_8 : Nat → Int32) (x15_f_8 : Nat → Int32) (x16_f_8 : Nat → Int32) (x17_f_8 : Nat → Int32) (x8_15_8 : Int32) (x8_5_8 : Int32) (x8_9_8 : Int32) (x9_0_8 : Int32) (x9_1_8 : Int32) (x9_2_8 : Int32) (x9_3_8 : Int32), (2147483648 - v2_8.toInt).toNat < n_8 → TT = m_k_X3_spread_8 pp rn tn rf tp tq pu n_8 v1_8 v2_8 x11_f_8 x13_f_8 x14_f_8 x15_f_8 x16_f_8 x17_f_8 x8_15_8 x8_5_8 x8_9_8 x9_0_8 x9_1_8 x9_2_8 x9_3_8 → 0 ≤ v2_8.toInt → ∀ (H : Heap) (locs : List Loc), va_P D vwCl ((wW_k_X3_spread ty X pn rn tn en rf tp tq x8_5_8 x8_9_8 on cu pu x8_15_8 x9_0_8 x9_1_8 x9_2_8 x9_3_8 x11_f_8 x13_f_8 x14_f_8 x15_f_8 x16_f_8 x17_f_8) ++ pw ty pp) H → va_D A ((wW_k_X3_spread ty X pn rn tn en rf tp tq x8_5_8 x8_9_8 on cu pu x8_15_8 x9_0_8 x9_1_8 x9_2_8 x9_3_8 x11_f_8 x13_f_8 x14_f_8 x15_f_8 x16_f_8 x17_f_8) ++ pw ty pp) → va_S A s.heap H locs → ∀ ls : Array Slot, lv_has ls 6 [(0, .ref (X 8)), (1, .int v1_8), (2, .int v2_8)] → W p l e (headSpec vs_k_X3_spread { frames := 5, cells := 0, slots := 0, locals := 126 }).room s m ([.ref (X 8)] : List Value).toArray below meth c H locs 0 0 (MQ below (va_Qv (fun u : va_W => ((u = ((wW_k_X3_spread ty X pn rn tn en rf tp tq TT.2.2.2.2.2.2.2.1 TT.2.2.2.2.2.2.2.2.1 on cu pu TT.2.2.2.2.2.2.1 TT.2.2.2.2.2.2.2.2.2.1 TT.2.2.2.2.2.2.2.2.2.2.1 TT.2.2.2.2.2.2.2.2.2.2.2.1 TT.2.2.2.2.2.2.2.2.2.2.2.2 TT.1 TT.2.1 TT.2.2.1 TT.2.2.2.1 TT.2.2.2.2.1 TT.2.2.2.2.2.1) ++ pw ty pp)))) (wq_B D A) A) ([.ref (X 8)] : List Value).toArray s 0 0 A) (F0 m 8 ls []) := by
    intro n_8
    induction n_8 with
    | zero => intro v1_8 v2_8 x11_f_8 x13_f_8 x14_f_8 x15_f_8 x16_f_8 x17_f_8 x8_15_8 x8_5_8 x8_9_8 x9_0_8 x9_1_8 x9_2_8 x9_3_8 hu; exact absurd hu (Nat.not_lt_zero _)
    | succ n_8 ih_8 =>
      intro v1_8 v2_8 x11_f_8 x13_f_8 x14_f_8 x15_f_8 x16_f_8 x17_f_8 x8_15_8 x8_5_8 x8_9_8 x9_0_8 x9_1_8 x9_2_8 x9_3_8 hu_8 hT hn_8 H locs hP hD hS ls hl
      rw [m_k_X3_spread_8_succ, m_k_X3_spread_8s] at hT
      refine lv_iload_n hx hb dX3_spread_8 rfl (lv_at hl 1 rfl) ?_
      refine lv_if_eq (tgt := 147) hx hb dX3_spread_9 (by decide) (fun c_3 => ?_) (fun c_3 => ?_)
      · rw [if_pos c_3] at hT
        exact END x11_f_8 x13_f_8 x14_f_8 x15_f_8 x16_f_8 x17_f_8 x8_15_8 x8_5_8 x8_9_8 x9_0_8 x9_1_8 x9_2_8 x9_3_8 hT _ _ hP hD hS _ _ dX3_spread_147
      · rw [if_neg c_3] at hT
        refine lv_iload_n hx hb dX3_spread_12 rfl (lv_at hl 2 rfl) ?_
        refine lv_sipush (v := 1000) hx hb dX3_spread_13 (by decide) ?_
        refine lv_icmp_ge (tgt := 147) hx hb dX3_spread_16 (by decide) (fun c_4 => ?_) (fun c_4 => ?_)
        · rw [if_pos c_4] at hT
          exact END x11_f_8 x13_f_8 x14_f_8 x15_f_8 x16_f_8 x17_f_8 x8_15_8 x8_5_8 x8_9_8 x9_0_8 x9_1_8 x9_2_8 x9_3_8 hT _ _ hP hD hS _ _ dX3_spread_147
        · rw [if_neg c_4] at hT
          refine lv_iconst (v := 0) hx hb dX3_spread_19 (by decide) ?_
          refine lv_istore_n (lv' := [(3, .int 0), (0, .ref (X 8)), (1, .int v1_8), (2, .int v2_8)]) hx hb dX3_spread_20 rfl hl (by decide) rfl (fun ls hl => ?_)
          have L_21 : ∀ (n_21 : Nat) (v1_21 : Int32) (v3_21 : Int32) (x11_f_21 : Nat → Int64) (x13_f_21 : Nat → Int64) (x14_f_21 : Nat → Int32) (x15_f_21 : Nat → Int32) (x16_f_21 : Nat → Int32) (x17_f_21 : Nat → Int32) (x8_15_21 : Int32) (x8_5_21 : Int32) (x8_9_21 : Int32) (x9_0_21 : Int32) (x9_1_21 : Int32) (x9_2_21 : Int32) (x9_3_21 : Int32), (2147483648 - v3_21.toInt).toNat < n_21 → TT = m_k_X3_spread_21 pp rn tn rf tp tq pu (m_k_X3_spread_8 pp rn tn rf tp tq pu n_8) v2_8 n_21 v1_21 v3_21 x11_f_21 x13_f_21 x14_f_21 x15_f_21 x16_f_21 x17_f_21 x8_15_21 x8_5_21 x8_9_21 x9_0_21 x9_1_21 x9_2_21 x9_3_21 → 0 ≤ v3_21.toInt → ∀ (H : Heap) (locs : List Loc), va_P D vwCl ((wW_k_X3_spread ty X pn rn tn en rf tp tq x8_5_21 x8_9_21 on cu pu x8_15_21 x9_0_21 x9_1_21 x9_2_21 x9_3_21 x11_f_21 x13_f_21 x14_f_21 x15_f_21 x16_f_21 x17_f_21) ++ pw ty pp) H → va_D A ((wW_k_X3_spread ty X pn rn tn en rf tp tq x8_5_21 x8_9_21 on cu pu x8_15_21 x9_0_21 x9_1_21 x9_2_21 x9_3_21 x11_f_21 x13_f_21 x14_f_21 x15_f_21 x16_f_21 x17_f_21) ++ pw ty pp) → va_S A s.heap H locs → ∀ ls : Array Slot, lv_has ls 6 [(0, .ref (X 8)), (1, .int v1_21), (2, .int v2_8), (3, .int v3_21)] → W p l e (headSpec vs_k_X3_spread { frames := 5, cells := 0, slots := 0, locals := 126 }).room s m ([.ref (X 8)] : List Value).toArray below meth c H locs 0 0 (MQ below (va_Qv (fun u : va_W => ((u = ((wW_k_X3_spread ty X pn rn tn en rf tp tq TT.2.2.2.2.2.2.2.1 TT.2.2.2.2.2.2.2.2.1 on cu pu TT.2.2.2.2.2.2.1 TT.2.2.2.2.2.2.2.2.2.1 TT.2.2.2.2.2.2.2.2.2.2.1 TT.2.2.2.2.2.2.2.2.2.2.2.1 TT.2.2.2.2.2.2.2.2.2.2.2.2 TT.1 TT.2.1 TT.2.2.1 TT.2.2.2.1 TT.2.2.2.2.1 TT.2.2.2.2.2.1) ++ pw ty pp)))) (wq_B D A) A) ([.ref (X 8)] : List Value).toArray s 0 0 A) (F0 m 21 ls []) := by
            intro n_21
            induction n_21 with
            | zero => intro v1_21 v3_21 x11_f_21 x13_f_21 x14_f_21 x15_f_21 x16_f_21 x17_f_21 x8_15_21 x8_5_21 x8_9_21 x9_0_21 x9_1_21 x9_2_21 x9_3_21 hu; exact absurd hu (Nat.not_lt_zero _)
            | succ n_21 ih_21 =>
              intro v1_21 v3_21 x11_f_21 x13_f_21 x14_f_21 x15_f_21 x16_f_21 x17_f_21 x8_15_21 x8_5_21 x8_9_21 x9_0_21 x9_1_21 x9_2_21 x9_3_21 hu_21 hT hn_21 H locs hP hD hS ls hl
              rw [m_k_X3_spread_21_succ, m_k_X3_spread_21s] at hT
              refine lv_iload_n hx hb dX3_spread_21 rfl (lv_at hl 3 rfl) ?_
              refine lv_aload_n hx hb dX3_spread_22 rfl (lv_at hl 0 rfl) ?_
              refine va_get (D := D) (ci := 5) (v := .ref (X 1)) (C := RX3) (T := TX3) (N := 16) hx hb hts iv_k_X3_spread_X3 hown hK hP 4 rfl rfl 0 (by decide) (hts (.fieldLink RX3 47 "AnswerFold$Grounding" "program" "LAnswerFold$Program;") (by decide +kernel)) (fun _ h9 => h9) rfl dX3_spread_23 ?_
              refine va_getN (D := D) (ci := 8) (v := .int rn) (C := RX6) (T := TX6) (N := 10) hx hb hts iv_k_X3_spread_X6 hown hK hP 0 rfl rfl 3 (by decide) (hE.at (.fieldLinkNest "AnswerFold$Grounding" 94 "AnswerFold$Program" "ruleCount" "I" "AnswerFold") (by decide +kernel)) (fun _ h9 => h9) rfl dX3_spread_26 ?_
              refine lv_icmp_ge (tgt := 141) hx hb dX3_spread_29 (by decide) (fun c_5 => ?_) (fun c_5 => ?_)
              · rw [if_pos c_5] at hT
                refine lv_iinc (v := v2_8 + 1) (lv' := [(2, .int (v2_8 + 1)), (0, .ref (X 8)), (1, .int v1_21), (3, .int v3_21)]) hx hb dX3_spread_141 hl (k := 2) rfl (by rfl) (by decide) rfl (fun ls hl => ?_)
                refine lv_goto (tgt := 8) hx hb dX3_spread_144 (by decide) ?_
                exact ih_8 v1_21 (v2_8 + 1) x11_f_21 x13_f_21 x14_f_21 x15_f_21 x16_f_21 x17_f_21 x8_15_21 x8_5_21 x8_9_21 x9_0_21 x9_1_21 x9_2_21 x9_3_21 (wi_up hu_8 (Int32.not_le.mp c_4)) hT (wi_inc hn_8 (Int32.not_le.mp c_4)) _ _ hP hD hS _ (lv_sub hl [1, 2, 0] rfl)
              · rw [if_neg c_5] at hT
                refine lv_aload_n hx hb dX3_spread_32 rfl (lv_at hl 0 rfl) ?_
                refine va_get (D := D) (ci := 5) (v := .ref (X 1)) (C := RX3) (T := TX3) (N := 16) hx hb hts iv_k_X3_spread_X3 hown hK hP 4 rfl rfl 0 (by decide) (hts (.fieldLink RX3 47 "AnswerFold$Grounding" "program" "LAnswerFold$Program;") (by decide +kernel)) (fun _ h9 => h9) rfl dX3_spread_33 ?_
                refine lv_iload_n hx hb dX3_spread_36 rfl (lv_at hl 3 rfl) ?_
                obtain ⟨t_37, ht_37⟩ : ∃ t, t = m_k_X6_ruleAt rn rf v3_21 := ⟨_, rfl⟩
                rw [lE_eq ht_37] at hT
                refine wq_rPW (wc := (wW_k_X6_ruleAt ty X pn rn tn en rf)) (pl := pw ty pp) (ux := (wW_k_X6_ruleAt ty X pn rn tn en rf)) (va_runV (As := [.int v3_21]) (rest := []) ⟨hx, hb, hml, hown, hts⟩ (k_X6_ruleAt l D ty td mi H.size pp X pn rn tn en rf v3_21 hok hru t_37 ht_37) (cwV 1 hts gv_k_X3_spread_1 rfl rfl rfl (by decide +kernel) ⟨(Nat.le_of_ble_eq_true rfl), (Nat.le_of_ble_eq_true rfl)⟩) (wm_V (wm_preSP hP hD hK hE hS hA [true, true] rfl) (va_recv (q0 := 0) (ci := 8) hK hP rfl rfl)) rfl rfl hl.1 rfl (lv_room (Nat.le_of_ble_eq_true rfl)) dX3_spread_37 ⟨(Nat.le_of_ble_eq_true rfl), (Nat.le_of_ble_eq_true rfl)⟩) hS hA hP hD [true, true] rfl rfl (fun _ _ h => h.2) (fun r H locs hw hP hD hS => ?_)
                obtain ⟨rfl, -⟩ := hw
                have hP : va_P D vwCl ((wW_k_X3_spread ty X pn rn tn en rf tp tq x8_5_21 x8_9_21 on cu pu x8_15_21 x9_0_21 x9_1_21 x9_2_21 x9_3_21 x11_f_21 x13_f_21 x14_f_21 x15_f_21 x16_f_21 x17_f_21) ++ pw ty pp) H := hP
                have hD : va_D A ((wW_k_X3_spread ty X pn rn tn en rf tp tq x8_5_21 x8_9_21 on cu pu x8_15_21 x9_0_21 x9_1_21 x9_2_21 x9_3_21 x11_f_21 x13_f_21 x14_f_21 x15_f_21 x16_f_21 x17_f_21) ++ pw ty pp) := hD
                refine W.widen (k := 0) (n := 0) (Nat.le_of_ble_eq_true rfl) (Nat.le_of_ble_eq_true rfl) ?_
                rcases ho_37 : t_37 with _ | o_37
                · rw [ho_37, oE_none] at hT
                  refine W.eq (g2 := F0 m 40 ls [.null]) rfl ?_
                  refine lv_astoreN (lv' := [(4, .null), (0, .ref (X 8)), (1, .int v1_21), (2, .int v2_8), (3, .int v3_21)]) hx hb dX3_spread_40 hl (by decide) rfl (fun ls hl => ?_)
                  refine lv_aloadN hx hb dX3_spread_42 (lv_at hl 0 rfl) ?_
                  have J_135 : ∀ (v1_135 : Int32) (x11_f_135 : Nat → Int64) (x13_f_135 : Nat → Int64) (x14_f_135 : Nat → Int32) (x15_f_135 : Nat → Int32) (x16_f_135 : Nat → Int32) (x17_f_135 : Nat → Int32) (x8_15_135 : Int32) (x8_5_135 : Int32) (x8_9_135 : Int32) (x9_0_135 : Int32) (x9_1_135 : Int32) (x9_2_135 : Int32) (x9_3_135 : Int32), TT = m_k_X3_spread_135 (m_k_X3_spread_21 pp rn tn rf tp tq pu (m_k_X3_spread_8 pp rn tn rf tp tq pu n_8) v2_8 n_21) v3_21 v1_135 x11_f_135 x13_f_135 x14_f_135 x15_f_135 x16_f_135 x17_f_135 x8_15_135 x8_5_135 x8_9_135 x9_0_135 x9_1_135 x9_2_135 x9_3_135 → ∀ (H : Heap) (locs : List Loc), va_P D vwCl ((wW_k_X3_spread ty X pn rn tn en rf tp tq x8_5_135 x8_9_135 on cu pu x8_15_135 x9_0_135 x9_1_135 x9_2_135 x9_3_135 x11_f_135 x13_f_135 x14_f_135 x15_f_135 x16_f_135 x17_f_135) ++ pw ty pp) H → va_D A ((wW_k_X3_spread ty X pn rn tn en rf tp tq x8_5_135 x8_9_135 on cu pu x8_15_135 x9_0_135 x9_1_135 x9_2_135 x9_3_135 x11_f_135 x13_f_135 x14_f_135 x15_f_135 x16_f_135 x17_f_135) ++ pw ty pp) → va_S A s.heap H locs → ∀ ls : Array Slot, lv_has ls 6 [(0, .ref (X 8)), (1, .int v1_135), (2, .int v2_8), (3, .int v3_21)] → W p l e (headSpec vs_k_X3_spread { frames := 5, cells := 0, slots := 0, locals := 126 }).room s m ([.ref (X 8)] : List Value).toArray below meth c H locs 0 0 (MQ below (va_Qv (fun u : va_W => ((u = ((wW_k_X3_spread ty X pn rn tn en rf tp tq TT.2.2.2.2.2.2.2.1 TT.2.2.2.2.2.2.2.2.1 on cu pu TT.2.2.2.2.2.2.1 TT.2.2.2.2.2.2.2.2.2.1 TT.2.2.2.2.2.2.2.2.2.2.1 TT.2.2.2.2.2.2.2.2.2.2.2.1 TT.2.2.2.2.2.2.2.2.2.2.2.2 TT.1 TT.2.1 TT.2.2.1 TT.2.2.2.1 TT.2.2.2.2.1 TT.2.2.2.2.2.1) ++ pw ty pp)))) (wq_B D A) A) ([.ref (X 8)] : List Value).toArray s 0 0 A) (F0 m 135 ls []) := by
                    intro v1_135 x11_f_135 x13_f_135 x14_f_135 x15_f_135 x16_f_135 x17_f_135 x8_15_135 x8_5_135 x8_9_135 x9_0_135 x9_1_135 x9_2_135 x9_3_135 hT  H locs hP hD hS ls hl
                    rw [m_k_X3_spread_135] at hT
                    refine lv_iinc (v := v3_21 + 1) (lv' := [(3, .int (v3_21 + 1)), (0, .ref (X 8)), (1, .int v1_135), (2, .int v2_8)]) hx hb dX3_spread_135 hl (k := 3) rfl (by rfl) (by decide) rfl (fun ls hl => ?_)
                    refine lv_goto (tgt := 21) hx hb dX3_spread_138 (by decide) ?_
                    exact ih_21 v1_135 (v3_21 + 1) x11_f_135 x13_f_135 x14_f_135 x15_f_135 x16_f_135 x17_f_135 x8_15_135 x8_5_135 x8_9_135 x9_0_135 x9_1_135 x9_2_135 x9_3_135 (wi_up hu_21 (Int32.not_le.mp c_5)) hT (wi_inc hn_21 (Int32.not_le.mp c_5)) _ _ hP hD hS _ (lv_sub hl [1, 2, 3, 0] rfl)
                  refine lv_ifnullN (tgt := 135) hx hb dX3_spread_44 (by decide) ?_
                  exact J_135 v1_21 x11_f_21 x13_f_21 x14_f_21 x15_f_21 x16_f_21 x17_f_21 x8_15_21 x8_5_21 x8_9_21 x9_0_21 x9_1_21 x9_2_21 x9_3_21 hT _ _ hP hD hS _ (lv_sub hl [1, 2, 3, 4] rfl)
                · rw [ho_37, oE_some] at hT
                  refine W.eq (g2 := F0 m 40 ls [.ref o_37]) rfl ?_
                  refine lv_astore (lv' := [(4, .ref o_37), (0, .ref (X 8)), (1, .int v1_21), (2, .int v2_8), (3, .int v3_21)]) hx hb dX3_spread_40 hl (by decide) rfl (fun ls hl => ?_)
                  refine lv_aload hx hb dX3_spread_42 (lv_at hl 0 rfl) ?_
                  have J_135 : ∀ (v1_135 : Int32) (x11_f_135 : Nat → Int64) (x13_f_135 : Nat → Int64) (x14_f_135 : Nat → Int32) (x15_f_135 : Nat → Int32) (x16_f_135 : Nat → Int32) (x17_f_135 : Nat → Int32) (x8_15_135 : Int32) (x8_5_135 : Int32) (x8_9_135 : Int32) (x9_0_135 : Int32) (x9_1_135 : Int32) (x9_2_135 : Int32) (x9_3_135 : Int32), TT = m_k_X3_spread_135 (m_k_X3_spread_21 pp rn tn rf tp tq pu (m_k_X3_spread_8 pp rn tn rf tp tq pu n_8) v2_8 n_21) v3_21 v1_135 x11_f_135 x13_f_135 x14_f_135 x15_f_135 x16_f_135 x17_f_135 x8_15_135 x8_5_135 x8_9_135 x9_0_135 x9_1_135 x9_2_135 x9_3_135 → ∀ (H : Heap) (locs : List Loc), va_P D vwCl ((wW_k_X3_spread ty X pn rn tn en rf tp tq x8_5_135 x8_9_135 on cu pu x8_15_135 x9_0_135 x9_1_135 x9_2_135 x9_3_135 x11_f_135 x13_f_135 x14_f_135 x15_f_135 x16_f_135 x17_f_135) ++ pw ty pp) H → va_D A ((wW_k_X3_spread ty X pn rn tn en rf tp tq x8_5_135 x8_9_135 on cu pu x8_15_135 x9_0_135 x9_1_135 x9_2_135 x9_3_135 x11_f_135 x13_f_135 x14_f_135 x15_f_135 x16_f_135 x17_f_135) ++ pw ty pp) → va_S A s.heap H locs → ∀ ls : Array Slot, lv_has ls 6 [(0, .ref (X 8)), (1, .int v1_135), (2, .int v2_8), (3, .int v3_21)] → W p l e (headSpec vs_k_X3_spread { frames := 5, cells := 0, slots := 0, locals := 126 }).room s m ([.ref (X 8)] : List Value).toArray below meth c H locs 0 0 (MQ below (va_Qv (fun u : va_W => ((u = ((wW_k_X3_spread ty X pn rn tn en rf tp tq TT.2.2.2.2.2.2.2.1 TT.2.2.2.2.2.2.2.2.1 on cu pu TT.2.2.2.2.2.2.1 TT.2.2.2.2.2.2.2.2.2.1 TT.2.2.2.2.2.2.2.2.2.2.1 TT.2.2.2.2.2.2.2.2.2.2.2.1 TT.2.2.2.2.2.2.2.2.2.2.2.2 TT.1 TT.2.1 TT.2.2.1 TT.2.2.2.1 TT.2.2.2.2.1 TT.2.2.2.2.2.1) ++ pw ty pp)))) (wq_B D A) A) ([.ref (X 8)] : List Value).toArray s 0 0 A) (F0 m 135 ls []) := by
                    intro v1_135 x11_f_135 x13_f_135 x14_f_135 x15_f_135 x16_f_135 x17_f_135 x8_15_135 x8_5_135 x8_9_135 x9_0_135 x9_1_135 x9_2_135 x9_3_135 hT  H locs hP hD hS ls hl
                    rw [m_k_X3_spread_135] at hT
                    refine lv_iinc (v := v3_21 + 1) (lv' := [(3, .int (v3_21 + 1)), (0, .ref (X 8)), (1, .int v1_135), (2, .int v2_8)]) hx hb dX3_spread_135 hl (k := 3) rfl (by rfl) (by decide) rfl (fun ls hl => ?_)
                    refine lv_goto (tgt := 21) hx hb dX3_spread_138 (by decide) ?_
                    exact ih_21 v1_135 (v3_21 + 1) x11_f_135 x13_f_135 x14_f_135 x15_f_135 x16_f_135 x17_f_135 x8_15_135 x8_5_135 x8_9_135 x9_0_135 x9_1_135 x9_2_135 x9_3_135 (wi_up hu_21 (Int32.not_le.mp c_5)) hT (wi_inc hn_21 (Int32.not_le.mp c_5)) _ _ hP hD hS _ (lv_sub hl [1, 2, 3, 0] rfl)
                  refine lv_ifnull hx hb dX3_spread_44 ?_
                  refine lv_iload_n hx hb dX3_spread_47 rfl (lv_at hl 2 rfl) ?_
                  refine lv_iload_n hx hb dX3_spread_48 rfl (lv_at hl 4 rfl) ?_
                  refine lv_ishr hx hb dX3_spread_49 ?_
                  refine lv_iconst (v := 1) hx hb dX3_spread_50 (by decide) ?_
                  refine lv_iand hx hb dX3_spread_51 ?_
                  refine lv_if_ne (tgt := 58) hx hb dX3_spread_52 (by decide) (fun c_8 => ?_) (fun c_8 => ?_)
                  · rw [if_neg c_8] at hT
                    refine lv_iload_n hx hb dX3_spread_58 rfl (lv_at hl 2 rfl) ?_
                    refine lv_iconst (v := 1) hx hb dX3_spread_59 (by decide) ?_
                    refine lv_iload_n hx hb dX3_spread_60 rfl (lv_at hl 4 rfl) ?_
                    refine lv_ishl hx hb dX3_spread_61 ?_
                    refine lv_iconst (v := (-1)) hx hb dX3_spread_62 (by decide) ?_
                    refine lv_ixor hx hb dX3_spread_63 ?_
                    refine lv_iand hx hb dX3_spread_64 ?_
                    refine lv_istore_n (lv' := [(1, .int (v1_21 &&& (((1 : Int32) <<< (v3_21 &&& 31)) ^^^ (-1)))), (4, .ref o_37), (0, .ref (X 8)), (2, .int v2_8), (3, .int v3_21)]) hx hb dX3_spread_65 rfl hl (by decide) rfl (fun ls hl => ?_)
                    refine lv_aload_n hx hb dX3_spread_66 rfl (lv_at hl 2 rfl) ?_
                    refine lv_iconst (v := 0) hx hb dX3_spread_67 (by decide) ?_
                    refine va_put (D := D) (ci := 5) (v := .int 0) (ty := tyX3 15) (C := RX3) (T := TX3) (N := 16) hx hb hts iv_k_X3_spread_X3 tyX3 tyX3_ok nmX3 hown hK hP hD hS 4 rfl rfl 15 (by decide) (hts (.fieldLink RX3 101 "AnswerFold$Grounding" "grown" "I") (by decide +kernel)) (fun _ h9 => h9) rfl (by decide +kernel) rfl rfl (Nat.le_of_ble_eq_true rfl) dX3_spread_68 (fun H locs hP hD hS => ?_)
                    have hP : va_P D vwCl ((wW_k_X3_spread ty X pn rn tn en rf tp tq x8_5_21 x8_9_21 on cu pu (0) x9_0_21 x9_1_21 x9_2_21 x9_3_21 x11_f_21 x13_f_21 x14_f_21 x15_f_21 x16_f_21 x17_f_21) ++ pw ty pp) H := hP
                    have hD : va_D A ((wW_k_X3_spread ty X pn rn tn en rf tp tq x8_5_21 x8_9_21 on cu pu (0) x9_0_21 x9_1_21 x9_2_21 x9_3_21 x11_f_21 x13_f_21 x14_f_21 x15_f_21 x16_f_21 x17_f_21) ++ pw ty pp) := hD
                    refine lv_iconst (v := 0) hx hb dX3_spread_71 (by decide) ?_
                    refine lv_istore (lv' := [(5, .int 0), (1, .int (v1_21 &&& (((1 : Int32) <<< (v3_21 &&& 31)) ^^^ (-1)))), (4, .ref o_37), (0, .ref (X 8)), (2, .int v2_8), (3, .int v3_21)]) hx hb dX3_spread_72 hl (by decide) rfl (fun ls hl => ?_)
                    have L_74 : ∀ (n_74 : Nat) (v5_74 : Int32) (x11_f_74 : Nat → Int64) (x13_f_74 : Nat → Int64) (x14_f_74 : Nat → Int32) (x15_f_74 : Nat → Int32) (x16_f_74 : Nat → Int32) (x17_f_74 : Nat → Int32) (x8_15_74 : Int32) (x8_5_74 : Int32) (x8_9_74 : Int32) (x9_0_74 : Int32) (x9_1_74 : Int32) (x9_2_74 : Int32) (x9_3_74 : Int32), (2147483648 - v5_74.toInt).toNat < n_74 → TT = m_k_X3_spread_74 pp rn tn rf tp tq pu o_37 (m_k_X3_spread_21 pp rn tn rf tp tq pu (m_k_X3_spread_8 pp rn tn rf tp tq pu n_8) v2_8 n_21) v1_21 v3_21 n_74 v5_74 x11_f_74 x13_f_74 x14_f_74 x15_f_74 x16_f_74 x17_f_74 x8_15_74 x8_5_74 x8_9_74 x9_0_74 x9_1_74 x9_2_74 x9_3_74 → 0 ≤ v5_74.toInt → ∀ (H : Heap) (locs : List Loc), va_P D vwCl ((wW_k_X3_spread ty X pn rn tn en rf tp tq x8_5_74 x8_9_74 on cu pu x8_15_74 x9_0_74 x9_1_74 x9_2_74 x9_3_74 x11_f_74 x13_f_74 x14_f_74 x15_f_74 x16_f_74 x17_f_74) ++ pw ty pp) H → va_D A ((wW_k_X3_spread ty X pn rn tn en rf tp tq x8_5_74 x8_9_74 on cu pu x8_15_74 x9_0_74 x9_1_74 x9_2_74 x9_3_74 x11_f_74 x13_f_74 x14_f_74 x15_f_74 x16_f_74 x17_f_74) ++ pw ty pp) → va_S A s.heap H locs → ∀ ls : Array Slot, lv_has ls 6 [(0, .ref (X 8)), (1, .int (v1_21 &&& (((1 : Int32) <<< (v3_21 &&& 31)) ^^^ (-1)))), (2, .int v2_8), (3, .int v3_21), (4, .ref o_37), (5, .int v5_74)] → W p l e (headSpec vs_k_X3_spread { frames := 5, cells := 0, slots := 0, locals := 126 }).room s m ([.ref (X 8)] : List Value).toArray below meth c H locs 0 0 (MQ below (va_Qv (fun u : va_W => ((u = ((wW_k_X3_spread ty X pn rn tn en rf tp tq TT.2.2.2.2.2.2.2.1 TT.2.2.2.2.2.2.2.2.1 on cu pu TT.2.2.2.2.2.2.1 TT.2.2.2.2.2.2.2.2.2.1 TT.2.2.2.2.2.2.2.2.2.2.1 TT.2.2.2.2.2.2.2.2.2.2.2.1 TT.2.2.2.2.2.2.2.2.2.2.2.2 TT.1 TT.2.1 TT.2.2.1 TT.2.2.2.1 TT.2.2.2.2.1 TT.2.2.2.2.2.1) ++ pw ty pp)))) (wq_B D A) A) ([.ref (X 8)] : List Value).toArray s 0 0 A) (F0 m 74 ls []) := by
                      intro n_74
                      induction n_74 with
                      | zero => intro v5_74 x11_f_74 x13_f_74 x14_f_74 x15_f_74 x16_f_74 x17_f_74 x8_15_74 x8_5_74 x8_9_74 x9_0_74 x9_1_74 x9_2_74 x9_3_74 hu; exact absurd hu (Nat.not_lt_zero _)
                      | succ n_74 ih_74 =>
                        intro v5_74 x11_f_74 x13_f_74 x14_f_74 x15_f_74 x16_f_74 x17_f_74 x8_15_74 x8_5_74 x8_9_74 x9_0_74 x9_1_74 x9_2_74 x9_3_74 hu_74 hT hn_74 H locs hP hD hS ls hl
                        rw [m_k_X3_spread_74_succ, m_k_X3_spread_74s] at hT
                        refine lv_iload hx hb dX3_spread_74 (lv_at hl 5 rfl) ?_
                        refine lv_aload_n hx hb dX3_spread_76 rfl (lv_at hl 0 rfl) ?_
                        refine va_get (D := D) (ci := 5) (v := .ref (X 1)) (C := RX3) (T := TX3) (N := 16) hx hb hts iv_k_X3_spread_X3 hown hK hP 4 rfl rfl 0 (by decide) (hts (.fieldLink RX3 47 "AnswerFold$Grounding" "program" "LAnswerFold$Program;") (by decide +kernel)) (fun _ h9 => h9) rfl dX3_spread_77 ?_
                        refine va_getN (D := D) (ci := 8) (v := .int tn) (C := RX6) (T := TX6) (N := 10) hx hb hts iv_k_X3_spread_X6 hown hK hP 0 rfl rfl 6 (by decide) (hE.at (.fieldLinkNest "AnswerFold$Grounding" 104 "AnswerFold$Program" "timeCount" "I" "AnswerFold") (by decide +kernel)) (fun _ h9 => h9) rfl dX3_spread_80 ?_
                        refine lv_icmp_ge (tgt := 113) hx hb dX3_spread_83 (by decide) (fun c_9 => ?_) (fun c_9 => ?_)
                        · rw [if_pos c_9] at hT
                          refine lv_iload_n hx hb dX3_spread_113 rfl (lv_at hl 1 rfl) ?_
                          refine lv_aload_n hx hb dX3_spread_114 rfl (lv_at hl 0 rfl) ?_
                          refine va_get (D := D) (ci := 5) (v := .int x8_15_74) (C := RX3) (T := TX3) (N := 16) hx hb hts iv_k_X3_spread_X3 hown hK hP 4 rfl rfl 15 (by decide) (hts (.fieldLink RX3 101 "AnswerFold$Grounding" "grown" "I") (by decide +kernel)) (fun _ h9 => h9) rfl dX3_spread_115 ?_
                          have J_133 : ∀ (s0_133 : Int32), TT = m_k_X3_spread_133 (m_k_X3_spread_21 pp rn tn rf tp tq pu (m_k_X3_spread_8 pp rn tn rf tp tq pu n_8) v2_8 n_21) v1_21 v3_21 x11_f_74 x13_f_74 x14_f_74 x15_f_74 x16_f_74 x17_f_74 x8_15_74 x8_5_74 x8_9_74 x9_0_74 x9_1_74 x9_2_74 x9_3_74 s0_133 → ∀ (H : Heap) (locs : List Loc), va_P D vwCl ((wW_k_X3_spread ty X pn rn tn en rf tp tq x8_5_74 x8_9_74 on cu pu x8_15_74 x9_0_74 x9_1_74 x9_2_74 x9_3_74 x11_f_74 x13_f_74 x14_f_74 x15_f_74 x16_f_74 x17_f_74) ++ pw ty pp) H → va_D A ((wW_k_X3_spread ty X pn rn tn en rf tp tq x8_5_74 x8_9_74 on cu pu x8_15_74 x9_0_74 x9_1_74 x9_2_74 x9_3_74 x11_f_74 x13_f_74 x14_f_74 x15_f_74 x16_f_74 x17_f_74) ++ pw ty pp) → va_S A s.heap H locs → ∀ ls : Array Slot, lv_has ls 6 [(0, .ref (X 8)), (2, .int v2_8), (3, .int v3_21)] → W p l e (headSpec vs_k_X3_spread { frames := 5, cells := 0, slots := 0, locals := 126 }).room s m ([.ref (X 8)] : List Value).toArray below meth c H locs 0 0 (MQ below (va_Qv (fun u : va_W => ((u = ((wW_k_X3_spread ty X pn rn tn en rf tp tq TT.2.2.2.2.2.2.2.1 TT.2.2.2.2.2.2.2.2.1 on cu pu TT.2.2.2.2.2.2.1 TT.2.2.2.2.2.2.2.2.2.1 TT.2.2.2.2.2.2.2.2.2.2.1 TT.2.2.2.2.2.2.2.2.2.2.2.1 TT.2.2.2.2.2.2.2.2.2.2.2.2 TT.1 TT.2.1 TT.2.2.1 TT.2.2.2.1 TT.2.2.2.2.1 TT.2.2.2.2.2.1) ++ pw ty pp)))) (wq_B D A) A) ([.ref (X 8)] : List Value).toArray s 0 0 A) (F0 m 133 ls [.int s0_133, .int (v1_21 &&& (((1 : Int32) <<< (v3_21 &&& 31)) ^^^ (-1)))]) := by
                            intro s0_133 hT  H locs hP hD hS ls hl
                            rw [m_k_X3_spread_133] at hT
                            refine lv_ior hx hb dX3_spread_133 ?_
                            refine lv_istore_n (lv' := [(1, .int ((v1_21 &&& (((1 : Int32) <<< (v3_21 &&& 31)) ^^^ (-1))) ||| s0_133)), (0, .ref (X 8)), (2, .int v2_8), (3, .int v3_21)]) hx hb dX3_spread_134 rfl hl (by decide) rfl (fun ls hl => ?_)
                            exact J_135 ((v1_21 &&& (((1 : Int32) <<< (v3_21 &&& 31)) ^^^ (-1))) ||| s0_133) x11_f_74 x13_f_74 x14_f_74 x15_f_74 x16_f_74 x17_f_74 x8_15_74 x8_5_74 x8_9_74 x9_0_74 x9_1_74 x9_2_74 x9_3_74 hT _ _ hP hD hS _ (lv_sub hl [1, 0, 2, 3] rfl)
                          refine lv_if_ne (tgt := 125) hx hb dX3_spread_118 (by decide) (fun c_10 => ?_) (fun c_10 => ?_)
                          · rw [if_neg c_10] at hT
                            refine lv_aload_n hx hb dX3_spread_125 rfl (lv_at hl 0 rfl) ?_
                            refine lv_aload_n hx hb dX3_spread_126 rfl (lv_at hl 0 rfl) ?_
                            refine va_get (D := D) (ci := 5) (v := .int x8_15_74) (C := RX3) (T := TX3) (N := 16) hx hb hts iv_k_X3_spread_X3 hown hK hP 4 rfl rfl 15 (by decide) (hts (.fieldLink RX3 101 "AnswerFold$Grounding" "grown" "I") (by decide +kernel)) (fun _ h9 => h9) rfl dX3_spread_127 ?_
                            obtain ⟨t_130, ht_130⟩ : ∃ t, t = m_k_X3_rulesNeeding pp rn rf pu x8_15_74 := ⟨_, rfl⟩
                            rw [lE_eq ht_130] at hT
                            refine wq_iPW (wc := (wW_k_X3_rulesNeeding ty X pn rn tn en rf x8_5_74 x8_9_74 on cu pu x8_15_74)) (pl := pw ty pp) (ux := (wW_k_X3_rulesNeeding ty X pn rn tn en rf x8_5_74 x8_9_74 on cu pu x8_15_74)) (va_runV (As := [.int x8_15_74]) (rest := [.int (v1_21 &&& (((1 : Int32) <<< (v3_21 &&& 31)) ^^^ (-1)))]) ⟨hx, hb, hml, hown, hts⟩ (k_X3_rulesNeeding l D ty td mi H.size pp X pn rn tn en rf x8_5_74 x8_9_74 on cu pu x8_15_74 x8_15_74 hok hru t_130 ht_130) (cwV 1 hts gv_k_X3_spread_2 rfl rfl rfl (by decide +kernel) ⟨(Nat.le_of_ble_eq_true rfl), (Nat.le_of_ble_eq_true rfl)⟩) (wm_V (wm_preSP hP hD hK hE hS hA [true, true, false, false, true] rfl) (va_recv (q0 := 4) (ci := 5) hK hP rfl rfl)) rfl rfl hl.1 rfl (lv_room (Nat.le_of_ble_eq_true rfl)) dX3_spread_130 ⟨(Nat.le_of_ble_eq_true rfl), (Nat.le_of_ble_eq_true rfl)⟩) hS hA hP hD [true, true, false, false, true] rfl rfl (fun _ _ h => h.2) (fun r H locs hw hP hD hS => ?_)
                            obtain ⟨hr0, -⟩ := hw
                            subst r
                            have hP : va_P D vwCl ((wW_k_X3_spread ty X pn rn tn en rf tp tq x8_5_74 x8_9_74 on cu pu x8_15_74 x9_0_74 x9_1_74 x9_2_74 x9_3_74 x11_f_74 x13_f_74 x14_f_74 x15_f_74 x16_f_74 x17_f_74) ++ pw ty pp) H := hP
                            have hD : va_D A ((wW_k_X3_spread ty X pn rn tn en rf tp tq x8_5_74 x8_9_74 on cu pu x8_15_74 x9_0_74 x9_1_74 x9_2_74 x9_3_74 x11_f_74 x13_f_74 x14_f_74 x15_f_74 x16_f_74 x17_f_74) ++ pw ty pp) := hD
                            refine W.widen (k := 0) (n := 0) (Nat.le_of_ble_eq_true rfl) (Nat.le_of_ble_eq_true rfl) ?_
                            exact J_133 t_130 hT _ _ hP hD hS _ (lv_sub hl [0, 2, 3] rfl)
                          · rw [if_pos c_10] at hT
                            refine lv_iconst (v := 0) hx hb dX3_spread_121 (by decide) ?_
                            refine lv_goto (tgt := 133) hx hb dX3_spread_122 (by decide) ?_
                            exact J_133 0 hT _ _ hP hD hS _ (lv_sub hl [0, 2, 3] rfl)
                        · rw [if_neg c_9] at hT
                          refine lv_aload_n hx hb dX3_spread_86 rfl (lv_at hl 0 rfl) ?_
                          refine lv_aload hx hb dX3_spread_87 (lv_at hl 4 rfl) ?_
                          refine lv_iload_n hx hb dX3_spread_89 rfl (lv_at hl 3 rfl) ?_
                          refine lv_aload_n hx hb dX3_spread_90 rfl (lv_at hl 0 rfl) ?_
                          refine va_get (D := D) (ci := 5) (v := .ref (X 1)) (C := RX3) (T := TX3) (N := 16) hx hb hts iv_k_X3_spread_X3 hown hK hP 4 rfl rfl 0 (by decide) (hts (.fieldLink RX3 47 "AnswerFold$Grounding" "program" "LAnswerFold$Program;") (by decide +kernel)) (fun _ h9 => h9) rfl dX3_spread_91 ?_
                          refine lv_iload hx hb dX3_spread_94 (lv_at hl 5 rfl) ?_
                          refine lv_aload hx hb dX3_spread_96 (lv_at hl 4 rfl) ?_
                          obtain ⟨k_13, hk_13⟩ := List.getElem?_of_mem (pw_rule (ty := ty) (p := pp) (L := [((X 1), .inr (8, [.ref (X 2), .int pn, .ref (X 3), .int rn, .ref (X 4), .ref (X 5), .int tn, .ref (X 6), .ref (X 7), .int en])), ((X 3), .inl (ty 4, 20, .inr (.inr (.inr (.inr rf))))), ((X 4), .inl (ty 0, 7, .inl tp)), ((X 5), .inl (ty 0, 7, .inl tq)), ((X 8), .inr (5, [.ref (X 1), .ref (X 9), .ref (X 10), .ref (X 12), .ref (X 14), .int x8_5_74, .ref (X 15), .ref (X 16), .ref (X 17), .int x8_9_74, .ref (X 18), .ref (X 19), .int on, .int cu, .int pu, .int x8_15_74])), ((X 9), .inr (4, [.int x9_0_74, .int x9_1_74, .int x9_2_74, .int x9_3_74])), ((X 10), .inr (3, [.ref (X 11)])), ((X 11), .inl (ty 1, 6, .inr (.inl x11_f_74))), ((X 12), .inr (3, [.ref (X 13)])), ((X 13), .inl (ty 1, 6, .inr (.inl x13_f_74))), ((X 14), .inl (ty 0, 16, .inl x14_f_74)), ((X 15), .inl (ty 0, 300, .inl x15_f_74)), ((X 16), .inl (ty 0, 300, .inl x16_f_74)), ((X 17), .inl (ty 0, 20, .inl x17_f_74))]) (mm_k_X6_ruleAt pp rn rf v3_21 hok hru _ (by rw [← ht_37]; exact ho_37)))
                          refine va_getN (D := D) (ci := 10) (v := .int (pI pp o_37 1)) (C := RX8) (T := TX8) (N := 11) hx hb hts iv_k_X3_spread_X8 hown hK hP k_13 hk_13 rfl 1 (by decide) (hE.at (.fieldLinkNest "AnswerFold$Grounding" 107 "AnswerFold$Rule" "part" "I" "AnswerFold") (by decide +kernel)) (fun _ h9 => h9) rfl dX3_spread_98 ?_
                          obtain ⟨t_101, ht_101⟩ : ∃ t, t = m_k_X6_parameterAt tp tq v5_74 (pI pp o_37 1) := ⟨_, rfl⟩
                          rw [lE_eq ht_101] at hT
                          refine wq_iQW (wc := (wW_k_X6_parameterAt ty X pn rn tn en tp tq)) (pl := pw ty pp) (va_runV (As := [.int v5_74, .int (pI pp o_37 1)]) (rest := [.int v3_21, .ref o_37, .ref (X 8)]) ⟨hx, hb, hml, hown, hts⟩ (k_X6_parameterAt l D ty td mi H.size X pn rn tn en tp tq v5_74 (pI pp o_37 1) t_101 ht_101) (cwV 2 hts gv_k_X3_spread_3 rfl rfl rfl (by decide +kernel) ⟨(Nat.le_of_ble_eq_true rfl), (Nat.le_of_ble_eq_true rfl)⟩) (wm_V (wm_preS (vP_left hP) (vD_left hD) hK hE hS hA [true, false, true, true] rfl) (va_recv (q0 := 0) (ci := 8) hK hP rfl rfl)) rfl rfl hl.1 rfl (lv_room (Nat.le_of_ble_eq_true rfl)) dX3_spread_101 ⟨(Nat.le_of_ble_eq_true rfl), (Nat.le_of_ble_eq_true rfl)⟩) hS hA hP hD [true, false, true, true] rfl (fun _ _ h => by rcases h with ⟨-, rfl⟩; rfl) (fun r u H locs hw hP hD hS => ?_)
                          obtain ⟨hr0, rfl⟩ := hw
                          subst r
                          have hP : va_P D vwCl ((wW_k_X3_spread ty X pn rn tn en rf tp tq x8_5_74 x8_9_74 on cu pu x8_15_74 x9_0_74 x9_1_74 x9_2_74 x9_3_74 x11_f_74 x13_f_74 x14_f_74 x15_f_74 x16_f_74 x17_f_74) ++ pw ty pp) H := hP
                          have hD : va_D A ((wW_k_X3_spread ty X pn rn tn en rf tp tq x8_5_74 x8_9_74 on cu pu x8_15_74 x9_0_74 x9_1_74 x9_2_74 x9_3_74 x11_f_74 x13_f_74 x14_f_74 x15_f_74 x16_f_74 x17_f_74) ++ pw ty pp) := hD
                          refine W.widen (k := 0) (n := 0) (Nat.le_of_ble_eq_true rfl) (Nat.le_of_ble_eq_true rfl) ?_
                          obtain ⟨t_104, ht_104⟩ : ∃ t, t = m_k_X3_eachInstance pp x8_5_74 x8_9_74 pu x8_15_74 x9_0_74 x9_1_74 x9_2_74 x11_f_74 x13_f_74 x14_f_74 x15_f_74 x16_f_74 x17_f_74 o_37 v3_21 t_101 := ⟨_, rfl⟩
                          rw [lE_eq ht_104] at hT
                          refine wq_vPW (wc := (wW_k_X3_eachInstance ty X x8_5_74 x8_9_74 on cu pu x8_15_74 x9_0_74 x9_1_74 x9_2_74 x9_3_74 x11_f_74 x13_f_74 x14_f_74 x15_f_74 x16_f_74 x17_f_74)) (pl := pw ty pp) (ux := (wW_k_X3_eachInstance ty X t_104.2.2.2.2.2.2.2.1 t_104.2.2.2.2.2.2.2.2.1 on cu pu t_104.2.2.2.2.2.2.1 t_104.2.2.2.2.2.2.2.2.2.1 t_104.2.2.2.2.2.2.2.2.2.2.1 t_104.2.2.2.2.2.2.2.2.2.2.2.1 t_104.2.2.2.2.2.2.2.2.2.2.2.2 t_104.1 t_104.2.1 t_104.2.2.1 t_104.2.2.2.1 t_104.2.2.2.2.1 t_104.2.2.2.2.2.1)) (va_runV (As := [.ref o_37, .int v3_21, .int t_101]) (rest := []) ⟨hx, hb, hml, hown, hts⟩ (k_X3_eachInstance l D ty td mi H.size pp X x8_5_74 x8_9_74 on cu pu x8_15_74 x9_0_74 x9_1_74 x9_2_74 x9_3_74 x11_f_74 x13_f_74 x14_f_74 x15_f_74 x16_f_74 x17_f_74 o_37 v3_21 t_101 hok (mm_k_X6_ruleAt pp rn rf v3_21 hok hru _ (by rw [← ht_37]; exact ho_37)) t_104 ht_104) (cwV 3 hts gv_k_X3_spread_4 rfl rfl rfl (by decide +kernel) ⟨(Nat.le_of_ble_eq_true rfl), (Nat.le_of_ble_eq_true rfl)⟩) (wm_V (wm_preSP hP hD hK hE hS hA [false, false, false, false, true, true, true, true, true, true, true, true, true, true] rfl) (va_recv (q0 := 4) (ci := 5) hK hP rfl rfl)) rfl rfl hl.1 rfl (lv_room (Nat.le_of_ble_eq_true rfl)) dX3_spread_104 ⟨(Nat.le_of_ble_eq_true rfl), (Nat.le_of_ble_eq_true rfl)⟩) hS hA hP hD [false, false, false, false, true, true, true, true, true, true, true, true, true, true] rfl rfl (fun _ h => h) (fun  H locs hw hP hD hS => ?_)
                          have hP : va_P D vwCl ((wW_k_X3_spread ty X pn rn tn en rf tp tq t_104.2.2.2.2.2.2.2.1 t_104.2.2.2.2.2.2.2.2.1 on cu pu t_104.2.2.2.2.2.2.1 t_104.2.2.2.2.2.2.2.2.2.1 t_104.2.2.2.2.2.2.2.2.2.2.1 t_104.2.2.2.2.2.2.2.2.2.2.2.1 t_104.2.2.2.2.2.2.2.2.2.2.2.2 t_104.1 t_104.2.1 t_104.2.2.1 t_104.2.2.2.1 t_104.2.2.2.2.1 t_104.2.2.2.2.2.1) ++ pw ty pp) H := hP
                          have hD : va_D A ((wW_k_X3_spread ty X pn rn tn en rf tp tq t_104.2.2.2.2.2.2.2.1 t_104.2.2.2.2.2.2.2.2.1 on cu pu t_104.2.2.2.2.2.2.1 t_104.2.2.2.2.2.2.2.2.2.1 t_104.2.2.2.2.2.2.2.2.2.2.1 t_104.2.2.2.2.2.2.2.2.2.2.2.1 t_104.2.2.2.2.2.2.2.2.2.2.2.2 t_104.1 t_104.2.1 t_104.2.2.1 t_104.2.2.2.1 t_104.2.2.2.2.1 t_104.2.2.2.2.2.1) ++ pw ty pp) := hD
                          refine W.widen (k := 0) (n := 0) (Nat.le_of_ble_eq_true rfl) (Nat.le_of_ble_eq_true rfl) ?_
                          refine lv_iinc (v := v5_74 + 1) (lv' := [(5, .int (v5_74 + 1)), (0, .ref (X 8)), (1, .int (v1_21 &&& (((1 : Int32) <<< (v3_21 &&& 31)) ^^^ (-1)))), (2, .int v2_8), (3, .int v3_21), (4, .ref o_37)]) hx hb dX3_spread_107 hl (k := 5) rfl (by rfl) (by decide) rfl (fun ls hl => ?_)
                          refine lv_goto (tgt := 74) hx hb dX3_spread_110 (by decide) ?_
                          exact ih_74 (v5_74 + 1) t_104.1 t_104.2.1 t_104.2.2.1 t_104.2.2.2.1 t_104.2.2.2.2.1 t_104.2.2.2.2.2.1 t_104.2.2.2.2.2.2.1 t_104.2.2.2.2.2.2.2.1 t_104.2.2.2.2.2.2.2.2.1 t_104.2.2.2.2.2.2.2.2.2.1 t_104.2.2.2.2.2.2.2.2.2.2.1 t_104.2.2.2.2.2.2.2.2.2.2.2.1 t_104.2.2.2.2.2.2.2.2.2.2.2.2 (wi_up hu_74 (Int32.not_le.mp c_9)) hT (wi_inc hn_74 (Int32.not_le.mp c_9)) _ _ hP hD hS _ (lv_sub hl [1, 2, 3, 4, 5, 0] rfl)
                    exact L_74 wF 0 x11_f_21 x13_f_21 x14_f_21 x15_f_21 x16_f_21 x17_f_21 0 x8_5_21 x8_9_21 x9_0_21 x9_1_21 x9_2_21 x9_3_21 (wF_up 0) hT (by decide) _ _ hP hD hS _ (lv_sub hl [3, 1, 4, 5, 2, 0] rfl)
                  · rw [if_pos c_8] at hT
                    refine lv_goto (tgt := 135) hx hb dX3_spread_55 (by decide) ?_
                    exact J_135 v1_21 x11_f_21 x13_f_21 x14_f_21 x15_f_21 x16_f_21 x17_f_21 x8_15_21 x8_5_21 x8_9_21 x9_0_21 x9_1_21 x9_2_21 x9_3_21 hT _ _ hP hD hS _ (lv_sub hl [1, 2, 3, 4] rfl)
          exact L_21 wF v1_8 0 x11_f_8 x13_f_8 x14_f_8 x15_f_8 x16_f_8 x17_f_8 x8_15_8 x8_5_8 x8_9_8 x9_0_8 x9_1_8 x9_2_8 x9_3_8 (wF_up 0) hT (by decide) _ _ hP hD hS _ (lv_sub hl [1, 2, 3, 0] rfl)
  exact L_8 wF t_2 0 su po hds kr kv kb gw hn kn b_1 b_2 b_3 b_p (wF_up 0) hT (by decide) _ _ hP hD hS _ (lv_sub hl [2, 1, 0] rfl)
theorem dX3_refresh_0 : decode cX3_refresh 0 = .ok (.aload_n 0, 1) := by decide +kernel
theorem dX3_refresh_1 : decode cX3_refresh 1 = .ok (.getfield 51, 3) := by decide +kernel
theorem dX3_refresh_4 : decode cX3_refresh 4 = .ok (.ifCond .eq 4, 3) := by decide +kernel
theorem dX3_refresh_7 : decode cX3_refresh 7 = .ok (.return_, 1) := by decide +kernel
theorem dX3_refresh_8 : decode cX3_refresh 8 = .ok (.aload_n 0, 1) := by decide +kernel
theorem dX3_refresh_9 : decode cX3_refresh 9 = .ok (.getfield 21, 3) := by decide +kernel
theorem dX3_refresh_12 : decode cX3_refresh 12 = .ok (.invokevirtual 55, 3) := by decide +kernel
theorem dX3_refresh_15 : decode cX3_refresh 15 = .ok (.aload_n 0, 1) := by decide +kernel
theorem dX3_refresh_16 : decode cX3_refresh 16 = .ok (.getfield 25, 3) := by decide +kernel
theorem dX3_refresh_19 : decode cX3_refresh 19 = .ok (.invokevirtual 55, 3) := by decide +kernel
theorem dX3_refresh_22 : decode cX3_refresh 22 = .ok (.aload_n 0, 1) := by decide +kernel
theorem dX3_refresh_23 : decode cX3_refresh 23 = .ok (.invokevirtual 58, 3) := by decide +kernel
theorem dX3_refresh_26 : decode cX3_refresh 26 = .ok (.aload_n 0, 1) := by decide +kernel
theorem dX3_refresh_27 : decode cX3_refresh 27 = .ok (.iconst 0, 1) := by decide +kernel
theorem dX3_refresh_28 : decode cX3_refresh 28 = .ok (.putfield 61, 3) := by decide +kernel
theorem dX3_refresh_31 : decode cX3_refresh 31 = .ok (.aload_n 0, 1) := by decide +kernel
theorem dX3_refresh_32 : decode cX3_refresh 32 = .ok (.invokevirtual 65, 3) := by decide +kernel
theorem dX3_refresh_35 : decode cX3_refresh 35 = .ok (.aload_n 0, 1) := by decide +kernel
theorem dX3_refresh_36 : decode cX3_refresh 36 = .ok (.iconst 1, 1) := by decide +kernel
theorem dX3_refresh_37 : decode cX3_refresh 37 = .ok (.putfield 61, 3) := by decide +kernel
theorem dX3_refresh_40 : decode cX3_refresh 40 = .ok (.aload_n 0, 1) := by decide +kernel
theorem dX3_refresh_41 : decode cX3_refresh 41 = .ok (.invokevirtual 65, 3) := by decide +kernel
theorem dX3_refresh_44 : decode cX3_refresh 44 = .ok (.aload_n 0, 1) := by decide +kernel
theorem dX3_refresh_45 : decode cX3_refresh 45 = .ok (.iconst 2, 1) := by decide +kernel
theorem dX3_refresh_46 : decode cX3_refresh 46 = .ok (.putfield 61, 3) := by decide +kernel
theorem dX3_refresh_49 : decode cX3_refresh 49 = .ok (.aload_n 0, 1) := by decide +kernel
theorem dX3_refresh_50 : decode cX3_refresh 50 = .ok (.invokevirtual 68, 3) := by decide +kernel
theorem dX3_refresh_53 : decode cX3_refresh 53 = .ok (.aload_n 0, 1) := by decide +kernel
theorem dX3_refresh_54 : decode cX3_refresh 54 = .ok (.invokevirtual 71, 3) := by decide +kernel
theorem dX3_refresh_57 : decode cX3_refresh 57 = .ok (.aload_n 0, 1) := by decide +kernel
theorem dX3_refresh_58 : decode cX3_refresh 58 = .ok (.iconst 1, 1) := by decide +kernel
theorem dX3_refresh_59 : decode cX3_refresh 59 = .ok (.putfield 51, 3) := by decide +kernel
theorem dX3_refresh_62 : decode cX3_refresh 62 = .ok (.return_, 1) := by decide +kernel
def wW_k_X3_refresh (ty : Nat → ClassId) (X : Nat → Nat) (z9_0 : Int32) (z9_1 : Int32) (z9_2 : Int32) (z9_3 : Int32) (z9_4 : Nat → Option Nat) (z9_5 : Nat → Int32) (z9_6 : Nat → Int32) (z9_7 : Nat → Int32) (z9_8 : Nat → Int32) (z9_9 : Int32) (z9_10 : Int32) (z9_11 : Int32) (z9_12 : Int32) (z9_13 : Int32) (z9_14 : Int32) (z9_15 : Int32) (z9_16 : Int32) (z9_17 : Int32) (z9_18 : Int32) (z9_19 : Nat → Int64) (z9_20 : Nat → Int64) (z9_21 : Nat → Int32) (z9_22 : Nat → Int32) (z9_23 : Nat → Int32) (z9_24 : Nat → Int32) (z9_25 : Nat → Int32) (z9_26 : Nat → Int32) : va_W := [((X 1), .inr (8, [.ref (X 2), .int z9_0, .ref (X 3), .int z9_1, .ref (X 4), .ref (X 5), .int z9_2, .ref (X 6), .ref (X 7), .int z9_3])), ((X 3), .inl (ty 4, 20, .inr (.inr (.inr (.inr z9_4))))), ((X 4), .inl (ty 0, 7, .inl z9_5)), ((X 5), .inl (ty 0, 7, .inl z9_6)), ((X 6), .inl (ty 0, 6, .inl z9_7)), ((X 7), .inl (ty 2, 6, .inl z9_8)), ((X 8), .inr (5, [.ref (X 1), .ref (X 9), .ref (X 10), .ref (X 12), .ref (X 14), .int z9_9, .ref (X 15), .ref (X 16), .ref (X 17), .int z9_10, .ref (X 18), .ref (X 19), .int z9_11, .int z9_12, .int z9_13, .int z9_14])), ((X 9), .inr (4, [.int z9_15, .int z9_16, .int z9_17, .int z9_18])), ((X 10), .inr (3, [.ref (X 11)])), ((X 11), .inl (ty 1, 6, .inr (.inl z9_19))), ((X 12), .inr (3, [.ref (X 13)])), ((X 13), .inl (ty 1, 6, .inr (.inl z9_20))), ((X 14), .inl (ty 0, 16, .inl z9_21)), ((X 15), .inl (ty 0, 300, .inl z9_22)), ((X 16), .inl (ty 0, 300, .inl z9_23)), ((X 17), .inl (ty 0, 20, .inl z9_24)), ((X 18), .inl (ty 0, 384, .inl z9_25)), ((X 19), .inl (ty 0, 384, .inl z9_26))]
def vs_k_X3_refresh : List Cond := .code yX3_refresh cX3_refresh 1 none :: ([.fieldLink RX3 51 "AnswerFold$Grounding" "isCurrent" "Z", .fieldLink RX3 21 "AnswerFold$Grounding" "sure" "LAnswerFold$AtomSet;", .methodLink RX3 55 yX1_clear, .instanceMethod yX1_clear, .selects RX1 yX1_clear yX1_clear, .initialized RX1, .fieldLink RX3 25 "AnswerFold$Grounding" "possible" "LAnswerFold$AtomSet;", .methodLink RX3 58 yX3_beginWithExternals, .instanceMethod yX3_beginWithExternals, .selects RX3 yX3_beginWithExternals yX3_beginWithExternals, .initialized RX3, .fieldLink RX3 61 "AnswerFold$Grounding" "purpose" "I", .methodLink RX3 65 yX3_spread, .instanceMethod yX3_spread, .selects RX3 yX3_spread yX3_spread, .methodLink RX3 68 yX3_keepInstances, .instanceMethod yX3_keepInstances, .selects RX3 yX3_keepInstances yX3_keepInstances, .methodLink RX3 71 yX3_numberOpenAtoms, .instanceMethod yX3_numberOpenAtoms, .selects RX3 yX3_numberOpenAtoms yX3_numberOpenAtoms] ++ (u_ws RX3 TX3 16 ++ (vs_k_X1_clear ++ (vs_k_X3_beginWithExternals ++ (vs_k_X3_spread ++ (vs_k_X3_keepInstances ++ (vs_k_X3_numberOpenAtoms)))))))
theorem iv_k_X3_refresh_X3 : ∀ w ∈ u_ws RX3 TX3 16, w ∈ vs_k_X3_refresh := (fun _ h => List.mem_cons_of_mem _ (List.mem_append_right _ (List.mem_append_left _ h)))
set_option maxRecDepth 20000 in
theorem gv_k_X3_refresh_0 : GoodIn vs_k_X3_refresh (wsV RX3 55 RX1 yX1_clear vs_k_X1_clear) := goodIn_app (goodIn_sub (by decide +kernel) (by decide +kernel)) (goodIn_sub (fun _ h => List.mem_cons_of_mem _ (List.mem_append_right _ (List.mem_append_right _ (List.mem_append_left _ h)))) (by decide +kernel))
set_option maxRecDepth 20000 in
theorem gv_k_X3_refresh_1 : GoodIn vs_k_X3_refresh (wsV RX3 55 RX1 yX1_clear vs_k_X1_clear) := goodIn_app (goodIn_sub (by decide +kernel) (by decide +kernel)) (goodIn_sub (fun _ h => List.mem_cons_of_mem _ (List.mem_append_right _ (List.mem_append_right _ (List.mem_append_left _ h)))) (by decide +kernel))
set_option maxRecDepth 20000 in
theorem gv_k_X3_refresh_2 : GoodIn vs_k_X3_refresh (wsV RX3 58 RX3 yX3_beginWithExternals vs_k_X3_beginWithExternals) := goodIn_app (goodIn_sub (by decide +kernel) (by decide +kernel)) (goodIn_sub (fun _ h => List.mem_cons_of_mem _ (List.mem_append_right _ (List.mem_append_right _ (List.mem_append_right _ (List.mem_append_left _ h))))) (by decide +kernel))
set_option maxRecDepth 20000 in
theorem gv_k_X3_refresh_3 : GoodIn vs_k_X3_refresh (wsV RX3 65 RX3 yX3_spread vs_k_X3_spread) := goodIn_app (goodIn_sub (by decide +kernel) (by decide +kernel)) (goodIn_sub (fun _ h => List.mem_cons_of_mem _ (List.mem_append_right _ (List.mem_append_right _ (List.mem_append_right _ (List.mem_append_right _ (List.mem_append_left _ h)))))) (by decide +kernel))
set_option maxRecDepth 20000 in
theorem gv_k_X3_refresh_4 : GoodIn vs_k_X3_refresh (wsV RX3 65 RX3 yX3_spread vs_k_X3_spread) := goodIn_app (goodIn_sub (by decide +kernel) (by decide +kernel)) (goodIn_sub (fun _ h => List.mem_cons_of_mem _ (List.mem_append_right _ (List.mem_append_right _ (List.mem_append_right _ (List.mem_append_right _ (List.mem_append_left _ h)))))) (by decide +kernel))
set_option maxRecDepth 20000 in
theorem gv_k_X3_refresh_5 : GoodIn vs_k_X3_refresh (wsV RX3 68 RX3 yX3_keepInstances vs_k_X3_keepInstances) := goodIn_app (goodIn_sub (by decide +kernel) (by decide +kernel)) (goodIn_sub (fun _ h => List.mem_cons_of_mem _ (List.mem_append_right _ (List.mem_append_right _ (List.mem_append_right _ (List.mem_append_right _ (List.mem_append_right _ (List.mem_append_left _ h))))))) (by decide +kernel))
set_option maxRecDepth 20000 in
theorem gv_k_X3_refresh_6 : GoodIn vs_k_X3_refresh (wsV RX3 71 RX3 yX3_numberOpenAtoms vs_k_X3_numberOpenAtoms) := goodIn_app (goodIn_sub (by decide +kernel) (by decide +kernel)) (goodIn_sub (fun _ h => List.mem_cons_of_mem _ (List.mem_append_right _ (List.mem_append_right _ (List.mem_append_right _ (List.mem_append_right _ (List.mem_append_right _ (List.mem_append_right _ (h)))))))) (by decide +kernel))
set_option maxHeartbeats 4000000 in
set_option maxRecDepth 100000 in
theorem k_X3_refresh (l : Launch) (D : va_G) (ty : Nat → ClassId) (td mi sz : Nat) (pp : pT) (X : Nat → Nat) (pn : Int32) (rn : Int32) (tn : Int32) (en : Int32) (rf : Nat → Option Nat) (tp : Nat → Int32) (tq : Nat → Int32) (ea : Nat → Int32) (es : Nat → Int32) (hn : Int32) (kn : Int32) (on : Int32) (cu : Int32) (pu : Int32) (gw : Int32) (b_1 : Int32) (b_2 : Int32) (b_3 : Int32) (b_p : Int32) (su : Nat → Int64) (po : Nat → Int64) (hds : Nat → Int32) (kr : Nat → Int32) (kv : Nat → Int32) (kb : Nat → Int32) (oa : Nat → Int32) (ob : Nat → Int32) (hok : pOK pp) (hru : ∀ (i a : Nat), rf i = some a → a ∈ pRA pp) (hch : ∀ i : Nat, narrow .char (.int (es i)) = .int (es i)) (TT : r_k_X3_refresh) (hTT : TT = m_k_X3_refresh pp rn tn en rf tp tq ea es hn kn on cu pu gw b_1 b_2 b_3 b_p su po hds kr kv kb oa ob) : Met l yX3_refresh vs_k_X3_refresh { frames := 6, cells := 0, slots := 0, locals := 151 } (va_Pc [.ref (X 8)] (wq_P D ty td mi ((wW_k_X3_refresh ty X pn rn tn en rf tp tq ea es hn kn on cu pu gw b_1 b_2 b_3 b_p su po hds kr kv kb oa ob) ++ pw ty pp) sz)) (va_Qv (fun u : va_W => ((u = ((wW_k_X3_refresh ty X pn rn tn en rf tp tq ea es TT.2.2.2.2.2.2.2.2.2.2.2.2.1 TT.2.2.2.2.2.2.2.2.2.2.2.2.2.1 TT.2.2.2.2.2.2.2.2.1 TT.2.2.2.2.2.2.2.2.2.1 TT.2.2.2.2.2.2.2.2.2.2.1 TT.2.2.2.2.2.2.2.2.2.2.2.1 TT.2.2.2.2.2.2.2.2.2.2.2.2.2.2.1 TT.2.2.2.2.2.2.2.2.2.2.2.2.2.2.2.1 TT.2.2.2.2.2.2.2.2.2.2.2.2.2.2.2.2.1 TT.2.2.2.2.2.2.2.2.2.2.2.2.2.2.2.2.2 TT.1 TT.2.1 TT.2.2.1 TT.2.2.2.1 TT.2.2.2.2.1 TT.2.2.2.2.2.1 TT.2.2.2.2.2.2.1 TT.2.2.2.2.2.2.2.1) ++ pw ty pp)))) (wq_B D (va_A ((wW_k_X3_refresh ty X pn rn tn en rf tp tq ea es hn kn on cu pu gw b_1 b_2 b_3 b_p su po hds kr kv kb oa ob) ++ pw ty pp) sz)) (va_A ((wW_k_X3_refresh ty X pn rn tn en rf tp tq ea es hn kn on cu pu gw b_1 b_2 b_3 b_p su po hds kr kv kb oa ob) ++ pw ty pp) sz)) 0 0 (va_A ((wW_k_X3_refresh ty X pn rn tn en rf tp tq ea es hn kn on cu pu gw b_1 b_2 b_3 b_p su po hds kr kv kb oa ob) ++ pw ty pp) sz) := by
  refine Met.ofW (cc := cX3_refresh) (maxL := 1) (ret := none) (by decide) rfl ?_
  intro p e s m args below meth c s₁ B hml hv
  obtain ⟨rfl, hsz, hP, hK, hD0, hE⟩ := hv
  have hx := B.exec
  have hb := B.bytes
  have hr := B.returns
  have hts := atoms_spec (ws := vs_k_X3_refresh) B.pre
  have hown : s.vm.findClass RX3 = some m.cls := findClass_of_methodNamed B.named
  have hlocks := B.notSynchronized
  subst hsz
  have hD := hD0.self (sz := s.heap.size)
  generalize hAe : va_A ((wW_k_X3_refresh ty X pn rn tn en rf tp tq ea es hn kn on cu pu gw b_1 b_2 b_3 b_p su po hds kr kv kb oa ob) ++ pw ty pp) s.heap.size = A at hD hE ⊢
  have hA : ∀ q : Nat, s.heap.size ≤ q → A q := fun q h => by rw [← hAe]; exact Or.inr h
  have hS : va_S A s.heap s.heap [] := va_S.rf
  have hP : va_P D vwCl ((wW_k_X3_refresh ty X pn rn tn en rf tp tq ea es hn kn on cu pu gw b_1 b_2 b_3 b_p su po hds kr kv kb oa ob) ++ pw ty pp) s.heap := hP
  have hl := lv_entry ([.ref (X 8)]) (n := 1) (Nat.le_of_ble_eq_true rfl)
  rw [lg_entry_eq]
  generalize (lg_sl ([.ref (X 8)]) ++ List.replicate (1 - (lg_sl ([.ref (X 8)])).length) Slot.unset).toArray = ls at hl ⊢
  have hl : lv_has ls 1 [(0, .ref (X 8))] := hl
  have END : ∀ (w9_0 : Nat → Int64) (w9_1 : Nat → Int64) (w9_2 : Nat → Int32) (w9_3 : Nat → Int32) (w9_4 : Nat → Int32) (w9_5 : Nat → Int32) (w9_6 : Nat → Int32) (w9_7 : Nat → Int32) (w9_8 : Int32) (w9_9 : Int32) (w9_10 : Int32) (w9_11 : Int32) (w9_12 : Int32) (w9_13 : Int32) (w9_14 : Int32) (w9_15 : Int32) (w9_16 : Int32) (w9_17 : Int32), TT = (w9_0, w9_1, w9_2, w9_3, w9_4, w9_5, w9_6, w9_7, w9_8, w9_9, w9_10, w9_11, w9_12, w9_13, w9_14, w9_15, w9_16, w9_17) → ∀ (H : Heap) (locs : List Loc), va_P D vwCl ((wW_k_X3_refresh ty X pn rn tn en rf tp tq ea es w9_12 w9_13 w9_8 w9_9 w9_10 w9_11 w9_14 w9_15 w9_16 w9_17 w9_0 w9_1 w9_2 w9_3 w9_4 w9_5 w9_6 w9_7) ++ pw ty pp) H → va_D A ((wW_k_X3_refresh ty X pn rn tn en rf tp tq ea es w9_12 w9_13 w9_8 w9_9 w9_10 w9_11 w9_14 w9_15 w9_16 w9_17 w9_0 w9_1 w9_2 w9_3 w9_4 w9_5 w9_6 w9_7) ++ pw ty pp) → va_S A s.heap H locs → ∀ (ls : Array Slot) (pc : Nat), decode cX3_refresh pc = .ok (.return_, 1) → W p l e (headSpec vs_k_X3_refresh { frames := 6, cells := 0, slots := 0, locals := 151 }).room s m ([.ref (X 8)] : List Value).toArray below meth c H locs 0 0 (MQ below (va_Qv (fun u : va_W => ((u = ((wW_k_X3_refresh ty X pn rn tn en rf tp tq ea es TT.2.2.2.2.2.2.2.2.2.2.2.2.1 TT.2.2.2.2.2.2.2.2.2.2.2.2.2.1 TT.2.2.2.2.2.2.2.2.1 TT.2.2.2.2.2.2.2.2.2.1 TT.2.2.2.2.2.2.2.2.2.2.1 TT.2.2.2.2.2.2.2.2.2.2.2.1 TT.2.2.2.2.2.2.2.2.2.2.2.2.2.2.1 TT.2.2.2.2.2.2.2.2.2.2.2.2.2.2.2.1 TT.2.2.2.2.2.2.2.2.2.2.2.2.2.2.2.2.1 TT.2.2.2.2.2.2.2.2.2.2.2.2.2.2.2.2.2 TT.1 TT.2.1 TT.2.2.1 TT.2.2.2.1 TT.2.2.2.2.1 TT.2.2.2.2.2.1 TT.2.2.2.2.2.2.1 TT.2.2.2.2.2.2.2.1) ++ pw ty pp)))) (wq_B D A) A) ([.ref (X 8)] : List Value).toArray s 0 0 A) (F0 m pc ls []) := by
    intro w9_0 w9_1 w9_2 w9_3 w9_4 w9_5 w9_6 w9_7 w9_8 w9_9 w9_10 w9_11 w9_12 w9_13 w9_14 w9_15 w9_16 w9_17 hT H locs hP hD hS ls pc hd
    have hM : TT = (w9_0, w9_1, w9_2, w9_3, w9_4, w9_5, w9_6, w9_7, w9_8, w9_9, w9_10, w9_11, w9_12, w9_13, w9_14, w9_15, w9_16, w9_17) := hT
    exact W.vret hx hb hr (fun t ht hW => ⟨⟨((wW_k_X3_refresh ty X pn rn tn en rf tp tq ea es w9_12 w9_13 w9_8 w9_9 w9_10 w9_11 w9_14 w9_15 w9_16 w9_17 w9_0 w9_1 w9_2 w9_3 w9_4 w9_5 w9_6 w9_7) ++ pw ty pp), rfl, (by rw [hM]), wq_B.of ht hP hD⟩, hS.F ht⟩) hS.2.2 hd
  have hT := hTT
  rw [m_k_X3_refresh] at hT
  refine lv_aload_n hx hb dX3_refresh_0 rfl (lv_at hl 0 rfl) ?_
  refine va_get (D := D) (ci := 5) (v := .int cu) (C := RX3) (T := TX3) (N := 16) hx hb hts iv_k_X3_refresh_X3 hown hK hP 6 rfl rfl 13 (by decide) (hts (.fieldLink RX3 51 "AnswerFold$Grounding" "isCurrent" "Z") (by decide +kernel)) (fun _ h9 => h9) rfl dX3_refresh_1 ?_
  refine lv_if_eq (tgt := 8) hx hb dX3_refresh_4 (by decide) (fun c_1 => ?_) (fun c_1 => ?_)
  · rw [if_pos c_1] at hT
    refine lv_aload_n hx hb dX3_refresh_8 rfl (lv_at hl 0 rfl) ?_
    refine va_get (D := D) (ci := 5) (v := .ref (X 10)) (C := RX3) (T := TX3) (N := 16) hx hb hts iv_k_X3_refresh_X3 hown hK hP 6 rfl rfl 2 (by decide) (hts (.fieldLink RX3 21 "AnswerFold$Grounding" "sure" "LAnswerFold$AtomSet;") (by decide +kernel)) (fun _ h9 => h9) rfl dX3_refresh_9 ?_
    obtain ⟨t_12, ht_12⟩ : ∃ t, t = m_k_X1_clear su := ⟨_, rfl⟩
    rw [lE_eq ht_12] at hT
    refine wq_vQW (wc := (wW_k_X1_clear ty (X 10) (X 11) su)) (pl := pw ty pp) (va_runV (As := []) (rest := []) ⟨hx, hb, hml, hown, hts⟩ (k_X1_clear l D ty td mi s.heap.size (X 10) (X 11) su t_12 ht_12) (cwV 0 hts gv_k_X3_refresh_0 rfl rfl rfl (by decide +kernel) ⟨(Nat.le_of_ble_eq_true rfl), (Nat.le_of_ble_eq_true rfl)⟩) (wm_V (wm_preS (vP_left hP) (vD_left hD) hK hE hS hA [false, false, false, false, false, false, false, false, true, true] rfl) (va_recv (q0 := 8) (ci := 3) hK hP rfl rfl)) rfl rfl hl.1 rfl (lv_room (Nat.le_of_ble_eq_true rfl)) dX3_refresh_12 ⟨(Nat.le_of_ble_eq_true rfl), (Nat.le_of_ble_eq_true rfl)⟩) hS hA hP hD [false, false, false, false, false, false, false, false, true, true] rfl (fun _ h => by rcases h with rfl; rfl) (fun u H locs hw hP hD hS => ?_)
    obtain rfl := hw
    have hP : va_P D vwCl ((wW_k_X3_refresh ty X pn rn tn en rf tp tq ea es hn kn on cu pu gw b_1 b_2 b_3 b_p t_12 po hds kr kv kb oa ob) ++ pw ty pp) H := hP
    have hD : va_D A ((wW_k_X3_refresh ty X pn rn tn en rf tp tq ea es hn kn on cu pu gw b_1 b_2 b_3 b_p t_12 po hds kr kv kb oa ob) ++ pw ty pp) := hD
    refine W.widen (k := 0) (n := 0) (Nat.le_of_ble_eq_true rfl) (Nat.le_of_ble_eq_true rfl) ?_
    refine lv_aload_n hx hb dX3_refresh_15 rfl (lv_at hl 0 rfl) ?_
    refine va_get (D := D) (ci := 5) (v := .ref (X 12)) (C := RX3) (T := TX3) (N := 16) hx hb hts iv_k_X3_refresh_X3 hown hK hP 6 rfl rfl 3 (by decide) (hts (.fieldLink RX3 25 "AnswerFold$Grounding" "possible" "LAnswerFold$AtomSet;") (by decide +kernel)) (fun _ h9 => h9) rfl dX3_refresh_16 ?_
    obtain ⟨t_19, ht_19⟩ : ∃ t, t = m_k_X1_clear po := ⟨_, rfl⟩
    rw [lE_eq ht_19] at hT
    refine wq_vQW (wc := (wW_k_X1_clear ty (X 12) (X 13) po)) (pl := pw ty pp) (va_runV (As := []) (rest := []) ⟨hx, hb, hml, hown, hts⟩ (k_X1_clear l D ty td mi H.size (X 12) (X 13) po t_19 ht_19) (cwV 0 hts gv_k_X3_refresh_1 rfl rfl rfl (by decide +kernel) ⟨(Nat.le_of_ble_eq_true rfl), (Nat.le_of_ble_eq_true rfl)⟩) (wm_V (wm_preS (vP_left hP) (vD_left hD) hK hE hS hA [false, false, false, false, false, false, false, false, false, false, true, true] rfl) (va_recv (q0 := 10) (ci := 3) hK hP rfl rfl)) rfl rfl hl.1 rfl (lv_room (Nat.le_of_ble_eq_true rfl)) dX3_refresh_19 ⟨(Nat.le_of_ble_eq_true rfl), (Nat.le_of_ble_eq_true rfl)⟩) hS hA hP hD [false, false, false, false, false, false, false, false, false, false, true, true] rfl (fun _ h => by rcases h with rfl; rfl) (fun u H locs hw hP hD hS => ?_)
    obtain rfl := hw
    have hP : va_P D vwCl ((wW_k_X3_refresh ty X pn rn tn en rf tp tq ea es hn kn on cu pu gw b_1 b_2 b_3 b_p t_12 t_19 hds kr kv kb oa ob) ++ pw ty pp) H := hP
    have hD : va_D A ((wW_k_X3_refresh ty X pn rn tn en rf tp tq ea es hn kn on cu pu gw b_1 b_2 b_3 b_p t_12 t_19 hds kr kv kb oa ob) ++ pw ty pp) := hD
    refine W.widen (k := 0) (n := 0) (Nat.le_of_ble_eq_true rfl) (Nat.le_of_ble_eq_true rfl) ?_
    refine lv_aload_n hx hb dX3_refresh_22 rfl (lv_at hl 0 rfl) ?_
    obtain ⟨t_23, ht_23⟩ : ∃ t, t = m_k_X3_beginWithExternals en ea es t_12 t_19 := ⟨_, rfl⟩
    rw [lE_eq ht_23] at hT
    refine wq_vQW (wc := (wW_k_X3_beginWithExternals ty X pn rn tn en ea es hn kn on cu pu gw t_12 t_19)) (pl := pw ty pp) (va_runV (As := []) (rest := []) ⟨hx, hb, hml, hown, hts⟩ (k_X3_beginWithExternals l D ty td mi H.size X pn rn tn en ea es hn kn on cu pu gw t_12 t_19 hch t_23 ht_23) (cwV 0 hts gv_k_X3_refresh_2 rfl rfl rfl (by decide +kernel) ⟨(Nat.le_of_ble_eq_true rfl), (Nat.le_of_ble_eq_true rfl)⟩) (wm_V (wm_preS (vP_left hP) (vD_left hD) hK hE hS hA [true, false, false, false, true, true, true, false, true, true, true, true] rfl) (va_recv (q0 := 6) (ci := 5) hK hP rfl rfl)) rfl rfl hl.1 rfl (lv_room (Nat.le_of_ble_eq_true rfl)) dX3_refresh_23 ⟨(Nat.le_of_ble_eq_true rfl), (Nat.le_of_ble_eq_true rfl)⟩) hS hA hP hD [true, false, false, false, true, true, true, false, true, true, true, true] rfl (fun _ h => by rcases h with rfl; rfl) (fun u H locs hw hP hD hS => ?_)
    obtain rfl := hw
    have hP : va_P D vwCl ((wW_k_X3_refresh ty X pn rn tn en rf tp tq ea es hn kn on cu pu gw b_1 b_2 b_3 b_p t_23.1 t_23.2 hds kr kv kb oa ob) ++ pw ty pp) H := hP
    have hD : va_D A ((wW_k_X3_refresh ty X pn rn tn en rf tp tq ea es hn kn on cu pu gw b_1 b_2 b_3 b_p t_23.1 t_23.2 hds kr kv kb oa ob) ++ pw ty pp) := hD
    refine W.widen (k := 0) (n := 0) (Nat.le_of_ble_eq_true rfl) (Nat.le_of_ble_eq_true rfl) ?_
    refine lv_aload_n hx hb dX3_refresh_26 rfl (lv_at hl 0 rfl) ?_
    refine lv_iconst (v := 0) hx hb dX3_refresh_27 (by decide) ?_
    refine va_put (D := D) (ci := 5) (v := .int 0) (ty := tyX3 14) (C := RX3) (T := TX3) (N := 16) hx hb hts iv_k_X3_refresh_X3 tyX3 tyX3_ok nmX3 hown hK hP hD hS 6 rfl rfl 14 (by decide) (hts (.fieldLink RX3 61 "AnswerFold$Grounding" "purpose" "I") (by decide +kernel)) (fun _ h9 => h9) rfl (by decide +kernel) rfl rfl (Nat.le_of_ble_eq_true rfl) dX3_refresh_28 (fun H locs hP hD hS => ?_)
    have hP : va_P D vwCl ((wW_k_X3_refresh ty X pn rn tn en rf tp tq ea es hn kn on cu (0) gw b_1 b_2 b_3 b_p t_23.1 t_23.2 hds kr kv kb oa ob) ++ pw ty pp) H := hP
    have hD : va_D A ((wW_k_X3_refresh ty X pn rn tn en rf tp tq ea es hn kn on cu (0) gw b_1 b_2 b_3 b_p t_23.1 t_23.2 hds kr kv kb oa ob) ++ pw ty pp) := hD
    refine lv_aload_n hx hb dX3_refresh_31 rfl (lv_at hl 0 rfl) ?_
    obtain ⟨t_32, ht_32⟩ : ∃ t, t = m_k_X3_spread pp rn tn rf tp tq hn kn 0 gw b_1 b_2 b_3 b_p t_23.1 t_23.2 hds kr kv kb := ⟨_, rfl⟩
    rw [lE_eq ht_32] at hT
    refine wq_vPW (wc := (wW_k_X3_spread ty X pn rn tn en rf tp tq hn kn on cu (0) gw b_1 b_2 b_3 b_p t_23.1 t_23.2 hds kr kv kb)) (pl := pw ty pp) (ux := (wW_k_X3_spread ty X pn rn tn en rf tp tq t_32.2.2.2.2.2.2.2.1 t_32.2.2.2.2.2.2.2.2.1 on cu (0) t_32.2.2.2.2.2.2.1 t_32.2.2.2.2.2.2.2.2.2.1 t_32.2.2.2.2.2.2.2.2.2.2.1 t_32.2.2.2.2.2.2.2.2.2.2.2.1 t_32.2.2.2.2.2.2.2.2.2.2.2.2 t_32.1 t_32.2.1 t_32.2.2.1 t_32.2.2.2.1 t_32.2.2.2.2.1 t_32.2.2.2.2.2.1)) (va_runV (As := []) (rest := []) ⟨hx, hb, hml, hown, hts⟩ (k_X3_spread l D ty td mi H.size pp X pn rn tn en rf tp tq hn kn on cu 0 gw b_1 b_2 b_3 b_p t_23.1 t_23.2 hds kr kv kb hok hru t_32 ht_32) (cwV 0 hts gv_k_X3_refresh_3 rfl rfl rfl (by decide +kernel) ⟨(Nat.le_of_ble_eq_true rfl), (Nat.le_of_ble_eq_true rfl)⟩) (wm_V (wm_preSP hP hD hK hE hS hA [true, true, true, true, false, false, true, true, true, true, true, true, true, true, true, true] rfl) (va_recv (q0 := 6) (ci := 5) hK hP rfl rfl)) rfl rfl hl.1 rfl (lv_room (Nat.le_of_ble_eq_true rfl)) dX3_refresh_32 ⟨(Nat.le_of_ble_eq_true rfl), (Nat.le_of_ble_eq_true rfl)⟩) hS hA hP hD [true, true, true, true, false, false, true, true, true, true, true, true, true, true, true, true] rfl rfl (fun _ h => h) (fun  H locs hw hP hD hS => ?_)
    have hP : va_P D vwCl ((wW_k_X3_refresh ty X pn rn tn en rf tp tq ea es t_32.2.2.2.2.2.2.2.1 t_32.2.2.2.2.2.2.2.2.1 on cu (0) t_32.2.2.2.2.2.2.1 t_32.2.2.2.2.2.2.2.2.2.1 t_32.2.2.2.2.2.2.2.2.2.2.1 t_32.2.2.2.2.2.2.2.2.2.2.2.1 t_32.2.2.2.2.2.2.2.2.2.2.2.2 t_32.1 t_32.2.1 t_32.2.2.1 t_32.2.2.2.1 t_32.2.2.2.2.1 t_32.2.2.2.2.2.1 oa ob) ++ pw ty pp) H := hP
    have hD : va_D A ((wW_k_X3_refresh ty X pn rn tn en rf tp tq ea es t_32.2.2.2.2.2.2.2.1 t_32.2.2.2.2.2.2.2.2.1 on cu (0) t_32.2.2.2.2.2.2.1 t_32.2.2.2.2.2.2.2.2.2.1 t_32.2.2.2.2.2.2.2.2.2.2.1 t_32.2.2.2.2.2.2.2.2.2.2.2.1 t_32.2.2.2.2.2.2.2.2.2.2.2.2 t_32.1 t_32.2.1 t_32.2.2.1 t_32.2.2.2.1 t_32.2.2.2.2.1 t_32.2.2.2.2.2.1 oa ob) ++ pw ty pp) := hD
    refine W.widen (k := 0) (n := 0) (Nat.le_of_ble_eq_true rfl) (Nat.le_of_ble_eq_true rfl) ?_
    refine lv_aload_n hx hb dX3_refresh_35 rfl (lv_at hl 0 rfl) ?_
    refine lv_iconst (v := 1) hx hb dX3_refresh_36 (by decide) ?_
    refine va_put (D := D) (ci := 5) (v := .int 1) (ty := tyX3 14) (C := RX3) (T := TX3) (N := 16) hx hb hts iv_k_X3_refresh_X3 tyX3 tyX3_ok nmX3 hown hK hP hD hS 6 rfl rfl 14 (by decide) (hts (.fieldLink RX3 61 "AnswerFold$Grounding" "purpose" "I") (by decide +kernel)) (fun _ h9 => h9) rfl (by decide +kernel) rfl rfl (Nat.le_of_ble_eq_true rfl) dX3_refresh_37 (fun H locs hP hD hS => ?_)
    have hP : va_P D vwCl ((wW_k_X3_refresh ty X pn rn tn en rf tp tq ea es t_32.2.2.2.2.2.2.2.1 t_32.2.2.2.2.2.2.2.2.1 on cu (1) t_32.2.2.2.2.2.2.1 t_32.2.2.2.2.2.2.2.2.2.1 t_32.2.2.2.2.2.2.2.2.2.2.1 t_32.2.2.2.2.2.2.2.2.2.2.2.1 t_32.2.2.2.2.2.2.2.2.2.2.2.2 t_32.1 t_32.2.1 t_32.2.2.1 t_32.2.2.2.1 t_32.2.2.2.2.1 t_32.2.2.2.2.2.1 oa ob) ++ pw ty pp) H := hP
    have hD : va_D A ((wW_k_X3_refresh ty X pn rn tn en rf tp tq ea es t_32.2.2.2.2.2.2.2.1 t_32.2.2.2.2.2.2.2.2.1 on cu (1) t_32.2.2.2.2.2.2.1 t_32.2.2.2.2.2.2.2.2.2.1 t_32.2.2.2.2.2.2.2.2.2.2.1 t_32.2.2.2.2.2.2.2.2.2.2.2.1 t_32.2.2.2.2.2.2.2.2.2.2.2.2 t_32.1 t_32.2.1 t_32.2.2.1 t_32.2.2.2.1 t_32.2.2.2.2.1 t_32.2.2.2.2.2.1 oa ob) ++ pw ty pp) := hD
    refine lv_aload_n hx hb dX3_refresh_40 rfl (lv_at hl 0 rfl) ?_
    obtain ⟨t_41, ht_41⟩ : ∃ t, t = m_k_X3_spread pp rn tn rf tp tq t_32.2.2.2.2.2.2.2.1 t_32.2.2.2.2.2.2.2.2.1 1 t_32.2.2.2.2.2.2.1 t_32.2.2.2.2.2.2.2.2.2.1 t_32.2.2.2.2.2.2.2.2.2.2.1 t_32.2.2.2.2.2.2.2.2.2.2.2.1 t_32.2.2.2.2.2.2.2.2.2.2.2.2 t_32.1 t_32.2.1 t_32.2.2.1 t_32.2.2.2.1 t_32.2.2.2.2.1 t_32.2.2.2.2.2.1 := ⟨_, rfl⟩
    rw [lE_eq ht_41] at hT
    refine wq_vPW (wc := (wW_k_X3_spread ty X pn rn tn en rf tp tq t_32.2.2.2.2.2.2.2.1 t_32.2.2.2.2.2.2.2.2.1 on cu (1) t_32.2.2.2.2.2.2.1 t_32.2.2.2.2.2.2.2.2.2.1 t_32.2.2.2.2.2.2.2.2.2.2.1 t_32.2.2.2.2.2.2.2.2.2.2.2.1 t_32.2.2.2.2.2.2.2.2.2.2.2.2 t_32.1 t_32.2.1 t_32.2.2.1 t_32.2.2.2.1 t_32.2.2.2.2.1 t_32.2.2.2.2.2.1)) (pl := pw ty pp) (ux := (wW_k_X3_spread ty X pn rn tn en rf tp tq t_41.2.2.2.2.2.2.2.1 t_41.2.2.2.2.2.2.2.2.1 on cu (1) t_41.2.2.2.2.2.2.1 t_41.2.2.2.2.2.2.2.2.2.1 t_41.2.2.2.2.2.2.2.2.2.2.1 t_41.2.2.2.2.2.2.2.2.2.2.2.1 t_41.2.2.2.2.2.2.2.2.2.2.2.2 t_41.1 t_41.2.1 t_41.2.2.1 t_41.2.2.2.1 t_41.2.2.2.2.1 t_41.2.2.2.2.2.1)) (va_runV (As := []) (rest := []) ⟨hx, hb, hml, hown, hts⟩ (k_X3_spread l D ty td mi H.size pp X pn rn tn en rf tp tq t_32.2.2.2.2.2.2.2.1 t_32.2.2.2.2.2.2.2.2.1 on cu 1 t_32.2.2.2.2.2.2.1 t_32.2.2.2.2.2.2.2.2.2.1 t_32.2.2.2.2.2.2.2.2.2.2.1 t_32.2.2.2.2.2.2.2.2.2.2.2.1 t_32.2.2.2.2.2.2.2.2.2.2.2.2 t_32.1 t_32.2.1 t_32.2.2.1 t_32.2.2.2.1 t_32.2.2.2.2.1 t_32.2.2.2.2.2.1 hok hru t_41 ht_41) (cwV 0 hts gv_k_X3_refresh_4 rfl rfl rfl (by decide +kernel) ⟨(Nat.le_of_ble_eq_true rfl), (Nat.le_of_ble_eq_true rfl)⟩) (wm_V (wm_preSP hP hD hK hE hS hA [true, true, true, true, false, false, true, true, true, true, true, true, true, true, true, true] rfl) (va_recv (q0 := 6) (ci := 5) hK hP rfl rfl)) rfl rfl hl.1 rfl (lv_room (Nat.le_of_ble_eq_true rfl)) dX3_refresh_41 ⟨(Nat.le_of_ble_eq_true rfl), (Nat.le_of_ble_eq_true rfl)⟩) hS hA hP hD [true, true, true, true, false, false, true, true, true, true, true, true, true, true, true, true] rfl rfl (fun _ h => h) (fun  H locs hw hP hD hS => ?_)
    have hP : va_P D vwCl ((wW_k_X3_refresh ty X pn rn tn en rf tp tq ea es t_41.2.2.2.2.2.2.2.1 t_41.2.2.2.2.2.2.2.2.1 on cu (1) t_41.2.2.2.2.2.2.1 t_41.2.2.2.2.2.2.2.2.2.1 t_41.2.2.2.2.2.2.2.2.2.2.1 t_41.2.2.2.2.2.2.2.2.2.2.2.1 t_41.2.2.2.2.2.2.2.2.2.2.2.2 t_41.1 t_41.2.1 t_41.2.2.1 t_41.2.2.2.1 t_41.2.2.2.2.1 t_41.2.2.2.2.2.1 oa ob) ++ pw ty pp) H := hP
    have hD : va_D A ((wW_k_X3_refresh ty X pn rn tn en rf tp tq ea es t_41.2.2.2.2.2.2.2.1 t_41.2.2.2.2.2.2.2.2.1 on cu (1) t_41.2.2.2.2.2.2.1 t_41.2.2.2.2.2.2.2.2.2.1 t_41.2.2.2.2.2.2.2.2.2.2.1 t_41.2.2.2.2.2.2.2.2.2.2.2.1 t_41.2.2.2.2.2.2.2.2.2.2.2.2 t_41.1 t_41.2.1 t_41.2.2.1 t_41.2.2.2.1 t_41.2.2.2.2.1 t_41.2.2.2.2.2.1 oa ob) ++ pw ty pp) := hD
    refine W.widen (k := 0) (n := 0) (Nat.le_of_ble_eq_true rfl) (Nat.le_of_ble_eq_true rfl) ?_
    refine lv_aload_n hx hb dX3_refresh_44 rfl (lv_at hl 0 rfl) ?_
    refine lv_iconst (v := 2) hx hb dX3_refresh_45 (by decide) ?_
    refine va_put (D := D) (ci := 5) (v := .int 2) (ty := tyX3 14) (C := RX3) (T := TX3) (N := 16) hx hb hts iv_k_X3_refresh_X3 tyX3 tyX3_ok nmX3 hown hK hP hD hS 6 rfl rfl 14 (by decide) (hts (.fieldLink RX3 61 "AnswerFold$Grounding" "purpose" "I") (by decide +kernel)) (fun _ h9 => h9) rfl (by decide +kernel) rfl rfl (Nat.le_of_ble_eq_true rfl) dX3_refresh_46 (fun H locs hP hD hS => ?_)
    have hP : va_P D vwCl ((wW_k_X3_refresh ty X pn rn tn en rf tp tq ea es t_41.2.2.2.2.2.2.2.1 t_41.2.2.2.2.2.2.2.2.1 on cu (2) t_41.2.2.2.2.2.2.1 t_41.2.2.2.2.2.2.2.2.2.1 t_41.2.2.2.2.2.2.2.2.2.2.1 t_41.2.2.2.2.2.2.2.2.2.2.2.1 t_41.2.2.2.2.2.2.2.2.2.2.2.2 t_41.1 t_41.2.1 t_41.2.2.1 t_41.2.2.2.1 t_41.2.2.2.2.1 t_41.2.2.2.2.2.1 oa ob) ++ pw ty pp) H := hP
    have hD : va_D A ((wW_k_X3_refresh ty X pn rn tn en rf tp tq ea es t_41.2.2.2.2.2.2.2.1 t_41.2.2.2.2.2.2.2.2.1 on cu (2) t_41.2.2.2.2.2.2.1 t_41.2.2.2.2.2.2.2.2.2.1 t_41.2.2.2.2.2.2.2.2.2.2.1 t_41.2.2.2.2.2.2.2.2.2.2.2.1 t_41.2.2.2.2.2.2.2.2.2.2.2.2 t_41.1 t_41.2.1 t_41.2.2.1 t_41.2.2.2.1 t_41.2.2.2.2.1 t_41.2.2.2.2.2.1 oa ob) ++ pw ty pp) := hD
    refine lv_aload_n hx hb dX3_refresh_49 rfl (lv_at hl 0 rfl) ?_
    obtain ⟨t_50, ht_50⟩ : ∃ t, t = m_k_X3_keepInstances pp rn tn rf tp tq t_41.2.2.2.2.2.2.2.1 2 t_41.2.2.2.2.2.2.1 t_41.2.2.2.2.2.2.2.2.2.1 t_41.2.2.2.2.2.2.2.2.2.2.1 t_41.2.2.2.2.2.2.2.2.2.2.2.1 t_41.2.2.2.2.2.2.2.2.2.2.2.2 t_41.1 t_41.2.1 t_41.2.2.1 t_41.2.2.2.1 t_41.2.2.2.2.1 t_41.2.2.2.2.2.1 := ⟨_, rfl⟩
    rw [lE_eq ht_50] at hT
    refine wq_vPW (wc := (wW_k_X3_keepInstances ty X pn rn tn en rf tp tq t_41.2.2.2.2.2.2.2.1 t_41.2.2.2.2.2.2.2.2.1 on cu (2) t_41.2.2.2.2.2.2.1 t_41.2.2.2.2.2.2.2.2.2.1 t_41.2.2.2.2.2.2.2.2.2.2.1 t_41.2.2.2.2.2.2.2.2.2.2.2.1 t_41.2.2.2.2.2.2.2.2.2.2.2.2 t_41.1 t_41.2.1 t_41.2.2.1 t_41.2.2.2.1 t_41.2.2.2.2.1 t_41.2.2.2.2.2.1)) (pl := pw ty pp) (ux := (wW_k_X3_keepInstances ty X pn rn tn en rf tp tq t_50.2.2.2.2.2.2.2.1 t_50.2.2.2.2.2.2.2.2.1 on cu (2) t_50.2.2.2.2.2.2.1 t_50.2.2.2.2.2.2.2.2.2.1 t_50.2.2.2.2.2.2.2.2.2.2.1 t_50.2.2.2.2.2.2.2.2.2.2.2.1 t_50.2.2.2.2.2.2.2.2.2.2.2.2 t_50.1 t_50.2.1 t_50.2.2.1 t_50.2.2.2.1 t_50.2.2.2.2.1 t_50.2.2.2.2.2.1)) (va_runV (As := []) (rest := []) ⟨hx, hb, hml, hown, hts⟩ (k_X3_keepInstances l D ty td mi H.size pp X pn rn tn en rf tp tq t_41.2.2.2.2.2.2.2.1 t_41.2.2.2.2.2.2.2.2.1 on cu 2 t_41.2.2.2.2.2.2.1 t_41.2.2.2.2.2.2.2.2.2.1 t_41.2.2.2.2.2.2.2.2.2.2.1 t_41.2.2.2.2.2.2.2.2.2.2.2.1 t_41.2.2.2.2.2.2.2.2.2.2.2.2 t_41.1 t_41.2.1 t_41.2.2.1 t_41.2.2.2.1 t_41.2.2.2.2.1 t_41.2.2.2.2.2.1 hok hru t_50 ht_50) (cwV 0 hts gv_k_X3_refresh_5 rfl rfl rfl (by decide +kernel) ⟨(Nat.le_of_ble_eq_true rfl), (Nat.le_of_ble_eq_true rfl)⟩) (wm_V (wm_preSP hP hD hK hE hS hA [true, true, true, true, false, false, true, true, true, true, true, true, true, true, true, true] rfl) (va_recv (q0 := 6) (ci := 5) hK hP rfl rfl)) rfl rfl hl.1 rfl (lv_room (Nat.le_of_ble_eq_true rfl)) dX3_refresh_50 ⟨(Nat.le_of_ble_eq_true rfl), (Nat.le_of_ble_eq_true rfl)⟩) hS hA hP hD [true, true, true, true, false, false, true, true, true, true, true, true, true, true, true, true] rfl rfl (fun _ h => h) (fun  H locs hw hP hD hS => ?_)
    have hP : va_P D vwCl ((wW_k_X3_refresh ty X pn rn tn en rf tp tq ea es t_50.2.2.2.2.2.2.2.1 t_50.2.2.2.2.2.2.2.2.1 on cu (2) t_50.2.2.2.2.2.2.1 t_50.2.2.2.2.2.2.2.2.2.1 t_50.2.2.2.2.2.2.2.2.2.2.1 t_50.2.2.2.2.2.2.2.2.2.2.2.1 t_50.2.2.2.2.2.2.2.2.2.2.2.2 t_50.1 t_50.2.1 t_50.2.2.1 t_50.2.2.2.1 t_50.2.2.2.2.1 t_50.2.2.2.2.2.1 oa ob) ++ pw ty pp) H := hP
    have hD : va_D A ((wW_k_X3_refresh ty X pn rn tn en rf tp tq ea es t_50.2.2.2.2.2.2.2.1 t_50.2.2.2.2.2.2.2.2.1 on cu (2) t_50.2.2.2.2.2.2.1 t_50.2.2.2.2.2.2.2.2.2.1 t_50.2.2.2.2.2.2.2.2.2.2.1 t_50.2.2.2.2.2.2.2.2.2.2.2.1 t_50.2.2.2.2.2.2.2.2.2.2.2.2 t_50.1 t_50.2.1 t_50.2.2.1 t_50.2.2.2.1 t_50.2.2.2.2.1 t_50.2.2.2.2.2.1 oa ob) ++ pw ty pp) := hD
    refine W.widen (k := 0) (n := 0) (Nat.le_of_ble_eq_true rfl) (Nat.le_of_ble_eq_true rfl) ?_
    refine lv_aload_n hx hb dX3_refresh_53 rfl (lv_at hl 0 rfl) ?_
    obtain ⟨t_54, ht_54⟩ : ∃ t, t = m_k_X3_numberOpenAtoms t_50.1 t_50.2.1 oa ob := ⟨_, rfl⟩
    rw [lE_eq ht_54] at hT
    refine wq_vQW (wc := (wW_k_X3_numberOpenAtoms ty X t_50.2.2.2.2.2.2.2.1 t_50.2.2.2.2.2.2.2.2.1 on cu (2) t_50.2.2.2.2.2.2.1 t_50.1 t_50.2.1 oa ob)) (pl := pw ty pp) (va_runV (As := []) (rest := []) ⟨hx, hb, hml, hown, hts⟩ (k_X3_numberOpenAtoms l D ty td mi H.size X t_50.2.2.2.2.2.2.2.1 t_50.2.2.2.2.2.2.2.2.1 on cu 2 t_50.2.2.2.2.2.2.1 t_50.1 t_50.2.1 oa ob t_54 ht_54) (cwV 0 hts gv_k_X3_refresh_6 rfl rfl rfl (by decide +kernel) ⟨(Nat.le_of_ble_eq_true rfl), (Nat.le_of_ble_eq_true rfl)⟩) (wm_V (wm_preS (vP_left hP) (vD_left hD) hK hE hS hA [false, false, false, false, false, false, true, false, true, true, true, true, false, false, false, false, true, true] rfl) (va_recv (q0 := 6) (ci := 5) hK hP rfl rfl)) rfl rfl hl.1 rfl (lv_room (Nat.le_of_ble_eq_true rfl)) dX3_refresh_54 ⟨(Nat.le_of_ble_eq_true rfl), (Nat.le_of_ble_eq_true rfl)⟩) hS hA hP hD [false, false, false, false, false, false, true, false, true, true, true, true, false, false, false, false, true, true] rfl (fun _ h => by rcases h with rfl; rfl) (fun u H locs hw hP hD hS => ?_)
    obtain rfl := hw
    have hP : va_P D vwCl ((wW_k_X3_refresh ty X pn rn tn en rf tp tq ea es t_50.2.2.2.2.2.2.2.1 t_50.2.2.2.2.2.2.2.2.1 t_54.2.2 cu (2) t_50.2.2.2.2.2.2.1 t_50.2.2.2.2.2.2.2.2.2.1 t_50.2.2.2.2.2.2.2.2.2.2.1 t_50.2.2.2.2.2.2.2.2.2.2.2.1 t_50.2.2.2.2.2.2.2.2.2.2.2.2 t_50.1 t_50.2.1 t_50.2.2.1 t_50.2.2.2.1 t_50.2.2.2.2.1 t_50.2.2.2.2.2.1 t_54.1 t_54.2.1) ++ pw ty pp) H := hP
    have hD : va_D A ((wW_k_X3_refresh ty X pn rn tn en rf tp tq ea es t_50.2.2.2.2.2.2.2.1 t_50.2.2.2.2.2.2.2.2.1 t_54.2.2 cu (2) t_50.2.2.2.2.2.2.1 t_50.2.2.2.2.2.2.2.2.2.1 t_50.2.2.2.2.2.2.2.2.2.2.1 t_50.2.2.2.2.2.2.2.2.2.2.2.1 t_50.2.2.2.2.2.2.2.2.2.2.2.2 t_50.1 t_50.2.1 t_50.2.2.1 t_50.2.2.2.1 t_50.2.2.2.2.1 t_50.2.2.2.2.2.1 t_54.1 t_54.2.1) ++ pw ty pp) := hD
    refine W.widen (k := 0) (n := 0) (Nat.le_of_ble_eq_true rfl) (Nat.le_of_ble_eq_true rfl) ?_
    refine lv_aload_n hx hb dX3_refresh_57 rfl (lv_at hl 0 rfl) ?_
    refine lv_iconst (v := 1) hx hb dX3_refresh_58 (by decide) ?_
    refine va_put (D := D) (ci := 5) (v := .int 1) (ty := tyX3 13) (C := RX3) (T := TX3) (N := 16) hx hb hts iv_k_X3_refresh_X3 tyX3 tyX3_ok nmX3 hown hK hP hD hS 6 rfl rfl 13 (by decide) (hts (.fieldLink RX3 51 "AnswerFold$Grounding" "isCurrent" "Z") (by decide +kernel)) (fun _ h9 => h9) rfl (by decide +kernel) rfl rfl (Nat.le_of_ble_eq_true rfl) dX3_refresh_59 (fun H locs hP hD hS => ?_)
    have hP : va_P D vwCl ((wW_k_X3_refresh ty X pn rn tn en rf tp tq ea es t_50.2.2.2.2.2.2.2.1 t_50.2.2.2.2.2.2.2.2.1 t_54.2.2 (1) (2) t_50.2.2.2.2.2.2.1 t_50.2.2.2.2.2.2.2.2.2.1 t_50.2.2.2.2.2.2.2.2.2.2.1 t_50.2.2.2.2.2.2.2.2.2.2.2.1 t_50.2.2.2.2.2.2.2.2.2.2.2.2 t_50.1 t_50.2.1 t_50.2.2.1 t_50.2.2.2.1 t_50.2.2.2.2.1 t_50.2.2.2.2.2.1 t_54.1 t_54.2.1) ++ pw ty pp) H := hP
    have hD : va_D A ((wW_k_X3_refresh ty X pn rn tn en rf tp tq ea es t_50.2.2.2.2.2.2.2.1 t_50.2.2.2.2.2.2.2.2.1 t_54.2.2 (1) (2) t_50.2.2.2.2.2.2.1 t_50.2.2.2.2.2.2.2.2.2.1 t_50.2.2.2.2.2.2.2.2.2.2.1 t_50.2.2.2.2.2.2.2.2.2.2.2.1 t_50.2.2.2.2.2.2.2.2.2.2.2.2 t_50.1 t_50.2.1 t_50.2.2.1 t_50.2.2.2.1 t_50.2.2.2.2.1 t_50.2.2.2.2.2.1 t_54.1 t_54.2.1) ++ pw ty pp) := hD
    exact END t_50.1 t_50.2.1 t_50.2.2.1 t_50.2.2.2.1 t_50.2.2.2.2.1 t_50.2.2.2.2.2.1 t_54.1 t_54.2.1 t_54.2.2 1 2 t_50.2.2.2.2.2.2.1 t_50.2.2.2.2.2.2.2.1 t_50.2.2.2.2.2.2.2.2.1 t_50.2.2.2.2.2.2.2.2.2.1 t_50.2.2.2.2.2.2.2.2.2.2.1 t_50.2.2.2.2.2.2.2.2.2.2.2.1 t_50.2.2.2.2.2.2.2.2.2.2.2.2 hT _ _ hP hD hS _ _ dX3_refresh_62
  · rw [if_neg c_1] at hT
    exact END su po hds kr kv kb oa ob on cu pu gw hn kn b_1 b_2 b_3 b_p hT _ _ hP hD hS _ _ dX3_refresh_7
theorem dX9_bitOf_0 : decode cX9_bitOf 0 = .ok (.aload_n 0, 1) := by decide +kernel
theorem dX9_bitOf_1 : decode cX9_bitOf 1 = .ok (.getfield 38, 3) := by decide +kernel
theorem dX9_bitOf_4 : decode cX9_bitOf 4 = .ok (.iload_n 1, 1) := by decide +kernel
theorem dX9_bitOf_5 : decode cX9_bitOf 5 = .ok (.invokevirtual 198, 3) := by decide +kernel
theorem dX9_bitOf_8 : decode cX9_bitOf 8 = .ok (.istore_n 2, 1) := by decide +kernel
theorem dX9_bitOf_9 : decode cX9_bitOf 9 = .ok (.aload_n 0, 1) := by decide +kernel
theorem dX9_bitOf_10 : decode cX9_bitOf 10 = .ok (.getfield 38, 3) := by decide +kernel
theorem dX9_bitOf_13 : decode cX9_bitOf 13 = .ok (.getfield 65, 3) := by decide +kernel
theorem dX9_bitOf_16 : decode cX9_bitOf 16 = .ok (.iconst 1, 1) := by decide +kernel
theorem dX9_bitOf_17 : decode cX9_bitOf 17 = .ok (.isub, 1) := by decide +kernel
theorem dX9_bitOf_18 : decode cX9_bitOf 18 = .ok (.iload_n 2, 1) := by decide +kernel
theorem dX9_bitOf_19 : decode cX9_bitOf 19 = .ok (.isub, 1) := by decide +kernel
theorem dX9_bitOf_20 : decode cX9_bitOf 20 = .ok (.istore_n 3, 1) := by decide +kernel
theorem dX9_bitOf_21 : decode cX9_bitOf 21 = .ok (.iload_n 2, 1) := by decide +kernel
theorem dX9_bitOf_22 : decode cX9_bitOf 22 = .ok (.ifCond .lt 13, 3) := by decide +kernel
theorem dX9_bitOf_25 : decode cX9_bitOf 25 = .ok (.iload_n 3, 1) := by decide +kernel
theorem dX9_bitOf_26 : decode cX9_bitOf 26 = .ok (.ifCond .lt 9, 3) := by decide +kernel
theorem dX9_bitOf_29 : decode cX9_bitOf 29 = .ok (.iload_n 3, 1) := by decide +kernel
theorem dX9_bitOf_30 : decode cX9_bitOf 30 = .ok (.bipush 12, 2) := by decide +kernel
theorem dX9_bitOf_32 : decode cX9_bitOf 32 = .ok (.if_icmp .lt 7, 3) := by decide +kernel
theorem dX9_bitOf_35 : decode cX9_bitOf 35 = .ok (.iconst 0, 1) := by decide +kernel
theorem dX9_bitOf_36 : decode cX9_bitOf 36 = .ok (.goto 6, 3) := by decide +kernel
theorem dX9_bitOf_39 : decode cX9_bitOf 39 = .ok (.iconst 1, 1) := by decide +kernel
theorem dX9_bitOf_40 : decode cX9_bitOf 40 = .ok (.iload_n 3, 1) := by decide +kernel
theorem dX9_bitOf_41 : decode cX9_bitOf 41 = .ok (.ishl, 1) := by decide +kernel
theorem dX9_bitOf_42 : decode cX9_bitOf 42 = .ok (.ireturn, 1) := by decide +kernel
def wW_k_X9_bitOf (ty : Nat → ClassId) (X : Nat → Nat) (z9_0 : Int32) (z9_1 : Int32) (z9_2 : Int32) (z9_3 : Int32) (z9_4 : Int32) (z9_5 : Int32) (z9_6 : Nat → Int32) (z9_7 : Int32) (z9_8 : Int32) (z9_9 : Int32) (z9_10 : Int32) (z9_11 : Int32) (z9_12 : Int32) (z9_13 : Int32) (z9_14 : Int32) (z9_15 : Int32) : va_W := [((X 8), .inr (5, [.ref (X 1), .ref (X 9), .ref (X 10), .ref (X 12), .ref (X 14), .int z9_0, .ref (X 15), .ref (X 16), .ref (X 17), .int z9_1, .ref (X 18), .ref (X 19), .int z9_2, .int z9_3, .int z9_4, .int z9_5])), ((X 19), .inl (ty 0, 384, .inl z9_6)), ((X 20), .inr (11, [.ref (X 1), .ref (X 8), .ref (X 21), .ref (X 28), .ref (X 35), .int z9_7, .ref (X 36), .ref (X 37), .ref (X 38), .int z9_8, .int z9_9, .int z9_10, .int z9_11, .int z9_12, .int z9_13, .int z9_14, .int z9_15]))]
def vs_k_X9_bitOf : List Cond := .code yX9_bitOf cX9_bitOf 4 (some .int) :: ([.fieldLink RX9 38 "AnswerFold$Solver" "grounding" "LAnswerFold$Grounding;", .methodLink RX9 198 yX3_openNumberOf, .instanceMethod yX3_openNumberOf, .selects RX3 yX3_openNumberOf yX3_openNumberOf, .initialized RX3] ++ (u_ws RX9 TX9 17 ++ (vs_k_X3_openNumberOf ++ (u_ws RX3 TX3 16))))
theorem iv_k_X9_bitOf_X3 : ∀ w ∈ u_ws RX3 TX3 16, w ∈ vs_k_X9_bitOf := (fun _ h => List.mem_cons_of_mem _ (List.mem_append_right _ (List.mem_append_right _ (List.mem_append_right _ (h)))))
theorem iv_k_X9_bitOf_X9 : ∀ w ∈ u_ws RX9 TX9 17, w ∈ vs_k_X9_bitOf := (fun _ h => List.mem_cons_of_mem _ (List.mem_append_right _ (List.mem_append_left _ h)))
set_option maxRecDepth 20000 in
theorem gv_k_X9_bitOf_0 : GoodIn vs_k_X9_bitOf (wsV RX9 198 RX3 yX3_openNumberOf vs_k_X3_openNumberOf) := goodIn_app (goodIn_sub (by decide +kernel) (by decide +kernel)) (goodIn_sub (fun _ h => List.mem_cons_of_mem _ (List.mem_append_right _ (List.mem_append_right _ (List.mem_append_left _ h)))) (by decide +kernel))
set_option maxHeartbeats 4000000 in
set_option maxRecDepth 100000 in
theorem k_X9_bitOf (l : Launch) (D : va_G) (ty : Nat → ClassId) (td mi sz : Nat) (X : Nat → Nat) (hn : Int32) (kn : Int32) (on : Int32) (cu : Int32) (pu : Int32) (gw : Int32) (ob : Nat → Int32) (an : Int32) (ch : Int32) (cg : Int32) (fb : Int32) (mh : Int32) (ml : Int32) (ih : Int32) (lb : Int32) (ic : Int32) (a1 : Int32) (TT : r_k_X9_bitOf) (hTT : TT = m_k_X9_bitOf on ob a1) : Met l yX9_bitOf vs_k_X9_bitOf { frames := 1, cells := 0, slots := 0, locals := 21 } (va_Pc [.ref (X 20), .int a1] (wq_P D ty td mi (wW_k_X9_bitOf ty X hn kn on cu pu gw ob an ch cg fb mh ml ih lb ic) sz)) (va_Qi (fun (r : Int32) (u : va_W) => (r = TT ∧ (u = (wW_k_X9_bitOf ty X hn kn on cu pu gw ob an ch cg fb mh ml ih lb ic)))) (wq_B D (va_A (wW_k_X9_bitOf ty X hn kn on cu pu gw ob an ch cg fb mh ml ih lb ic) sz)) (va_A (wW_k_X9_bitOf ty X hn kn on cu pu gw ob an ch cg fb mh ml ih lb ic) sz)) 0 0 (va_A (wW_k_X9_bitOf ty X hn kn on cu pu gw ob an ch cg fb mh ml ih lb ic) sz) := by
  refine Met.ofW (cc := cX9_bitOf) (maxL := 4) (ret := (some .int)) (by decide) rfl ?_
  intro p e s m args below meth c s₁ B hml hv
  obtain ⟨rfl, hsz, hP, hK, hD0, hE⟩ := hv
  have hx := B.exec
  have hb := B.bytes
  have hr := B.returns
  have hts := atoms_spec (ws := vs_k_X9_bitOf) B.pre
  have hown : s.vm.findClass RX9 = some m.cls := findClass_of_methodNamed B.named
  have hlocks := B.notSynchronized
  subst hsz
  have hD := hD0.self (sz := s.heap.size)
  generalize hAe : va_A (wW_k_X9_bitOf ty X hn kn on cu pu gw ob an ch cg fb mh ml ih lb ic) s.heap.size = A at hD hE ⊢
  have hA : ∀ q : Nat, s.heap.size ≤ q → A q := fun q h => by rw [← hAe]; exact Or.inr h
  have hS : va_S A s.heap s.heap [] := va_S.rf
  have hP : va_P D vwCl (wW_k_X9_bitOf ty X hn kn on cu pu gw ob an ch cg fb mh ml ih lb ic) s.heap := hP
  have hl := lv_entry ([.ref (X 20), .int a1]) (n := 4) (Nat.le_of_ble_eq_true rfl)
  rw [lg_entry_eq]
  generalize (lg_sl ([.ref (X 20), .int a1]) ++ List.replicate (4 - (lg_sl ([.ref (X 20), .int a1])).length) Slot.unset).toArray = ls at hl ⊢
  have hl : lv_has ls 4 [(0, .ref (X 20)), (1, .int a1)] := hl
  have END : ∀ (r : Int32), TT = r → ∀ (H : Heap) (locs : List Loc), va_P D vwCl (wW_k_X9_bitOf ty X hn kn on cu pu gw ob an ch cg fb mh ml ih lb ic) H → va_D A (wW_k_X9_bitOf ty X hn kn on cu pu gw ob an ch cg fb mh ml ih lb ic) → va_S A s.heap H locs → ∀ (ls : Array Slot) (pc : Nat), decode cX9_bitOf pc = .ok (.ireturn, 1) → W p l e (headSpec vs_k_X9_bitOf { frames := 1, cells := 0, slots := 0, locals := 21 }).room s m ([.ref (X 20), .int a1] : List Value).toArray below meth c H locs 0 0 (MQ below (va_Qi (fun (r : Int32) (u : va_W) => (r = TT ∧ (u = (wW_k_X9_bitOf ty X hn kn on cu pu gw ob an ch cg fb mh ml ih lb ic)))) (wq_B D A) A) ([.ref (X 20), .int a1] : List Value).toArray s 0 0 A) (F0 m pc ls [.int r]) := by
    intro r hT H locs hP hD hS ls pc hd
    have hM : TT = r := hT
    exact W.iret (v := r) hx hb hr (fun t ht hW => ⟨⟨r, (wW_k_X9_bitOf ty X hn kn on cu pu gw ob an ch cg fb mh ml ih lb ic), rfl, ⟨(by rw [hM]), rfl⟩, wq_B.of ht hP hD⟩, hS.F ht⟩) hS.2.2 hd
  have hT := hTT
  rw [m_k_X9_bitOf] at hT
  refine lv_aload_n hx hb dX9_bitOf_0 rfl (lv_at hl 0 rfl) ?_
  refine va_get (D := D) (ci := 11) (v := .ref (X 8)) (C := RX9) (T := TX9) (N := 17) hx hb hts iv_k_X9_bitOf_X9 hown hK hP 2 rfl rfl 1 (by decide) (hts (.fieldLink RX9 38 "AnswerFold$Solver" "grounding" "LAnswerFold$Grounding;") (by decide +kernel)) (fun _ h9 => h9) rfl dX9_bitOf_1 ?_
  refine lv_iload_n hx hb dX9_bitOf_4 rfl (lv_at hl 1 rfl) ?_
  obtain ⟨t_5, ht_5⟩ : ∃ t, t = m_k_X3_openNumberOf ob a1 := ⟨_, rfl⟩
  rw [lE_eq ht_5] at hT
  refine wq_iW (wc := (wW_k_X3_openNumberOf ty X hn kn on cu pu gw ob)) (va_runV (As := [.int a1]) (rest := []) ⟨hx, hb, hml, hown, hts⟩ (k_X3_openNumberOf l D ty td mi s.heap.size X hn kn on cu pu gw ob a1 t_5 ht_5) (cwV 1 hts gv_k_X9_bitOf_0 rfl rfl rfl (by decide +kernel) ⟨(Nat.le_of_ble_eq_true rfl), (Nat.le_of_ble_eq_true rfl)⟩) (wm_V (wm_preS hP hD hK hE hS hA [true, true] rfl) (va_recv (q0 := 0) (ci := 5) hK hP rfl rfl)) rfl rfl hl.1 rfl (lv_room (Nat.le_of_ble_eq_true rfl)) dX9_bitOf_5 ⟨(Nat.le_of_ble_eq_true rfl), (Nat.le_of_ble_eq_true rfl)⟩) hS hA hP hD [true, true] rfl (fun _ _ h => by rcases h with ⟨-, rfl⟩; rfl) (fun r u H locs hw hP hD hS => ?_)
  obtain ⟨hr0, rfl⟩ := hw
  subst r
  have hP : va_P D vwCl (wW_k_X9_bitOf ty X hn kn on cu pu gw ob an ch cg fb mh ml ih lb ic) H := hP
  have hD : va_D A (wW_k_X9_bitOf ty X hn kn on cu pu gw ob an ch cg fb mh ml ih lb ic) := hD
  refine W.widen (k := 0) (n := 0) (Nat.le_of_ble_eq_true rfl) (Nat.le_of_ble_eq_true rfl) ?_
  refine lv_istore_n (lv' := [(2, .int t_5), (0, .ref (X 20)), (1, .int a1)]) hx hb dX9_bitOf_8 rfl hl (by decide) rfl (fun ls hl => ?_)
  refine lv_aload_n hx hb dX9_bitOf_9 rfl (lv_at hl 1 rfl) ?_
  refine va_get (D := D) (ci := 11) (v := .ref (X 8)) (C := RX9) (T := TX9) (N := 17) hx hb hts iv_k_X9_bitOf_X9 hown hK hP 2 rfl rfl 1 (by decide) (hts (.fieldLink RX9 38 "AnswerFold$Solver" "grounding" "LAnswerFold$Grounding;") (by decide +kernel)) (fun _ h9 => h9) rfl dX9_bitOf_10 ?_
  refine va_getN (D := D) (ci := 5) (v := .int on) (C := RX3) (T := TX3) (N := 16) hx hb hts iv_k_X9_bitOf_X3 hown hK hP 0 rfl rfl 12 (by decide) (hE.at (.fieldLinkNest "AnswerFold$Solver" 65 "AnswerFold$Grounding" "openCount" "I" "AnswerFold") (by decide +kernel)) (fun _ h9 => h9) rfl dX9_bitOf_13 ?_
  refine lv_iconst (v := 1) hx hb dX9_bitOf_16 (by decide) ?_
  refine lv_isub hx hb dX9_bitOf_17 ?_
  refine lv_iload_n hx hb dX9_bitOf_18 rfl (lv_at hl 0 rfl) ?_
  refine lv_isub hx hb dX9_bitOf_19 ?_
  refine lv_istore_n (lv' := [(3, .int ((on - 1) - t_5)), (2, .int t_5), (0, .ref (X 20)), (1, .int a1)]) hx hb dX9_bitOf_20 rfl hl (by decide) rfl (fun ls hl => ?_)
  refine lv_iload_n hx hb dX9_bitOf_21 rfl (lv_at hl 1 rfl) ?_
  have J_35 : ∀ (_ : Unit), TT = m_k_X9_bitOf_35 → ∀ (H : Heap) (locs : List Loc), va_P D vwCl (wW_k_X9_bitOf ty X hn kn on cu pu gw ob an ch cg fb mh ml ih lb ic) H → va_D A (wW_k_X9_bitOf ty X hn kn on cu pu gw ob an ch cg fb mh ml ih lb ic) → va_S A s.heap H locs → ∀ ls : Array Slot, lv_has ls 4 [] → W p l e (headSpec vs_k_X9_bitOf { frames := 1, cells := 0, slots := 0, locals := 21 }).room s m ([.ref (X 20), .int a1] : List Value).toArray below meth c H locs 0 0 (MQ below (va_Qi (fun (r : Int32) (u : va_W) => (r = TT ∧ (u = (wW_k_X9_bitOf ty X hn kn on cu pu gw ob an ch cg fb mh ml ih lb ic)))) (wq_B D A) A) ([.ref (X 20), .int a1] : List Value).toArray s 0 0 A) (F0 m 35 ls []) := by
    intro _ hT  H locs hP hD hS ls hl
    rw [m_k_X9_bitOf_35] at hT
    refine lv_iconst (v := 0) hx hb dX9_bitOf_35 (by decide) ?_
    refine lv_goto (tgt := 42) hx hb dX9_bitOf_36 (by decide) ?_
    exact END 0 hT _ _ hP hD hS _ _ dX9_bitOf_42
  refine lv_if_lt (tgt := 35) hx hb dX9_bitOf_22 (by decide) (fun c_3 => ?_) (fun c_3 => ?_)
  · rw [if_pos c_3] at hT
    exact J_35 () hT _ _ hP hD hS _ (lv_sub hl [] rfl)
  · rw [if_neg c_3] at hT
    refine lv_iload_n hx hb dX9_bitOf_25 rfl (lv_at hl 0 rfl) ?_
    refine lv_if_lt (tgt := 35) hx hb dX9_bitOf_26 (by decide) (fun c_4 => ?_) (fun c_4 => ?_)
    · rw [if_pos c_4] at hT
      exact J_35 () hT _ _ hP hD hS _ (lv_sub hl [] rfl)
    · rw [if_neg c_4] at hT
      refine lv_iload_n hx hb dX9_bitOf_29 rfl (lv_at hl 0 rfl) ?_
      refine lv_bipush (v := 12) hx hb dX9_bitOf_30 (by decide) ?_
      refine lv_icmp_lt (tgt := 39) hx hb dX9_bitOf_32 (by decide) (fun c_5 => ?_) (fun c_5 => ?_)
      · rw [if_pos c_5] at hT
        refine lv_iconst (v := 1) hx hb dX9_bitOf_39 (by decide) ?_
        refine lv_iload_n hx hb dX9_bitOf_40 rfl (lv_at hl 0 rfl) ?_
        refine lv_ishl hx hb dX9_bitOf_41 ?_
        exact END ((1 : Int32) <<< (((on - 1) - t_5) &&& 31)) hT _ _ hP hD hS _ _ dX9_bitOf_42
      · rw [if_neg c_5] at hT
        exact J_35 () hT _ _ hP hD hS _ (lv_sub hl [] rfl)
theorem dX9_isIn_0 : decode cX9_isIn 0 = .ok (.aload_n 0, 1) := by decide +kernel
theorem dX9_isIn_1 : decode cX9_isIn 1 = .ok (.getfield 38, 3) := by decide +kernel
theorem dX9_isIn_4 : decode cX9_isIn 4 = .ok (.getfield 53, 3) := by decide +kernel
theorem dX9_isIn_7 : decode cX9_isIn 7 = .ok (.iload_n 2, 1) := by decide +kernel
theorem dX9_isIn_8 : decode cX9_isIn 8 = .ok (.invokevirtual 191, 3) := by decide +kernel
theorem dX9_isIn_11 : decode cX9_isIn 11 = .ok (.ifCond .ne 13, 3) := by decide +kernel
theorem dX9_isIn_14 : decode cX9_isIn 14 = .ok (.iload_n 1, 1) := by decide +kernel
theorem dX9_isIn_15 : decode cX9_isIn 15 = .ok (.aload_n 0, 1) := by decide +kernel
theorem dX9_isIn_16 : decode cX9_isIn 16 = .ok (.iload_n 2, 1) := by decide +kernel
theorem dX9_isIn_17 : decode cX9_isIn 17 = .ok (.invokevirtual 72, 3) := by decide +kernel
theorem dX9_isIn_20 : decode cX9_isIn 20 = .ok (.iand, 1) := by decide +kernel
theorem dX9_isIn_21 : decode cX9_isIn 21 = .ok (.ifCond .eq 7, 3) := by decide +kernel
theorem dX9_isIn_24 : decode cX9_isIn 24 = .ok (.iconst 1, 1) := by decide +kernel
theorem dX9_isIn_25 : decode cX9_isIn 25 = .ok (.goto 4, 3) := by decide +kernel
theorem dX9_isIn_28 : decode cX9_isIn 28 = .ok (.iconst 0, 1) := by decide +kernel
theorem dX9_isIn_29 : decode cX9_isIn 29 = .ok (.ireturn, 1) := by decide +kernel
def wW_k_X9_isIn (ty : Nat → ClassId) (X : Nat → Nat) (z9_0 : Int32) (z9_1 : Int32) (z9_2 : Int32) (z9_3 : Int32) (z9_4 : Int32) (z9_5 : Int32) (z9_6 : Nat → Int64) (z9_7 : Nat → Int32) (z9_8 : Int32) (z9_9 : Int32) (z9_10 : Int32) (z9_11 : Int32) (z9_12 : Int32) (z9_13 : Int32) (z9_14 : Int32) (z9_15 : Int32) (z9_16 : Int32) : va_W := [((X 8), .inr (5, [.ref (X 1), .ref (X 9), .ref (X 10), .ref (X 12), .ref (X 14), .int z9_0, .ref (X 15), .ref (X 16), .ref (X 17), .int z9_1, .ref (X 18), .ref (X 19), .int z9_2, .int z9_3, .int z9_4, .int z9_5])), ((X 10), .inr (3, [.ref (X 11)])), ((X 11), .inl (ty 1, 6, .inr (.inl z9_6))), ((X 19), .inl (ty 0, 384, .inl z9_7)), ((X 20), .inr (11, [.ref (X 1), .ref (X 8), .ref (X 21), .ref (X 28), .ref (X 35), .int z9_8, .ref (X 36), .ref (X 37), .ref (X 38), .int z9_9, .int z9_10, .int z9_11, .int z9_12, .int z9_13, .int z9_14, .int z9_15, .int z9_16]))]
def vs_k_X9_isIn : List Cond := .code yX9_isIn cX9_isIn 3 (some .boolean) :: ([.fieldLink RX9 38 "AnswerFold$Solver" "grounding" "LAnswerFold$Grounding;", .methodLink RX9 191 yX1_contains, .instanceMethod yX1_contains, .selects RX1 yX1_contains yX1_contains, .initialized RX1, .methodLink RX9 72 yX9_bitOf, .instanceMethod yX9_bitOf, .selects RX9 yX9_bitOf yX9_bitOf, .initialized RX9] ++ (u_ws RX9 TX9 17 ++ (u_ws RX3 TX3 16 ++ (vs_k_X1_contains ++ (vs_k_X9_bitOf)))))
theorem iv_k_X9_isIn_X3 : ∀ w ∈ u_ws RX3 TX3 16, w ∈ vs_k_X9_isIn := (fun _ h => List.mem_cons_of_mem _ (List.mem_append_right _ (List.mem_append_right _ (List.mem_append_left _ h))))
theorem iv_k_X9_isIn_X9 : ∀ w ∈ u_ws RX9 TX9 17, w ∈ vs_k_X9_isIn := (fun _ h => List.mem_cons_of_mem _ (List.mem_append_right _ (List.mem_append_left _ h)))
set_option maxRecDepth 20000 in
theorem gv_k_X9_isIn_0 : GoodIn vs_k_X9_isIn (wsV RX9 191 RX1 yX1_contains vs_k_X1_contains) := goodIn_app (goodIn_sub (by decide +kernel) (by decide +kernel)) (goodIn_sub (fun _ h => List.mem_cons_of_mem _ (List.mem_append_right _ (List.mem_append_right _ (List.mem_append_right _ (List.mem_append_left _ h))))) (by decide +kernel))
set_option maxRecDepth 20000 in
theorem gv_k_X9_isIn_1 : GoodIn vs_k_X9_isIn (wsV RX9 72 RX9 yX9_bitOf vs_k_X9_bitOf) := goodIn_app (goodIn_sub (by decide +kernel) (by decide +kernel)) (goodIn_sub (fun _ h => List.mem_cons_of_mem _ (List.mem_append_right _ (List.mem_append_right _ (List.mem_append_right _ (List.mem_append_right _ (h)))))) (by decide +kernel))
set_option maxHeartbeats 4000000 in
set_option maxRecDepth 100000 in
theorem k_X9_isIn (l : Launch) (D : va_G) (ty : Nat → ClassId) (td mi sz : Nat) (X : Nat → Nat) (hn : Int32) (kn : Int32) (on : Int32) (cu : Int32) (pu : Int32) (gw : Int32) (su : Nat → Int64) (ob : Nat → Int32) (an : Int32) (ch : Int32) (cg : Int32) (fb : Int32) (mh : Int32) (ml : Int32) (ih : Int32) (lb : Int32) (ic : Int32) (a1 : Int32) (a2 : Int32) (TT : r_k_X9_isIn) (hTT : TT = m_k_X9_isIn on su ob a1 a2) : Met l yX9_isIn vs_k_X9_isIn { frames := 2, cells := 0, slots := 0, locals := 44 } (va_Pc [.ref (X 20), .int a1, .int a2] (wq_P D ty td mi (wW_k_X9_isIn ty X hn kn on cu pu gw su ob an ch cg fb mh ml ih lb ic) sz)) (va_Qi (fun (r : Int32) (u : va_W) => (r = TT ∧ (TT = 0 ∨ TT = 1) ∧ (u = (wW_k_X9_isIn ty X hn kn on cu pu gw su ob an ch cg fb mh ml ih lb ic)))) (wq_B D (va_A (wW_k_X9_isIn ty X hn kn on cu pu gw su ob an ch cg fb mh ml ih lb ic) sz)) (va_A (wW_k_X9_isIn ty X hn kn on cu pu gw su ob an ch cg fb mh ml ih lb ic) sz)) 0 0 (va_A (wW_k_X9_isIn ty X hn kn on cu pu gw su ob an ch cg fb mh ml ih lb ic) sz) := by
  refine Met.ofW (cc := cX9_isIn) (maxL := 3) (ret := (some .boolean)) (by decide) rfl ?_
  intro p e s m args below meth c s₁ B hml hv
  obtain ⟨rfl, hsz, hP, hK, hD0, hE⟩ := hv
  have hx := B.exec
  have hb := B.bytes
  have hr := B.returns
  have hts := atoms_spec (ws := vs_k_X9_isIn) B.pre
  have hown : s.vm.findClass RX9 = some m.cls := findClass_of_methodNamed B.named
  have hlocks := B.notSynchronized
  subst hsz
  have hD := hD0.self (sz := s.heap.size)
  generalize hAe : va_A (wW_k_X9_isIn ty X hn kn on cu pu gw su ob an ch cg fb mh ml ih lb ic) s.heap.size = A at hD hE ⊢
  have hA : ∀ q : Nat, s.heap.size ≤ q → A q := fun q h => by rw [← hAe]; exact Or.inr h
  have hS : va_S A s.heap s.heap [] := va_S.rf
  have hP : va_P D vwCl (wW_k_X9_isIn ty X hn kn on cu pu gw su ob an ch cg fb mh ml ih lb ic) s.heap := hP
  have hl := lv_entry ([.ref (X 20), .int a1, .int a2]) (n := 3) (Nat.le_of_ble_eq_true rfl)
  rw [lg_entry_eq]
  generalize (lg_sl ([.ref (X 20), .int a1, .int a2]) ++ List.replicate (3 - (lg_sl ([.ref (X 20), .int a1, .int a2])).length) Slot.unset).toArray = ls at hl ⊢
  have hl : lv_has ls 3 [(0, .ref (X 20)), (1, .int a1), (2, .int a2)] := hl
  have END : ∀ (r : Int32), TT = r → (r = 0 ∨ r = 1) → ∀ (H : Heap) (locs : List Loc), va_P D vwCl (wW_k_X9_isIn ty X hn kn on cu pu gw su ob an ch cg fb mh ml ih lb ic) H → va_D A (wW_k_X9_isIn ty X hn kn on cu pu gw su ob an ch cg fb mh ml ih lb ic) → va_S A s.heap H locs → ∀ (ls : Array Slot) (pc : Nat), decode cX9_isIn pc = .ok (.ireturn, 1) → W p l e (headSpec vs_k_X9_isIn { frames := 2, cells := 0, slots := 0, locals := 44 }).room s m ([.ref (X 20), .int a1, .int a2] : List Value).toArray below meth c H locs 0 0 (MQ below (va_Qi (fun (r : Int32) (u : va_W) => (r = TT ∧ (TT = 0 ∨ TT = 1) ∧ (u = (wW_k_X9_isIn ty X hn kn on cu pu gw su ob an ch cg fb mh ml ih lb ic)))) (wq_B D A) A) ([.ref (X 20), .int a1, .int a2] : List Value).toArray s 0 0 A) (F0 m pc ls [.int r]) := by
    intro r hT hb01 H locs hP hD hS ls pc hd
    have hM : TT = r := hT
    exact W.zret (v := r) hx hb hr (wz_nar hb01) (fun t ht hW => ⟨⟨r, (wW_k_X9_isIn ty X hn kn on cu pu gw su ob an ch cg fb mh ml ih lb ic), rfl, ⟨(by rw [hM]), (by rw [hM]; exact hb01), rfl⟩, wq_B.of ht hP hD⟩, hS.F ht⟩) hS.2.2 hd
  have hT := hTT
  rw [m_k_X9_isIn] at hT
  refine lv_aload_n hx hb dX9_isIn_0 rfl (lv_at hl 0 rfl) ?_
  refine va_get (D := D) (ci := 11) (v := .ref (X 8)) (C := RX9) (T := TX9) (N := 17) hx hb hts iv_k_X9_isIn_X9 hown hK hP 4 rfl rfl 1 (by decide) (hts (.fieldLink RX9 38 "AnswerFold$Solver" "grounding" "LAnswerFold$Grounding;") (by decide +kernel)) (fun _ h9 => h9) rfl dX9_isIn_1 ?_
  refine va_getN (D := D) (ci := 5) (v := .ref (X 10)) (C := RX3) (T := TX3) (N := 16) hx hb hts iv_k_X9_isIn_X3 hown hK hP 0 rfl rfl 2 (by decide) (hE.at (.fieldLinkNest "AnswerFold$Solver" 53 "AnswerFold$Grounding" "sure" "LAnswerFold$AtomSet;" "AnswerFold") (by decide +kernel)) (fun _ h9 => h9) rfl dX9_isIn_4 ?_
  refine lv_iload_n hx hb dX9_isIn_7 rfl (lv_at hl 2 rfl) ?_
  obtain ⟨t_8, ht_8⟩ : ∃ t, t = m_k_X1_contains su a2 := ⟨_, rfl⟩
  rw [lE_eq ht_8] at hT
  refine wq_iW (wc := (wW_k_X1_contains ty (X 10) (X 11) su)) (va_runV (As := [.int a2]) (rest := []) ⟨hx, hb, hml, hown, hts⟩ (k_X1_contains l D ty td mi s.heap.size (X 10) (X 11) su a2 t_8 ht_8) (cwV 1 hts gv_k_X9_isIn_0 rfl rfl rfl (by decide +kernel) ⟨(Nat.le_of_ble_eq_true rfl), (Nat.le_of_ble_eq_true rfl)⟩) (wm_V (wm_preS hP hD hK hE hS hA [false, true, true] rfl) (va_recv (q0 := 1) (ci := 3) hK hP rfl rfl)) rfl rfl hl.1 rfl (lv_room (Nat.le_of_ble_eq_true rfl)) dX9_isIn_8 ⟨(Nat.le_of_ble_eq_true rfl), (Nat.le_of_ble_eq_true rfl)⟩) hS hA hP hD [false, true, true] rfl (fun _ _ h => by rcases h with ⟨-, -, rfl⟩; rfl) (fun r u H locs hw hP hD hS => ?_)
  obtain ⟨hr0, c_3, rfl⟩ := hw
  subst r
  have hP : va_P D vwCl (wW_k_X9_isIn ty X hn kn on cu pu gw su ob an ch cg fb mh ml ih lb ic) H := hP
  have hD : va_D A (wW_k_X9_isIn ty X hn kn on cu pu gw su ob an ch cg fb mh ml ih lb ic) := hD
  refine W.widen (k := 0) (n := 0) (Nat.le_of_ble_eq_true rfl) (Nat.le_of_ble_eq_true rfl) ?_
  have J_24 : ∀ (_ : Unit), TT = m_k_X9_isIn_24 → ∀ (H : Heap) (locs : List Loc), va_P D vwCl (wW_k_X9_isIn ty X hn kn on cu pu gw su ob an ch cg fb mh ml ih lb ic) H → va_D A (wW_k_X9_isIn ty X hn kn on cu pu gw su ob an ch cg fb mh ml ih lb ic) → va_S A s.heap H locs → ∀ ls : Array Slot, lv_has ls 3 [] → W p l e (headSpec vs_k_X9_isIn { frames := 2, cells := 0, slots := 0, locals := 44 }).room s m ([.ref (X 20), .int a1, .int a2] : List Value).toArray below meth c H locs 0 0 (MQ below (va_Qi (fun (r : Int32) (u : va_W) => (r = TT ∧ (TT = 0 ∨ TT = 1) ∧ (u = (wW_k_X9_isIn ty X hn kn on cu pu gw su ob an ch cg fb mh ml ih lb ic)))) (wq_B D A) A) ([.ref (X 20), .int a1, .int a2] : List Value).toArray s 0 0 A) (F0 m 24 ls []) := by
    intro _ hT  H locs hP hD hS ls hl
    rw [m_k_X9_isIn_24] at hT
    refine lv_iconst (v := 1) hx hb dX9_isIn_24 (by decide) ?_
    refine lv_goto (tgt := 29) hx hb dX9_isIn_25 (by decide) ?_
    exact END 1 hT (by decide) _ _ hP hD hS _ _ dX9_isIn_29
  refine lv_if_ne (tgt := 24) hx hb dX9_isIn_11 (by decide) (fun c_4 => ?_) (fun c_4 => ?_)
  · rw [if_neg c_4] at hT
    exact J_24 () hT _ _ hP hD hS _ (lv_sub hl [] rfl)
  · rw [if_pos c_4] at hT
    refine lv_iload_n hx hb dX9_isIn_14 rfl (lv_at hl 1 rfl) ?_
    refine lv_aload_n hx hb dX9_isIn_15 rfl (lv_at hl 0 rfl) ?_
    refine lv_iload_n hx hb dX9_isIn_16 rfl (lv_at hl 2 rfl) ?_
    obtain ⟨t_17, ht_17⟩ : ∃ t, t = m_k_X9_bitOf on ob a2 := ⟨_, rfl⟩
    rw [lE_eq ht_17] at hT
    refine wq_iW (wc := (wW_k_X9_bitOf ty X hn kn on cu pu gw ob an ch cg fb mh ml ih lb ic)) (va_runV (As := [.int a2]) (rest := [.int a1]) ⟨hx, hb, hml, hown, hts⟩ (k_X9_bitOf l D ty td mi H.size X hn kn on cu pu gw ob an ch cg fb mh ml ih lb ic a2 t_17 ht_17) (cwV 1 hts gv_k_X9_isIn_1 rfl rfl rfl (by decide +kernel) ⟨(Nat.le_of_ble_eq_true rfl), (Nat.le_of_ble_eq_true rfl)⟩) (wm_V (wm_preS hP hD hK hE hS hA [true, false, false, true, true] rfl) (va_recv (q0 := 4) (ci := 11) hK hP rfl rfl)) rfl rfl hl.1 rfl (lv_room (Nat.le_of_ble_eq_true rfl)) dX9_isIn_17 ⟨(Nat.le_of_ble_eq_true rfl), (Nat.le_of_ble_eq_true rfl)⟩) hS hA hP hD [true, false, false, true, true] rfl (fun _ _ h => by rcases h with ⟨-, rfl⟩; rfl) (fun r u H locs hw hP hD hS => ?_)
    obtain ⟨hr0, rfl⟩ := hw
    subst r
    have hP : va_P D vwCl (wW_k_X9_isIn ty X hn kn on cu pu gw su ob an ch cg fb mh ml ih lb ic) H := hP
    have hD : va_D A (wW_k_X9_isIn ty X hn kn on cu pu gw su ob an ch cg fb mh ml ih lb ic) := hD
    refine W.widen (k := 0) (n := 0) (Nat.le_of_ble_eq_true rfl) (Nat.le_of_ble_eq_true rfl) ?_
    refine lv_iand hx hb dX9_isIn_20 ?_
    refine lv_if_eq (tgt := 28) hx hb dX9_isIn_21 (by decide) (fun c_7 => ?_) (fun c_7 => ?_)
    · rw [if_pos c_7] at hT
      refine lv_iconst (v := 0) hx hb dX9_isIn_28 (by decide) ?_
      exact END 0 hT (by decide) _ _ hP hD hS _ _ dX9_isIn_29
    · rw [if_neg c_7] at hT
      exact J_24 () hT _ _ hP hD hS _ (lv_sub hl [] rfl)
theorem dX9_sizeOf_0 : decode cX9_sizeOf 0 = .ok (.aload_n 0, 1) := by decide +kernel
theorem dX9_sizeOf_1 : decode cX9_sizeOf 1 = .ok (.getfield 38, 3) := by decide +kernel
theorem dX9_sizeOf_4 : decode cX9_sizeOf 4 = .ok (.getfield 53, 3) := by decide +kernel
theorem dX9_sizeOf_7 : decode cX9_sizeOf 7 = .ok (.invokevirtual 201, 3) := by decide +kernel
theorem dX9_sizeOf_10 : decode cX9_sizeOf 10 = .ok (.iload_n 1, 1) := by decide +kernel
theorem dX9_sizeOf_11 : decode cX9_sizeOf 11 = .ok (.invokestatic 204, 3) := by decide +kernel
theorem dX9_sizeOf_14 : decode cX9_sizeOf 14 = .ok (.iadd, 1) := by decide +kernel
theorem dX9_sizeOf_15 : decode cX9_sizeOf 15 = .ok (.ireturn, 1) := by decide +kernel
def wW_k_X9_sizeOf (ty : Nat → ClassId) (X : Nat → Nat) (z9_0 : Int32) (z9_1 : Int32) (z9_2 : Int32) (z9_3 : Int32) (z9_4 : Int32) (z9_5 : Int32) (z9_6 : Nat → Int64) (z9_7 : Int32) (z9_8 : Int32) (z9_9 : Int32) (z9_10 : Int32) (z9_11 : Int32) (z9_12 : Int32) (z9_13 : Int32) (z9_14 : Int32) (z9_15 : Int32) : va_W := [((X 8), .inr (5, [.ref (X 1), .ref (X 9), .ref (X 10), .ref (X 12), .ref (X 14), .int z9_0, .ref (X 15), .ref (X 16), .ref (X 17), .int z9_1, .ref (X 18), .ref (X 19), .int z9_2, .int z9_3, .int z9_4, .int z9_5])), ((X 10), .inr (3, [.ref (X 11)])), ((X 11), .inl (ty 1, 6, .inr (.inl z9_6))), ((X 20), .inr (11, [.ref (X 1), .ref (X 8), .ref (X 21), .ref (X 28), .ref (X 35), .int z9_7, .ref (X 36), .ref (X 37), .ref (X 38), .int z9_8, .int z9_9, .int z9_10, .int z9_11, .int z9_12, .int z9_13, .int z9_14, .int z9_15]))]
def vs_k_X9_sizeOf : List Cond := .code yX9_sizeOf cX9_sizeOf 2 (some .int) :: ([.fieldLink RX9 38 "AnswerFold$Solver" "grounding" "LAnswerFold$Grounding;", .methodLink RX9 201 yX1_count, .instanceMethod yX1_count, .selects RX1 yX1_count yX1_count, .initialized RX1, .methodLink RX9 204 yJ6_bitCount_0f7a4, .static yJ6_bitCount_0f7a4, .initialized RJ6] ++ (u_ws RX9 TX9 17 ++ (u_ws RX3 TX3 16 ++ (vs_k_X1_count ++ (vs_k_J6_bitCount_0f7a4)))))
theorem iv_k_X9_sizeOf_X3 : ∀ w ∈ u_ws RX3 TX3 16, w ∈ vs_k_X9_sizeOf := (fun _ h => List.mem_cons_of_mem _ (List.mem_append_right _ (List.mem_append_right _ (List.mem_append_left _ h))))
theorem iv_k_X9_sizeOf_X9 : ∀ w ∈ u_ws RX9 TX9 17, w ∈ vs_k_X9_sizeOf := (fun _ h => List.mem_cons_of_mem _ (List.mem_append_right _ (List.mem_append_left _ h)))
set_option maxRecDepth 20000 in
theorem gv_k_X9_sizeOf_0 : GoodIn vs_k_X9_sizeOf (wsV RX9 201 RX1 yX1_count vs_k_X1_count) := goodIn_app (goodIn_sub (by decide +kernel) (by decide +kernel)) (goodIn_sub (fun _ h => List.mem_cons_of_mem _ (List.mem_append_right _ (List.mem_append_right _ (List.mem_append_right _ (List.mem_append_left _ h))))) (by decide +kernel))
set_option maxRecDepth 20000 in
theorem gv_k_X9_sizeOf_1 : GoodIn vs_k_X9_sizeOf (va_wsS RX9 204 yJ6_bitCount_0f7a4 vs_k_J6_bitCount_0f7a4) := goodIn_app (goodIn_sub (by decide +kernel) (by decide +kernel)) (goodIn_sub (fun _ h => List.mem_cons_of_mem _ (List.mem_append_right _ (List.mem_append_right _ (List.mem_append_right _ (List.mem_append_right _ (h)))))) (by decide +kernel))
set_option maxHeartbeats 4000000 in
set_option maxRecDepth 100000 in
theorem k_X9_sizeOf (l : Launch) (D : va_G) (ty : Nat → ClassId) (td mi sz : Nat) (X : Nat → Nat) (hn : Int32) (kn : Int32) (on : Int32) (cu : Int32) (pu : Int32) (gw : Int32) (su : Nat → Int64) (an : Int32) (ch : Int32) (cg : Int32) (fb : Int32) (mh : Int32) (ml : Int32) (ih : Int32) (lb : Int32) (ic : Int32) (a1 : Int32) (TT : r_k_X9_sizeOf) (hTT : TT = m_k_X9_sizeOf su a1) : Met l yX9_sizeOf vs_k_X9_sizeOf { frames := 3, cells := 0, slots := 0, locals := 64 } (va_Pc [.ref (X 20), .int a1] (wq_P D ty td mi (wW_k_X9_sizeOf ty X hn kn on cu pu gw su an ch cg fb mh ml ih lb ic) sz)) (va_Qi (fun (r : Int32) (u : va_W) => (r = TT ∧ (u = (wW_k_X9_sizeOf ty X hn kn on cu pu gw su an ch cg fb mh ml ih lb ic)))) (wq_B D (va_A (wW_k_X9_sizeOf ty X hn kn on cu pu gw su an ch cg fb mh ml ih lb ic) sz)) (va_A (wW_k_X9_sizeOf ty X hn kn on cu pu gw su an ch cg fb mh ml ih lb ic) sz)) 0 0 (va_A (wW_k_X9_sizeOf ty X hn kn on cu pu gw su an ch cg fb mh ml ih lb ic) sz) := by
  refine Met.ofW (cc := cX9_sizeOf) (maxL := 2) (ret := (some .int)) (by decide) rfl ?_
  intro p e s m args below meth c s₁ B hml hv
  obtain ⟨rfl, hsz, hP, hK, hD0, hE⟩ := hv
  have hx := B.exec
  have hb := B.bytes
  have hr := B.returns
  have hts := atoms_spec (ws := vs_k_X9_sizeOf) B.pre
  have hown : s.vm.findClass RX9 = some m.cls := findClass_of_methodNamed B.named
  have hlocks := B.notSynchronized
  subst hsz
  have hD := hD0.self (sz := s.heap.size)
  generalize hAe : va_A (wW_k_X9_sizeOf ty X hn kn on cu pu gw su an ch cg fb mh ml ih lb ic) s.heap.size = A at hD hE ⊢
  have hA : ∀ q : Nat, s.heap.size ≤ q → A q := fun q h => by rw [← hAe]; exact Or.inr h
  have hS : va_S A s.heap s.heap [] := va_S.rf
  have hP : va_P D vwCl (wW_k_X9_sizeOf ty X hn kn on cu pu gw su an ch cg fb mh ml ih lb ic) s.heap := hP
  have hl := lv_entry ([.ref (X 20), .int a1]) (n := 2) (Nat.le_of_ble_eq_true rfl)
  rw [lg_entry_eq]
  generalize (lg_sl ([.ref (X 20), .int a1]) ++ List.replicate (2 - (lg_sl ([.ref (X 20), .int a1])).length) Slot.unset).toArray = ls at hl ⊢
  have hl : lv_has ls 2 [(0, .ref (X 20)), (1, .int a1)] := hl
  have END : ∀ (r : Int32), TT = r → ∀ (H : Heap) (locs : List Loc), va_P D vwCl (wW_k_X9_sizeOf ty X hn kn on cu pu gw su an ch cg fb mh ml ih lb ic) H → va_D A (wW_k_X9_sizeOf ty X hn kn on cu pu gw su an ch cg fb mh ml ih lb ic) → va_S A s.heap H locs → ∀ (ls : Array Slot) (pc : Nat), decode cX9_sizeOf pc = .ok (.ireturn, 1) → W p l e (headSpec vs_k_X9_sizeOf { frames := 3, cells := 0, slots := 0, locals := 64 }).room s m ([.ref (X 20), .int a1] : List Value).toArray below meth c H locs 0 0 (MQ below (va_Qi (fun (r : Int32) (u : va_W) => (r = TT ∧ (u = (wW_k_X9_sizeOf ty X hn kn on cu pu gw su an ch cg fb mh ml ih lb ic)))) (wq_B D A) A) ([.ref (X 20), .int a1] : List Value).toArray s 0 0 A) (F0 m pc ls [.int r]) := by
    intro r hT H locs hP hD hS ls pc hd
    have hM : TT = r := hT
    exact W.iret (v := r) hx hb hr (fun t ht hW => ⟨⟨r, (wW_k_X9_sizeOf ty X hn kn on cu pu gw su an ch cg fb mh ml ih lb ic), rfl, ⟨(by rw [hM]), rfl⟩, wq_B.of ht hP hD⟩, hS.F ht⟩) hS.2.2 hd
  have hT := hTT
  rw [m_k_X9_sizeOf] at hT
  refine lv_aload_n hx hb dX9_sizeOf_0 rfl (lv_at hl 0 rfl) ?_
  refine va_get (D := D) (ci := 11) (v := .ref (X 8)) (C := RX9) (T := TX9) (N := 17) hx hb hts iv_k_X9_sizeOf_X9 hown hK hP 3 rfl rfl 1 (by decide) (hts (.fieldLink RX9 38 "AnswerFold$Solver" "grounding" "LAnswerFold$Grounding;") (by decide +kernel)) (fun _ h9 => h9) rfl dX9_sizeOf_1 ?_
  refine va_getN (D := D) (ci := 5) (v := .ref (X 10)) (C := RX3) (T := TX3) (N := 16) hx hb hts iv_k_X9_sizeOf_X3 hown hK hP 0 rfl rfl 2 (by decide) (hE.at (.fieldLinkNest "AnswerFold$Solver" 53 "AnswerFold$Grounding" "sure" "LAnswerFold$AtomSet;" "AnswerFold") (by decide +kernel)) (fun _ h9 => h9) rfl dX9_sizeOf_4 ?_
  obtain ⟨t_7, ht_7⟩ : ∃ t, t = m_k_X1_count su := ⟨_, rfl⟩
  rw [lE_eq ht_7] at hT
  refine wq_iW (wc := (wW_k_X1_count ty (X 10) (X 11) su)) (va_runV (As := []) (rest := []) ⟨hx, hb, hml, hown, hts⟩ (k_X1_count l D ty td mi s.heap.size (X 10) (X 11) su t_7 ht_7) (cwV 0 hts gv_k_X9_sizeOf_0 rfl rfl rfl (by decide +kernel) ⟨(Nat.le_of_ble_eq_true rfl), (Nat.le_of_ble_eq_true rfl)⟩) (wm_V (wm_preS hP hD hK hE hS hA [false, true, true] rfl) (va_recv (q0 := 1) (ci := 3) hK hP rfl rfl)) rfl rfl hl.1 rfl (lv_room (Nat.le_of_ble_eq_true rfl)) dX9_sizeOf_7 ⟨(Nat.le_of_ble_eq_true rfl), (Nat.le_of_ble_eq_true rfl)⟩) hS hA hP hD [false, true, true] rfl (fun _ _ h => by rcases h with ⟨-, rfl⟩; rfl) (fun r u H locs hw hP hD hS => ?_)
  obtain ⟨hr0, rfl⟩ := hw
  subst r
  have hP : va_P D vwCl (wW_k_X9_sizeOf ty X hn kn on cu pu gw su an ch cg fb mh ml ih lb ic) H := hP
  have hD : va_D A (wW_k_X9_sizeOf ty X hn kn on cu pu gw su an ch cg fb mh ml ih lb ic) := hD
  refine W.widen (k := 0) (n := 0) (Nat.le_of_ble_eq_true rfl) (Nat.le_of_ble_eq_true rfl) ?_
  refine lv_iload_n hx hb dX9_sizeOf_10 rfl (lv_at hl 1 rfl) ?_
  obtain ⟨t_11, ht_11⟩ : ∃ t, t = m_k_J6_bitCount_0f7a4 a1 := ⟨_, rfl⟩
  rw [lE_eq ht_11] at hT
  refine wq_iW (wc := []) (va_runS (As := [.int a1]) (rest := [.int t_7]) ⟨hx, hb, hml, hown, hts⟩ (k_J6_bitCount_0f7a4 l D ty td mi H.size a1 t_11 ht_11) (va_cwS 1 hts gv_k_X9_sizeOf_1 rfl rfl rfl (by decide +kernel) ⟨(Nat.le_of_ble_eq_true rfl), (Nat.le_of_ble_eq_true rfl)⟩) (wm_preS hP hD hK hE hS hA [] rfl) rfl rfl hl.1 rfl (lv_room (Nat.le_of_ble_eq_true rfl)) dX9_sizeOf_11 ⟨(Nat.le_of_ble_eq_true rfl), (Nat.le_of_ble_eq_true rfl)⟩) hS hA hP hD [] rfl (fun _ _ h => by rcases h with ⟨-, rfl⟩; rfl) (fun r u H locs hw hP hD hS => ?_)
  obtain ⟨hr0, rfl⟩ := hw
  subst r
  have hP : va_P D vwCl (wW_k_X9_sizeOf ty X hn kn on cu pu gw su an ch cg fb mh ml ih lb ic) H := hP
  have hD : va_D A (wW_k_X9_sizeOf ty X hn kn on cu pu gw su an ch cg fb mh ml ih lb ic) := hD
  refine W.widen (k := 0) (n := 0) (Nat.le_of_ble_eq_true rfl) (Nat.le_of_ble_eq_true rfl) ?_
  refine lv_iadd hx hb dX9_sizeOf_14 ?_
  exact END (t_7 + t_11) hT _ _ hP hD hS _ _ dX9_sizeOf_15
theorem dX9_openBitsOf_0 : decode cX9_openBitsOf 0 = .ok (.iload_n 1, 1) := by decide +kernel
theorem dX9_openBitsOf_1 : decode cX9_openBitsOf 1 = .ok (.ifCond .lt 18, 3) := by decide +kernel
theorem dX9_openBitsOf_4 : decode cX9_openBitsOf 4 = .ok (.iload_n 1, 1) := by decide +kernel
theorem dX9_openBitsOf_5 : decode cX9_openBitsOf 5 = .ok (.bipush 6, 2) := by decide +kernel
theorem dX9_openBitsOf_7 : decode cX9_openBitsOf 7 = .ok (.if_icmp .ge 12, 3) := by decide +kernel
theorem dX9_openBitsOf_10 : decode cX9_openBitsOf 10 = .ok (.aload_n 0, 1) := by decide +kernel
theorem dX9_openBitsOf_11 : decode cX9_openBitsOf 11 = .ok (.getfield 25, 3) := by decide +kernel
theorem dX9_openBitsOf_14 : decode cX9_openBitsOf 14 = .ok (.iload_n 1, 1) := by decide +kernel
theorem dX9_openBitsOf_15 : decode cX9_openBitsOf 15 = .ok (.iaload, 1) := by decide +kernel
theorem dX9_openBitsOf_16 : decode cX9_openBitsOf 16 = .ok (.goto 4, 3) := by decide +kernel
theorem dX9_openBitsOf_19 : decode cX9_openBitsOf 19 = .ok (.iconst 0, 1) := by decide +kernel
theorem dX9_openBitsOf_20 : decode cX9_openBitsOf 20 = .ok (.ireturn, 1) := by decide +kernel
def wW_k_X9_openBitsOf (ty : Nat → ClassId) (X : Nat → Nat) (z9_0 : Int32) (z9_1 : Int32) (z9_2 : Int32) (z9_3 : Int32) (z9_4 : Int32) (z9_5 : Int32) (z9_6 : Int32) (z9_7 : Int32) (z9_8 : Int32) (z9_9 : Nat → Int32) : va_W := [((X 20), .inr (11, [.ref (X 1), .ref (X 8), .ref (X 21), .ref (X 28), .ref (X 35), .int z9_0, .ref (X 36), .ref (X 37), .ref (X 38), .int z9_1, .int z9_2, .int z9_3, .int z9_4, .int z9_5, .int z9_6, .int z9_7, .int z9_8])), ((X 36), .inl (ty 0, 6, .inl z9_9))]
def vs_k_X9_openBitsOf : List Cond := .code yX9_openBitsOf cX9_openBitsOf 2 (some .int) :: ([.fieldLink RX9 25 "AnswerFold$Solver" "openBits" "[I"] ++ (u_ws RX9 TX9 17))
theorem iv_k_X9_openBitsOf_X9 : ∀ w ∈ u_ws RX9 TX9 17, w ∈ vs_k_X9_openBitsOf := (fun _ h => List.mem_cons_of_mem _ (List.mem_append_right _ (h)))
set_option maxHeartbeats 4000000 in
set_option maxRecDepth 100000 in
theorem k_X9_openBitsOf (l : Launch) (D : va_G) (ty : Nat → ClassId) (td mi sz : Nat) (X : Nat → Nat) (an : Int32) (ch : Int32) (cg : Int32) (fb : Int32) (mh : Int32) (ml : Int32) (ih : Int32) (lb : Int32) (ic : Int32) (obi : Nat → Int32) (a1 : Int32) (TT : r_k_X9_openBitsOf) (hTT : TT = m_k_X9_openBitsOf obi a1) : Met l yX9_openBitsOf vs_k_X9_openBitsOf { frames := 0, cells := 0, slots := 0, locals := 0 } (va_Pc [.ref (X 20), .int a1] (wq_P D ty td mi (wW_k_X9_openBitsOf ty X an ch cg fb mh ml ih lb ic obi) sz)) (va_Qi (fun (r : Int32) (u : va_W) => (r = TT ∧ (u = (wW_k_X9_openBitsOf ty X an ch cg fb mh ml ih lb ic obi)))) (wq_B D (va_A (wW_k_X9_openBitsOf ty X an ch cg fb mh ml ih lb ic obi) sz)) (va_A (wW_k_X9_openBitsOf ty X an ch cg fb mh ml ih lb ic obi) sz)) 0 0 (va_A (wW_k_X9_openBitsOf ty X an ch cg fb mh ml ih lb ic obi) sz) := by
  refine Met.ofW (cc := cX9_openBitsOf) (maxL := 2) (ret := (some .int)) (by decide) rfl ?_
  intro p e s m args below meth c s₁ B hml hv
  obtain ⟨rfl, hsz, hP, hK, hD0, hE⟩ := hv
  have hx := B.exec
  have hb := B.bytes
  have hr := B.returns
  have hts := atoms_spec (ws := vs_k_X9_openBitsOf) B.pre
  have hown : s.vm.findClass RX9 = some m.cls := findClass_of_methodNamed B.named
  have hlocks := B.notSynchronized
  subst hsz
  have hD := hD0.self (sz := s.heap.size)
  generalize hAe : va_A (wW_k_X9_openBitsOf ty X an ch cg fb mh ml ih lb ic obi) s.heap.size = A at hD hE ⊢
  have hA : ∀ q : Nat, s.heap.size ≤ q → A q := fun q h => by rw [← hAe]; exact Or.inr h
  have hS : va_S A s.heap s.heap [] := va_S.rf
  have hP : va_P D vwCl (wW_k_X9_openBitsOf ty X an ch cg fb mh ml ih lb ic obi) s.heap := hP
  have hl := lv_entry ([.ref (X 20), .int a1]) (n := 2) (Nat.le_of_ble_eq_true rfl)
  rw [lg_entry_eq]
  generalize (lg_sl ([.ref (X 20), .int a1]) ++ List.replicate (2 - (lg_sl ([.ref (X 20), .int a1])).length) Slot.unset).toArray = ls at hl ⊢
  have hl : lv_has ls 2 [(0, .ref (X 20)), (1, .int a1)] := hl
  have END : ∀ (r : Int32), TT = r → ∀ (H : Heap) (locs : List Loc), va_P D vwCl (wW_k_X9_openBitsOf ty X an ch cg fb mh ml ih lb ic obi) H → va_D A (wW_k_X9_openBitsOf ty X an ch cg fb mh ml ih lb ic obi) → va_S A s.heap H locs → ∀ (ls : Array Slot) (pc : Nat), decode cX9_openBitsOf pc = .ok (.ireturn, 1) → W p l e (headSpec vs_k_X9_openBitsOf { frames := 0, cells := 0, slots := 0, locals := 0 }).room s m ([.ref (X 20), .int a1] : List Value).toArray below meth c H locs 0 0 (MQ below (va_Qi (fun (r : Int32) (u : va_W) => (r = TT ∧ (u = (wW_k_X9_openBitsOf ty X an ch cg fb mh ml ih lb ic obi)))) (wq_B D A) A) ([.ref (X 20), .int a1] : List Value).toArray s 0 0 A) (F0 m pc ls [.int r]) := by
    intro r hT H locs hP hD hS ls pc hd
    have hM : TT = r := hT
    exact W.iret (v := r) hx hb hr (fun t ht hW => ⟨⟨r, (wW_k_X9_openBitsOf ty X an ch cg fb mh ml ih lb ic obi), rfl, ⟨(by rw [hM]), rfl⟩, wq_B.of ht hP hD⟩, hS.F ht⟩) hS.2.2 hd
  have hT := hTT
  rw [m_k_X9_openBitsOf] at hT
  refine lv_iload_n hx hb dX9_openBitsOf_0 rfl (lv_at hl 1 rfl) ?_
  refine lv_if_lt (tgt := 19) hx hb dX9_openBitsOf_1 (by decide) (fun c_1 => ?_) (fun c_1 => ?_)
  · rw [if_pos c_1] at hT
    refine lv_iconst (v := 0) hx hb dX9_openBitsOf_19 (by decide) ?_
    exact END 0 hT _ _ hP hD hS _ _ dX9_openBitsOf_20
  · rw [if_neg c_1] at hT
    refine lv_iload_n hx hb dX9_openBitsOf_4 rfl (lv_at hl 1 rfl) ?_
    refine lv_bipush (v := 6) hx hb dX9_openBitsOf_5 (by decide) ?_
    refine lv_icmp_ge (tgt := 19) hx hb dX9_openBitsOf_7 (by decide) (fun c_2 => ?_) (fun c_2 => ?_)
    · rw [if_pos c_2] at hT
      refine lv_iconst (v := 0) hx hb dX9_openBitsOf_19 (by decide) ?_
      exact END 0 hT _ _ hP hD hS _ _ dX9_openBitsOf_20
    · rw [if_neg c_2] at hT
      refine lv_aload_n hx hb dX9_openBitsOf_10 rfl (lv_at hl 0 rfl) ?_
      refine va_get (D := D) (ci := 11) (v := .ref (X 36)) (C := RX9) (T := TX9) (N := 17) hx hb hts iv_k_X9_openBitsOf_X9 hown hK hP 0 rfl rfl 6 (by decide) (hts (.fieldLink RX9 25 "AnswerFold$Solver" "openBits" "[I") (by decide +kernel)) (fun _ h9 => h9) rfl dX9_openBitsOf_11 ?_
      refine lv_iload_n hx hb dX9_openBitsOf_14 rfl (lv_at hl 1 rfl) ?_
      refine va_iald (D := D) hx hb hK hP 1 0 rfl rfl (wi_in (wi_lo c_1) (wi_hi c_2 (by decide))) dX9_openBitsOf_15 ?_
      refine lv_goto (tgt := 20) hx hb dX9_openBitsOf_16 (by decide) ?_
      exact END (obi a1.toNatClampNeg) hT _ _ hP hD hS _ _ dX9_openBitsOf_20
theorem dX9_fullSet_0 : decode cX9_fullSet 0 = .ok (.iconst 1, 1) := by decide +kernel
theorem dX9_fullSet_1 : decode cX9_fullSet 1 = .ok (.bipush 12, 2) := by decide +kernel
theorem dX9_fullSet_3 : decode cX9_fullSet 3 = .ok (.aload_n 0, 1) := by decide +kernel
theorem dX9_fullSet_4 : decode cX9_fullSet 4 = .ok (.getfield 38, 3) := by decide +kernel
theorem dX9_fullSet_7 : decode cX9_fullSet 7 = .ok (.getfield 65, 3) := by decide +kernel
theorem dX9_fullSet_10 : decode cX9_fullSet 10 = .ok (.invokestatic 209, 3) := by decide +kernel
theorem dX9_fullSet_13 : decode cX9_fullSet 13 = .ok (.ishl, 1) := by decide +kernel
theorem dX9_fullSet_14 : decode cX9_fullSet 14 = .ok (.iconst 1, 1) := by decide +kernel
theorem dX9_fullSet_15 : decode cX9_fullSet 15 = .ok (.isub, 1) := by decide +kernel
theorem dX9_fullSet_16 : decode cX9_fullSet 16 = .ok (.ireturn, 1) := by decide +kernel
def wW_k_X9_fullSet (ty : Nat → ClassId) (X : Nat → Nat) (z9_0 : Int32) (z9_1 : Int32) (z9_2 : Int32) (z9_3 : Int32) (z9_4 : Int32) (z9_5 : Int32) (z9_6 : Int32) (z9_7 : Int32) (z9_8 : Int32) (z9_9 : Int32) (z9_10 : Int32) (z9_11 : Int32) (z9_12 : Int32) (z9_13 : Int32) (z9_14 : Int32) : va_W := [((X 8), .inr (5, [.ref (X 1), .ref (X 9), .ref (X 10), .ref (X 12), .ref (X 14), .int z9_0, .ref (X 15), .ref (X 16), .ref (X 17), .int z9_1, .ref (X 18), .ref (X 19), .int z9_2, .int z9_3, .int z9_4, .int z9_5])), ((X 20), .inr (11, [.ref (X 1), .ref (X 8), .ref (X 21), .ref (X 28), .ref (X 35), .int z9_6, .ref (X 36), .ref (X 37), .ref (X 38), .int z9_7, .int z9_8, .int z9_9, .int z9_10, .int z9_11, .int z9_12, .int z9_13, .int z9_14]))]
def vs_k_X9_fullSet : List Cond := .code yX9_fullSet cX9_fullSet 1 (some .int) :: ([.fieldLink RX9 38 "AnswerFold$Solver" "grounding" "LAnswerFold$Grounding;", .methodLink RX9 209 Lib.Math.min.name, .static Lib.Math.min.name, .initialized "java/lang/Math", .code Lib.Math.min.name Lib.Math.min.code 2 (some .int)] ++ (u_ws RX9 TX9 17 ++ (u_ws RX3 TX3 16)))
theorem iv_k_X9_fullSet_X3 : ∀ w ∈ u_ws RX3 TX3 16, w ∈ vs_k_X9_fullSet := (fun _ h => List.mem_cons_of_mem _ (List.mem_append_right _ (List.mem_append_right _ (h))))
theorem iv_k_X9_fullSet_X9 : ∀ w ∈ u_ws RX9 TX9 17, w ∈ vs_k_X9_fullSet := (fun _ h => List.mem_cons_of_mem _ (List.mem_append_right _ (List.mem_append_left _ h)))
set_option maxHeartbeats 4000000 in
set_option maxRecDepth 100000 in
theorem k_X9_fullSet (l : Launch) (D : va_G) (ty : Nat → ClassId) (td mi sz : Nat) (X : Nat → Nat) (hn : Int32) (kn : Int32) (on : Int32) (cu : Int32) (pu : Int32) (gw : Int32) (an : Int32) (ch : Int32) (cg : Int32) (fb : Int32) (mh : Int32) (ml : Int32) (ih : Int32) (lb : Int32) (ic : Int32) (TT : r_k_X9_fullSet) (hTT : TT = m_k_X9_fullSet on) : Met l yX9_fullSet vs_k_X9_fullSet { frames := 1, cells := 0, slots := 0, locals := 14 } (va_Pc [.ref (X 20)] (wq_P D ty td mi (wW_k_X9_fullSet ty X hn kn on cu pu gw an ch cg fb mh ml ih lb ic) sz)) (va_Qi (fun (r : Int32) (u : va_W) => (r = TT ∧ (u = (wW_k_X9_fullSet ty X hn kn on cu pu gw an ch cg fb mh ml ih lb ic)))) (wq_B D (va_A (wW_k_X9_fullSet ty X hn kn on cu pu gw an ch cg fb mh ml ih lb ic) sz)) (va_A (wW_k_X9_fullSet ty X hn kn on cu pu gw an ch cg fb mh ml ih lb ic) sz)) 0 0 (va_A (wW_k_X9_fullSet ty X hn kn on cu pu gw an ch cg fb mh ml ih lb ic) sz) := by
  refine Met.ofW (cc := cX9_fullSet) (maxL := 1) (ret := (some .int)) (by decide) rfl ?_
  intro p e s m args below meth c s₁ B hml hv
  obtain ⟨rfl, hsz, hP, hK, hD0, hE⟩ := hv
  have hx := B.exec
  have hb := B.bytes
  have hr := B.returns
  have hts := atoms_spec (ws := vs_k_X9_fullSet) B.pre
  have hown : s.vm.findClass RX9 = some m.cls := findClass_of_methodNamed B.named
  have hlocks := B.notSynchronized
  subst hsz
  have hD := hD0.self (sz := s.heap.size)
  generalize hAe : va_A (wW_k_X9_fullSet ty X hn kn on cu pu gw an ch cg fb mh ml ih lb ic) s.heap.size = A at hD hE ⊢
  have hA : ∀ q : Nat, s.heap.size ≤ q → A q := fun q h => by rw [← hAe]; exact Or.inr h
  have hS : va_S A s.heap s.heap [] := va_S.rf
  have hP : va_P D vwCl (wW_k_X9_fullSet ty X hn kn on cu pu gw an ch cg fb mh ml ih lb ic) s.heap := hP
  have hl := lv_entry ([.ref (X 20)]) (n := 1) (Nat.le_of_ble_eq_true rfl)
  rw [lg_entry_eq]
  generalize (lg_sl ([.ref (X 20)]) ++ List.replicate (1 - (lg_sl ([.ref (X 20)])).length) Slot.unset).toArray = ls at hl ⊢
  have hl : lv_has ls 1 [(0, .ref (X 20))] := hl
  have END : ∀ (r : Int32), TT = r → ∀ (H : Heap) (locs : List Loc), va_P D vwCl (wW_k_X9_fullSet ty X hn kn on cu pu gw an ch cg fb mh ml ih lb ic) H → va_D A (wW_k_X9_fullSet ty X hn kn on cu pu gw an ch cg fb mh ml ih lb ic) → va_S A s.heap H locs → ∀ (ls : Array Slot) (pc : Nat), decode cX9_fullSet pc = .ok (.ireturn, 1) → W p l e (headSpec vs_k_X9_fullSet { frames := 1, cells := 0, slots := 0, locals := 14 }).room s m ([.ref (X 20)] : List Value).toArray below meth c H locs 0 0 (MQ below (va_Qi (fun (r : Int32) (u : va_W) => (r = TT ∧ (u = (wW_k_X9_fullSet ty X hn kn on cu pu gw an ch cg fb mh ml ih lb ic)))) (wq_B D A) A) ([.ref (X 20)] : List Value).toArray s 0 0 A) (F0 m pc ls [.int r]) := by
    intro r hT H locs hP hD hS ls pc hd
    have hM : TT = r := hT
    exact W.iret (v := r) hx hb hr (fun t ht hW => ⟨⟨r, (wW_k_X9_fullSet ty X hn kn on cu pu gw an ch cg fb mh ml ih lb ic), rfl, ⟨(by rw [hM]), rfl⟩, wq_B.of ht hP hD⟩, hS.F ht⟩) hS.2.2 hd
  have hT := hTT
  rw [m_k_X9_fullSet] at hT
  refine lv_iconst (v := 1) hx hb dX9_fullSet_0 (by decide) ?_
  refine lv_bipush (v := 12) hx hb dX9_fullSet_1 (by decide) ?_
  refine lv_aload_n hx hb dX9_fullSet_3 rfl (lv_at hl 0 rfl) ?_
  refine va_get (D := D) (ci := 11) (v := .ref (X 8)) (C := RX9) (T := TX9) (N := 17) hx hb hts iv_k_X9_fullSet_X9 hown hK hP 1 rfl rfl 1 (by decide) (hts (.fieldLink RX9 38 "AnswerFold$Solver" "grounding" "LAnswerFold$Grounding;") (by decide +kernel)) (fun _ h9 => h9) rfl dX9_fullSet_4 ?_
  refine va_getN (D := D) (ci := 5) (v := .int on) (C := RX3) (T := TX3) (N := 16) hx hb hts iv_k_X9_fullSet_X3 hown hK hP 0 rfl rfl 12 (by decide) (hE.at (.fieldLinkNest "AnswerFold$Solver" 65 "AnswerFold$Grounding" "openCount" "I" "AnswerFold") (by decide +kernel)) (fun _ h9 => h9) rfl dX9_fullSet_7 ?_
  refine va_mmin hx hb (hml.trans hl.1.symm) hown (hts (.methodLink RX9 209 Lib.Math.min.name) (by decide +kernel)) (hts (.static Lib.Math.min.name) (by decide +kernel)) (hts (.initialized "java/lang/Math") (by decide +kernel)) (hts (.code Lib.Math.min.name Lib.Math.min.code 2 (some .int)) (by decide +kernel)) (Nat.le_of_ble_eq_true rfl) (Nat.le_of_ble_eq_true rfl) (Nat.le_of_ble_eq_true rfl) (Nat.le_of_ble_eq_true rfl) dX9_fullSet_10 ?_
  refine lv_ishl hx hb dX9_fullSet_13 ?_
  refine lv_iconst (v := 1) hx hb dX9_fullSet_14 (by decide) ?_
  refine lv_isub hx hb dX9_fullSet_15 ?_
  exact END (((1 : Int32) <<< ((if on < (12 : Int32) then on else (12 : Int32)) &&& 31)) - 1) hT _ _ hP hD hS _ _ dX9_fullSet_16
theorem dX9_fits_0 : decode cX9_fits 0 = .ok (.aload_n 0, 1) := by decide +kernel
theorem dX9_fits_1 : decode cX9_fits 1 = .ok (.getfield 188, 3) := by decide +kernel
theorem dX9_fits_4 : decode cX9_fits 4 = .ok (.ifCond .ne 29, 3) := by decide +kernel
theorem dX9_fits_7 : decode cX9_fits 7 = .ok (.iload_n 1, 1) := by decide +kernel
theorem dX9_fits_8 : decode cX9_fits 8 = .ok (.aload_n 0, 1) := by decide +kernel
theorem dX9_fits_9 : decode cX9_fits 9 = .ok (.getfield 182, 3) := by decide +kernel
theorem dX9_fits_12 : decode cX9_fits 12 = .ok (.iand, 1) := by decide +kernel
theorem dX9_fits_13 : decode cX9_fits 13 = .ok (.aload_n 0, 1) := by decide +kernel
theorem dX9_fits_14 : decode cX9_fits 14 = .ok (.getfield 182, 3) := by decide +kernel
theorem dX9_fits_17 : decode cX9_fits 17 = .ok (.if_icmp .ne 16, 3) := by decide +kernel
theorem dX9_fits_20 : decode cX9_fits 20 = .ok (.iload_n 1, 1) := by decide +kernel
theorem dX9_fits_21 : decode cX9_fits 21 = .ok (.aload_n 0, 1) := by decide +kernel
theorem dX9_fits_22 : decode cX9_fits 22 = .ok (.getfield 185, 3) := by decide +kernel
theorem dX9_fits_25 : decode cX9_fits 25 = .ok (.iand, 1) := by decide +kernel
theorem dX9_fits_26 : decode cX9_fits 26 = .ok (.ifCond .ne 7, 3) := by decide +kernel
theorem dX9_fits_29 : decode cX9_fits 29 = .ok (.iconst 1, 1) := by decide +kernel
theorem dX9_fits_30 : decode cX9_fits 30 = .ok (.goto 4, 3) := by decide +kernel
theorem dX9_fits_33 : decode cX9_fits 33 = .ok (.iconst 0, 1) := by decide +kernel
theorem dX9_fits_34 : decode cX9_fits 34 = .ok (.ireturn, 1) := by decide +kernel
def wW_k_X9_fits (ty : Nat → ClassId) (X : Nat → Nat) (z9_0 : Int32) (z9_1 : Int32) (z9_2 : Int32) (z9_3 : Int32) (z9_4 : Int32) (z9_5 : Int32) (z9_6 : Int32) (z9_7 : Int32) (z9_8 : Int32) : va_W := [((X 20), .inr (11, [.ref (X 1), .ref (X 8), .ref (X 21), .ref (X 28), .ref (X 35), .int z9_0, .ref (X 36), .ref (X 37), .ref (X 38), .int z9_1, .int z9_2, .int z9_3, .int z9_4, .int z9_5, .int z9_6, .int z9_7, .int z9_8]))]
def vs_k_X9_fits : List Cond := .code yX9_fits cX9_fits 2 (some .boolean) :: ([.fieldLink RX9 188 "AnswerFold$Solver" "isHopeless" "Z", .fieldLink RX9 182 "AnswerFold$Solver" "mustHave" "I", .fieldLink RX9 185 "AnswerFold$Solver" "mustLack" "I"] ++ (u_ws RX9 TX9 17))
theorem iv_k_X9_fits_X9 : ∀ w ∈ u_ws RX9 TX9 17, w ∈ vs_k_X9_fits := (fun _ h => List.mem_cons_of_mem _ (List.mem_append_right _ (h)))
set_option maxHeartbeats 4000000 in
set_option maxRecDepth 100000 in
theorem k_X9_fits (l : Launch) (D : va_G) (ty : Nat → ClassId) (td mi sz : Nat) (X : Nat → Nat) (an : Int32) (ch : Int32) (cg : Int32) (fb : Int32) (mh : Int32) (ml : Int32) (ih : Int32) (lb : Int32) (ic : Int32) (a1 : Int32) (TT : r_k_X9_fits) (hTT : TT = m_k_X9_fits mh ml ih a1) : Met l yX9_fits vs_k_X9_fits { frames := 0, cells := 0, slots := 0, locals := 0 } (va_Pc [.ref (X 20), .int a1] (wq_P D ty td mi (wW_k_X9_fits ty X an ch cg fb mh ml ih lb ic) sz)) (va_Qi (fun (r : Int32) (u : va_W) => (r = TT ∧ (TT = 0 ∨ TT = 1) ∧ (u = (wW_k_X9_fits ty X an ch cg fb mh ml ih lb ic)))) (wq_B D (va_A (wW_k_X9_fits ty X an ch cg fb mh ml ih lb ic) sz)) (va_A (wW_k_X9_fits ty X an ch cg fb mh ml ih lb ic) sz)) 0 0 (va_A (wW_k_X9_fits ty X an ch cg fb mh ml ih lb ic) sz) := by
  refine Met.ofW (cc := cX9_fits) (maxL := 2) (ret := (some .boolean)) (by decide) rfl ?_
  intro p e s m args below meth c s₁ B hml hv
  obtain ⟨rfl, hsz, hP, hK, hD0, hE⟩ := hv
  have hx := B.exec
  have hb := B.bytes
  have hr := B.returns
  have hts := atoms_spec (ws := vs_k_X9_fits) B.pre
  have hown : s.vm.findClass RX9 = some m.cls := findClass_of_methodNamed B.named
  have hlocks := B.notSynchronized
  subst hsz
  have hD := hD0.self (sz := s.heap.size)
  generalize hAe : va_A (wW_k_X9_fits ty X an ch cg fb mh ml ih lb ic) s.heap.size = A at hD hE ⊢
  have hA : ∀ q : Nat, s.heap.size ≤ q → A q := fun q h => by rw [← hAe]; exact Or.inr h
  have hS : va_S A s.heap s.heap [] := va_S.rf
  have hP : va_P D vwCl (wW_k_X9_fits ty X an ch cg fb mh ml ih lb ic) s.heap := hP
  have hl := lv_entry ([.ref (X 20), .int a1]) (n := 2) (Nat.le_of_ble_eq_true rfl)
  rw [lg_entry_eq]
  generalize (lg_sl ([.ref (X 20), .int a1]) ++ List.replicate (2 - (lg_sl ([.ref (X 20), .int a1])).length) Slot.unset).toArray = ls at hl ⊢
  have hl : lv_has ls 2 [(0, .ref (X 20)), (1, .int a1)] := hl
  have END : ∀ (r : Int32), TT = r → (r = 0 ∨ r = 1) → ∀ (H : Heap) (locs : List Loc), va_P D vwCl (wW_k_X9_fits ty X an ch cg fb mh ml ih lb ic) H → va_D A (wW_k_X9_fits ty X an ch cg fb mh ml ih lb ic) → va_S A s.heap H locs → ∀ (ls : Array Slot) (pc : Nat), decode cX9_fits pc = .ok (.ireturn, 1) → W p l e (headSpec vs_k_X9_fits { frames := 0, cells := 0, slots := 0, locals := 0 }).room s m ([.ref (X 20), .int a1] : List Value).toArray below meth c H locs 0 0 (MQ below (va_Qi (fun (r : Int32) (u : va_W) => (r = TT ∧ (TT = 0 ∨ TT = 1) ∧ (u = (wW_k_X9_fits ty X an ch cg fb mh ml ih lb ic)))) (wq_B D A) A) ([.ref (X 20), .int a1] : List Value).toArray s 0 0 A) (F0 m pc ls [.int r]) := by
    intro r hT hb01 H locs hP hD hS ls pc hd
    have hM : TT = r := hT
    exact W.zret (v := r) hx hb hr (wz_nar hb01) (fun t ht hW => ⟨⟨r, (wW_k_X9_fits ty X an ch cg fb mh ml ih lb ic), rfl, ⟨(by rw [hM]), (by rw [hM]; exact hb01), rfl⟩, wq_B.of ht hP hD⟩, hS.F ht⟩) hS.2.2 hd
  have hT := hTT
  rw [m_k_X9_fits] at hT
  refine lv_aload_n hx hb dX9_fits_0 rfl (lv_at hl 0 rfl) ?_
  refine va_get (D := D) (ci := 11) (v := .int ih) (C := RX9) (T := TX9) (N := 17) hx hb hts iv_k_X9_fits_X9 hown hK hP 0 rfl rfl 14 (by decide) (hts (.fieldLink RX9 188 "AnswerFold$Solver" "isHopeless" "Z") (by decide +kernel)) (fun _ h9 => h9) rfl dX9_fits_1 ?_
  refine lv_if_ne (tgt := 33) hx hb dX9_fits_4 (by decide) (fun c_1 => ?_) (fun c_1 => ?_)
  · rw [if_neg c_1] at hT
    refine lv_iconst (v := 0) hx hb dX9_fits_33 (by decide) ?_
    exact END 0 hT (by decide) _ _ hP hD hS _ _ dX9_fits_34
  · rw [if_pos c_1] at hT
    refine lv_iload_n hx hb dX9_fits_7 rfl (lv_at hl 1 rfl) ?_
    refine lv_aload_n hx hb dX9_fits_8 rfl (lv_at hl 0 rfl) ?_
    refine va_get (D := D) (ci := 11) (v := .int mh) (C := RX9) (T := TX9) (N := 17) hx hb hts iv_k_X9_fits_X9 hown hK hP 0 rfl rfl 12 (by decide) (hts (.fieldLink RX9 182 "AnswerFold$Solver" "mustHave" "I") (by decide +kernel)) (fun _ h9 => h9) rfl dX9_fits_9 ?_
    refine lv_iand hx hb dX9_fits_12 ?_
    refine lv_aload_n hx hb dX9_fits_13 rfl (lv_at hl 0 rfl) ?_
    refine va_get (D := D) (ci := 11) (v := .int mh) (C := RX9) (T := TX9) (N := 17) hx hb hts iv_k_X9_fits_X9 hown hK hP 0 rfl rfl 12 (by decide) (hts (.fieldLink RX9 182 "AnswerFold$Solver" "mustHave" "I") (by decide +kernel)) (fun _ h9 => h9) rfl dX9_fits_14 ?_
    refine lv_icmp_ne (tgt := 33) hx hb dX9_fits_17 (by decide) (fun c_2 => ?_) (fun c_2 => ?_)
    · rw [if_neg c_2] at hT
      refine lv_iconst (v := 0) hx hb dX9_fits_33 (by decide) ?_
      exact END 0 hT (by decide) _ _ hP hD hS _ _ dX9_fits_34
    · rw [if_pos c_2] at hT
      refine lv_iload_n hx hb dX9_fits_20 rfl (lv_at hl 1 rfl) ?_
      refine lv_aload_n hx hb dX9_fits_21 rfl (lv_at hl 0 rfl) ?_
      refine va_get (D := D) (ci := 11) (v := .int ml) (C := RX9) (T := TX9) (N := 17) hx hb hts iv_k_X9_fits_X9 hown hK hP 0 rfl rfl 13 (by decide) (hts (.fieldLink RX9 185 "AnswerFold$Solver" "mustLack" "I") (by decide +kernel)) (fun _ h9 => h9) rfl dX9_fits_22 ?_
      refine lv_iand hx hb dX9_fits_25 ?_
      refine lv_if_ne (tgt := 33) hx hb dX9_fits_26 (by decide) (fun c_3 => ?_) (fun c_3 => ?_)
      · rw [if_neg c_3] at hT
        refine lv_iconst (v := 0) hx hb dX9_fits_33 (by decide) ?_
        exact END 0 hT (by decide) _ _ hP hD hS _ _ dX9_fits_34
      · rw [if_pos c_3] at hT
        refine lv_iconst (v := 1) hx hb dX9_fits_29 (by decide) ?_
        refine lv_goto (tgt := 34) hx hb dX9_fits_30 (by decide) ?_
        exact END 1 hT (by decide) _ _ hP hD hS _ _ dX9_fits_34
theorem dX9_countHolds_0 : decode cX9_countHolds 0 = .ok (.aload_n 1, 1) := by decide +kernel
theorem dX9_countHolds_1 : decode cX9_countHolds 1 = .ok (.getfield 260, 3) := by decide +kernel
theorem dX9_countHolds_4 : decode cX9_countHolds 4 = .ok (.istore_n 3, 1) := by decide +kernel
theorem dX9_countHolds_5 : decode cX9_countHolds 5 = .ok (.iload_n 3, 1) := by decide +kernel
theorem dX9_countHolds_6 : decode cX9_countHolds 6 = .ok (.ifCond .lt 9, 3) := by decide +kernel
theorem dX9_countHolds_9 : decode cX9_countHolds 9 = .ok (.iload_n 3, 1) := by decide +kernel
theorem dX9_countHolds_10 : decode cX9_countHolds 10 = .ok (.bipush 6, 2) := by decide +kernel
theorem dX9_countHolds_12 : decode cX9_countHolds 12 = .ok (.if_icmp .lt 5, 3) := by decide +kernel
theorem dX9_countHolds_15 : decode cX9_countHolds 15 = .ok (.iconst 0, 1) := by decide +kernel
theorem dX9_countHolds_16 : decode cX9_countHolds 16 = .ok (.ireturn, 1) := by decide +kernel
theorem dX9_countHolds_17 : decode cX9_countHolds 17 = .ok (.aload_n 0, 1) := by decide +kernel
theorem dX9_countHolds_18 : decode cX9_countHolds 18 = .ok (.getfield 28, 3) := by decide +kernel
theorem dX9_countHolds_21 : decode cX9_countHolds 21 = .ok (.iload_n 3, 1) := by decide +kernel
theorem dX9_countHolds_22 : decode cX9_countHolds 22 = .ok (.iaload, 1) := by decide +kernel
theorem dX9_countHolds_23 : decode cX9_countHolds 23 = .ok (.iload_n 2, 1) := by decide +kernel
theorem dX9_countHolds_24 : decode cX9_countHolds 24 = .ok (.aload_n 0, 1) := by decide +kernel
theorem dX9_countHolds_25 : decode cX9_countHolds 25 = .ok (.getfield 25, 3) := by decide +kernel
theorem dX9_countHolds_28 : decode cX9_countHolds 28 = .ok (.iload_n 3, 1) := by decide +kernel
theorem dX9_countHolds_29 : decode cX9_countHolds 29 = .ok (.iaload, 1) := by decide +kernel
theorem dX9_countHolds_30 : decode cX9_countHolds 30 = .ok (.iand, 1) := by decide +kernel
theorem dX9_countHolds_31 : decode cX9_countHolds 31 = .ok (.invokestatic 204, 3) := by decide +kernel
theorem dX9_countHolds_34 : decode cX9_countHolds 34 = .ok (.iadd, 1) := by decide +kernel
theorem dX9_countHolds_35 : decode cX9_countHolds 35 = .ok (.istore 4, 2) := by decide +kernel
theorem dX9_countHolds_37 : decode cX9_countHolds 37 = .ok (.aload_n 1, 1) := by decide +kernel
theorem dX9_countHolds_38 : decode cX9_countHolds 38 = .ok (.getfield 139, 3) := by decide +kernel
theorem dX9_countHolds_41 : decode cX9_countHolds 41 = .ok (.bipush 103, 2) := by decide +kernel
theorem dX9_countHolds_43 : decode cX9_countHolds 43 = .ok (.if_icmp .ne 20, 3) := by decide +kernel
theorem dX9_countHolds_46 : decode cX9_countHolds 46 = .ok (.iload 4, 2) := by decide +kernel
theorem dX9_countHolds_48 : decode cX9_countHolds 48 = .ok (.aload_n 1, 1) := by decide +kernel
theorem dX9_countHolds_49 : decode cX9_countHolds 49 = .ok (.getfield 263, 3) := by decide +kernel
theorem dX9_countHolds_52 : decode cX9_countHolds 52 = .ok (.if_icmp .lt 7, 3) := by decide +kernel
theorem dX9_countHolds_55 : decode cX9_countHolds 55 = .ok (.iconst 1, 1) := by decide +kernel
theorem dX9_countHolds_56 : decode cX9_countHolds 56 = .ok (.goto 21, 3) := by decide +kernel
theorem dX9_countHolds_59 : decode cX9_countHolds 59 = .ok (.iconst 0, 1) := by decide +kernel
theorem dX9_countHolds_60 : decode cX9_countHolds 60 = .ok (.goto 17, 3) := by decide +kernel
theorem dX9_countHolds_63 : decode cX9_countHolds 63 = .ok (.iload 4, 2) := by decide +kernel
theorem dX9_countHolds_65 : decode cX9_countHolds 65 = .ok (.aload_n 1, 1) := by decide +kernel
theorem dX9_countHolds_66 : decode cX9_countHolds 66 = .ok (.getfield 263, 3) := by decide +kernel
theorem dX9_countHolds_69 : decode cX9_countHolds 69 = .ok (.if_icmp .gt 7, 3) := by decide +kernel
theorem dX9_countHolds_72 : decode cX9_countHolds 72 = .ok (.iconst 1, 1) := by decide +kernel
theorem dX9_countHolds_73 : decode cX9_countHolds 73 = .ok (.goto 4, 3) := by decide +kernel
theorem dX9_countHolds_76 : decode cX9_countHolds 76 = .ok (.iconst 0, 1) := by decide +kernel
theorem dX9_countHolds_77 : decode cX9_countHolds 77 = .ok (.ireturn, 1) := by decide +kernel
def wW_k_X9_countHolds (ty : Nat → ClassId) (X : Nat → Nat) (z9_0 : Int32) (z9_1 : Int32) (z9_2 : Int32) (z9_3 : Int32) (z9_4 : Int32) (z9_5 : Int32) (z9_6 : Int32) (z9_7 : Int32) (z9_8 : Int32) (z9_9 : Nat → Int32) (z9_10 : Nat → Int32) : va_W := [((X 20), .inr (11, [.ref (X 1), .ref (X 8), .ref (X 21), .ref (X 28), .ref (X 35), .int z9_0, .ref (X 36), .ref (X 37), .ref (X 38), .int z9_1, .int z9_2, .int z9_3, .int z9_4, .int z9_5, .int z9_6, .int z9_7, .int z9_8])), ((X 36), .inl (ty 0, 6, .inl z9_9)), ((X 37), .inl (ty 0, 6, .inl z9_10))]
def vs_k_X9_countHolds : List Cond := .code yX9_countHolds cX9_countHolds 5 (some .boolean) :: ([.fieldLink RX9 28 "AnswerFold$Solver" "sureCounts" "[I", .fieldLink RX9 25 "AnswerFold$Solver" "openBits" "[I", .methodLink RX9 204 yJ6_bitCount_0f7a4, .static yJ6_bitCount_0f7a4, .initialized RJ6] ++ (u_ws RX4 TX4 8 ++ (u_ws RX9 TX9 17 ++ (vs_k_J6_bitCount_0f7a4))))
theorem iv_k_X9_countHolds_X4 : ∀ w ∈ u_ws RX4 TX4 8, w ∈ vs_k_X9_countHolds := (fun _ h => List.mem_cons_of_mem _ (List.mem_append_right _ (List.mem_append_left _ h)))
theorem iv_k_X9_countHolds_X9 : ∀ w ∈ u_ws RX9 TX9 17, w ∈ vs_k_X9_countHolds := (fun _ h => List.mem_cons_of_mem _ (List.mem_append_right _ (List.mem_append_right _ (List.mem_append_left _ h))))
set_option maxRecDepth 20000 in
theorem gv_k_X9_countHolds_0 : GoodIn vs_k_X9_countHolds (va_wsS RX9 204 yJ6_bitCount_0f7a4 vs_k_J6_bitCount_0f7a4) := goodIn_app (goodIn_sub (by decide +kernel) (by decide +kernel)) (goodIn_sub (fun _ h => List.mem_cons_of_mem _ (List.mem_append_right _ (List.mem_append_right _ (List.mem_append_right _ (h))))) (by decide +kernel))
set_option maxHeartbeats 4000000 in
set_option maxRecDepth 100000 in
theorem k_X9_countHolds (l : Launch) (D : va_G) (ty : Nat → ClassId) (td mi sz : Nat) (pp : pT) (X : Nat → Nat) (an : Int32) (ch : Int32) (cg : Int32) (fb : Int32) (mh : Int32) (ml : Int32) (ih : Int32) (lb : Int32) (ic : Int32) (obi : Nat → Int32) (sc : Nat → Int32) (a0 : Nat) (a1 : Int32) (hok : pOK pp) (hm_a0 : a0 ∈ pLA pp) (TT : r_k_X9_countHolds) (hTT : TT = m_k_X9_countHolds pp obi sc a0 a1) : Met l yX9_countHolds vs_k_X9_countHolds { frames := 1, cells := 0, slots := 0, locals := 20 } (va_Pc [.ref (X 20), .ref a0, .int a1] (wq_P D ty td mi ((wW_k_X9_countHolds ty X an ch cg fb mh ml ih lb ic obi sc) ++ pw ty pp) sz)) (va_Qi (fun (r : Int32) (u : va_W) => (r = TT ∧ (TT = 0 ∨ TT = 1) ∧ (u = ((wW_k_X9_countHolds ty X an ch cg fb mh ml ih lb ic obi sc) ++ pw ty pp)))) (wq_B D (va_A ((wW_k_X9_countHolds ty X an ch cg fb mh ml ih lb ic obi sc) ++ pw ty pp) sz)) (va_A ((wW_k_X9_countHolds ty X an ch cg fb mh ml ih lb ic obi sc) ++ pw ty pp) sz)) 0 0 (va_A ((wW_k_X9_countHolds ty X an ch cg fb mh ml ih lb ic obi sc) ++ pw ty pp) sz) := by
  refine Met.ofW (cc := cX9_countHolds) (maxL := 5) (ret := (some .boolean)) (by decide) rfl ?_
  intro p e s m args below meth c s₁ B hml hv
  obtain ⟨rfl, hsz, hP, hK, hD0, hE⟩ := hv
  have hx := B.exec
  have hb := B.bytes
  have hr := B.returns
  have hts := atoms_spec (ws := vs_k_X9_countHolds) B.pre
  have hown : s.vm.findClass RX9 = some m.cls := findClass_of_methodNamed B.named
  have hlocks := B.notSynchronized
  subst hsz
  have hD := hD0.self (sz := s.heap.size)
  generalize hAe : va_A ((wW_k_X9_countHolds ty X an ch cg fb mh ml ih lb ic obi sc) ++ pw ty pp) s.heap.size = A at hD hE ⊢
  have hA : ∀ q : Nat, s.heap.size ≤ q → A q := fun q h => by rw [← hAe]; exact Or.inr h
  have hS : va_S A s.heap s.heap [] := va_S.rf
  have hP : va_P D vwCl ((wW_k_X9_countHolds ty X an ch cg fb mh ml ih lb ic obi sc) ++ pw ty pp) s.heap := hP
  have hl := lv_entry ([.ref (X 20), .ref a0, .int a1]) (n := 5) (Nat.le_of_ble_eq_true rfl)
  rw [lg_entry_eq]
  generalize (lg_sl ([.ref (X 20), .ref a0, .int a1]) ++ List.replicate (5 - (lg_sl ([.ref (X 20), .ref a0, .int a1])).length) Slot.unset).toArray = ls at hl ⊢
  have hl : lv_has ls 5 [(0, .ref (X 20)), (1, .ref a0), (2, .int a1)] := hl
  have END : ∀ (r : Int32), TT = r → (r = 0 ∨ r = 1) → ∀ (H : Heap) (locs : List Loc), va_P D vwCl ((wW_k_X9_countHolds ty X an ch cg fb mh ml ih lb ic obi sc) ++ pw ty pp) H → va_D A ((wW_k_X9_countHolds ty X an ch cg fb mh ml ih lb ic obi sc) ++ pw ty pp) → va_S A s.heap H locs → ∀ (ls : Array Slot) (pc : Nat), decode cX9_countHolds pc = .ok (.ireturn, 1) → W p l e (headSpec vs_k_X9_countHolds { frames := 1, cells := 0, slots := 0, locals := 20 }).room s m ([.ref (X 20), .ref a0, .int a1] : List Value).toArray below meth c H locs 0 0 (MQ below (va_Qi (fun (r : Int32) (u : va_W) => (r = TT ∧ (TT = 0 ∨ TT = 1) ∧ (u = ((wW_k_X9_countHolds ty X an ch cg fb mh ml ih lb ic obi sc) ++ pw ty pp)))) (wq_B D A) A) ([.ref (X 20), .ref a0, .int a1] : List Value).toArray s 0 0 A) (F0 m pc ls [.int r]) := by
    intro r hT hb01 H locs hP hD hS ls pc hd
    have hM : TT = r := hT
    exact W.zret (v := r) hx hb hr (wz_nar hb01) (fun t ht hW => ⟨⟨r, ((wW_k_X9_countHolds ty X an ch cg fb mh ml ih lb ic obi sc) ++ pw ty pp), rfl, ⟨(by rw [hM]), (by rw [hM]; exact hb01), rfl⟩, wq_B.of ht hP hD⟩, hS.F ht⟩) hS.2.2 hd
  have hT := hTT
  rw [m_k_X9_countHolds] at hT
  refine lv_aload_n hx hb dX9_countHolds_0 rfl (lv_at hl 1 rfl) ?_
  obtain ⟨k_1, hk_1⟩ := List.getElem?_of_mem (pw_lit (ty := ty) (p := pp) (L := [((X 20), .inr (11, [.ref (X 1), .ref (X 8), .ref (X 21), .ref (X 28), .ref (X 35), .int an, .ref (X 36), .ref (X 37), .ref (X 38), .int ch, .int cg, .int fb, .int mh, .int ml, .int ih, .int lb, .int ic])), ((X 36), .inl (ty 0, 6, .inl obi)), ((X 37), .inl (ty 0, 6, .inl sc))]) hm_a0)
  refine va_getN (D := D) (ci := 6) (v := .int (pI pp a0 1)) (C := RX4) (T := TX4) (N := 8) hx hb hts iv_k_X9_countHolds_X4 hown hK hP k_1 hk_1 rfl 1 (by decide) (hE.at (.fieldLinkNest "AnswerFold$Solver" 260 "AnswerFold$Literal" "predicate" "I" "AnswerFold") (by decide +kernel)) (fun _ h9 => h9) rfl dX9_countHolds_1 ?_
  refine lv_istore_n (lv' := [(3, .int (pI pp a0 1)), (0, .ref (X 20)), (1, .ref a0), (2, .int a1)]) hx hb dX9_countHolds_4 rfl hl (by decide) rfl (fun ls hl => ?_)
  refine lv_iload_n hx hb dX9_countHolds_5 rfl (lv_at hl 0 rfl) ?_
  refine lv_if_lt (tgt := 15) hx hb dX9_countHolds_6 (by decide) (fun c_2 => ?_) (fun c_2 => ?_)
  · rw [if_pos c_2] at hT
    refine lv_iconst (v := 0) hx hb dX9_countHolds_15 (by decide) ?_
    exact END 0 hT (by decide) _ _ hP hD hS _ _ dX9_countHolds_16
  · rw [if_neg c_2] at hT
    refine lv_iload_n hx hb dX9_countHolds_9 rfl (lv_at hl 0 rfl) ?_
    refine lv_bipush (v := 6) hx hb dX9_countHolds_10 (by decide) ?_
    refine lv_icmp_lt (tgt := 17) hx hb dX9_countHolds_12 (by decide) (fun c_3 => ?_) (fun c_3 => ?_)
    · rw [if_pos c_3] at hT
      refine lv_aload_n hx hb dX9_countHolds_17 rfl (lv_at hl 1 rfl) ?_
      refine va_get (D := D) (ci := 11) (v := .ref (X 37)) (C := RX9) (T := TX9) (N := 17) hx hb hts iv_k_X9_countHolds_X9 hown hK hP 0 rfl rfl 7 (by decide) (hts (.fieldLink RX9 28 "AnswerFold$Solver" "sureCounts" "[I") (by decide +kernel)) (fun _ h9 => h9) rfl dX9_countHolds_18 ?_
      refine lv_iload_n hx hb dX9_countHolds_21 rfl (lv_at hl 0 rfl) ?_
      refine va_iald (D := D) hx hb hK hP 2 0 rfl rfl (wi_in (wi_lo c_2) (wi_hi (Int32.not_le.mpr c_3) (by decide))) dX9_countHolds_22 ?_
      refine lv_iload_n hx hb dX9_countHolds_23 rfl (lv_at hl 3 rfl) ?_
      refine lv_aload_n hx hb dX9_countHolds_24 rfl (lv_at hl 1 rfl) ?_
      refine va_get (D := D) (ci := 11) (v := .ref (X 36)) (C := RX9) (T := TX9) (N := 17) hx hb hts iv_k_X9_countHolds_X9 hown hK hP 0 rfl rfl 6 (by decide) (hts (.fieldLink RX9 25 "AnswerFold$Solver" "openBits" "[I") (by decide +kernel)) (fun _ h9 => h9) rfl dX9_countHolds_25 ?_
      refine lv_iload_n hx hb dX9_countHolds_28 rfl (lv_at hl 0 rfl) ?_
      refine va_iald (D := D) hx hb hK hP 1 0 rfl rfl (wi_in (wi_lo c_2) (wi_hi (Int32.not_le.mpr c_3) (by decide))) dX9_countHolds_29 ?_
      refine lv_iand hx hb dX9_countHolds_30 ?_
      obtain ⟨t_31, ht_31⟩ : ∃ t, t = m_k_J6_bitCount_0f7a4 (a1 &&& (obi (pI pp a0 1).toNatClampNeg)) := ⟨_, rfl⟩
      rw [lE_eq ht_31] at hT
      refine wq_iQW (wc := []) (pl := pw ty pp) (va_runS (As := [.int (a1 &&& (obi (pI pp a0 1).toNatClampNeg))]) (rest := [.int (sc (pI pp a0 1).toNatClampNeg)]) ⟨hx, hb, hml, hown, hts⟩ (k_J6_bitCount_0f7a4 l D ty td mi s.heap.size (a1 &&& (obi (pI pp a0 1).toNatClampNeg)) t_31 ht_31) (va_cwS 1 hts gv_k_X9_countHolds_0 rfl rfl rfl (by decide +kernel) ⟨(Nat.le_of_ble_eq_true rfl), (Nat.le_of_ble_eq_true rfl)⟩) (wm_preS (vP_left hP) (vD_left hD) hK hE hS hA [] rfl) rfl rfl hl.1 rfl (lv_room (Nat.le_of_ble_eq_true rfl)) dX9_countHolds_31 ⟨(Nat.le_of_ble_eq_true rfl), (Nat.le_of_ble_eq_true rfl)⟩) hS hA hP hD [] rfl (fun _ _ h => by rcases h with ⟨-, rfl⟩; rfl) (fun r u H locs hw hP hD hS => ?_)
      obtain ⟨hr0, rfl⟩ := hw
      subst r
      have hP : va_P D vwCl ((wW_k_X9_countHolds ty X an ch cg fb mh ml ih lb ic obi sc) ++ pw ty pp) H := hP
      have hD : va_D A ((wW_k_X9_countHolds ty X an ch cg fb mh ml ih lb ic obi sc) ++ pw ty pp) := hD
      refine W.widen (k := 0) (n := 0) (Nat.le_of_ble_eq_true rfl) (Nat.le_of_ble_eq_true rfl) ?_
      refine lv_iadd hx hb dX9_countHolds_34 ?_
      refine lv_istore (lv' := [(4, .int ((sc (pI pp a0 1).toNatClampNeg) + t_31)), (3, .int (pI pp a0 1)), (0, .ref (X 20)), (1, .ref a0), (2, .int a1)]) hx hb dX9_countHolds_35 hl (by decide) rfl (fun ls hl => ?_)
      refine lv_aload_n hx hb dX9_countHolds_37 rfl (lv_at hl 3 rfl) ?_
      obtain ⟨k_6, hk_6⟩ := List.getElem?_of_mem (pw_lit (ty := ty) (p := pp) (L := [((X 20), .inr (11, [.ref (X 1), .ref (X 8), .ref (X 21), .ref (X 28), .ref (X 35), .int an, .ref (X 36), .ref (X 37), .ref (X 38), .int ch, .int cg, .int fb, .int mh, .int ml, .int ih, .int lb, .int ic])), ((X 36), .inl (ty 0, 6, .inl obi)), ((X 37), .inl (ty 0, 6, .inl sc))]) hm_a0)
      refine va_getN (D := D) (ci := 6) (v := .int (pI pp a0 0)) (C := RX4) (T := TX4) (N := 8) hx hb hts iv_k_X9_countHolds_X4 hown hK hP k_6 hk_6 rfl 0 (by decide) (hE.at (.fieldLinkNest "AnswerFold$Solver" 139 "AnswerFold$Literal" "kind" "C" "AnswerFold") (by decide +kernel)) (fun _ h9 => h9) rfl dX9_countHolds_38 ?_
      refine lv_bipush (v := 103) hx hb dX9_countHolds_41 (by decide) ?_
      refine lv_icmp_ne (tgt := 63) hx hb dX9_countHolds_43 (by decide) (fun c_7 => ?_) (fun c_7 => ?_)
      · rw [if_neg c_7] at hT
        refine lv_iload hx hb dX9_countHolds_63 (lv_at hl 0 rfl) ?_
        refine lv_aload_n hx hb dX9_countHolds_65 rfl (lv_at hl 3 rfl) ?_
        obtain ⟨k_8, hk_8⟩ := List.getElem?_of_mem (pw_lit (ty := ty) (p := pp) (L := [((X 20), .inr (11, [.ref (X 1), .ref (X 8), .ref (X 21), .ref (X 28), .ref (X 35), .int an, .ref (X 36), .ref (X 37), .ref (X 38), .int ch, .int cg, .int fb, .int mh, .int ml, .int ih, .int lb, .int ic])), ((X 36), .inl (ty 0, 6, .inl obi)), ((X 37), .inl (ty 0, 6, .inl sc))]) hm_a0)
        refine va_getN (D := D) (ci := 6) (v := .int (pI pp a0 2)) (C := RX4) (T := TX4) (N := 8) hx hb hts iv_k_X9_countHolds_X4 hown hK hP k_8 hk_8 rfl 2 (by decide) (hE.at (.fieldLinkNest "AnswerFold$Solver" 263 "AnswerFold$Literal" "bound" "I" "AnswerFold") (by decide +kernel)) (fun _ h9 => h9) rfl dX9_countHolds_66 ?_
        refine lv_icmp_gt (tgt := 76) hx hb dX9_countHolds_69 (by decide) (fun c_9 => ?_) (fun c_9 => ?_)
        · rw [if_pos c_9] at hT
          refine lv_iconst (v := 0) hx hb dX9_countHolds_76 (by decide) ?_
          exact END 0 hT (by decide) _ _ hP hD hS _ _ dX9_countHolds_77
        · rw [if_neg c_9] at hT
          refine lv_iconst (v := 1) hx hb dX9_countHolds_72 (by decide) ?_
          refine lv_goto (tgt := 77) hx hb dX9_countHolds_73 (by decide) ?_
          exact END 1 hT (by decide) _ _ hP hD hS _ _ dX9_countHolds_77
      · rw [if_pos c_7] at hT
        refine lv_iload hx hb dX9_countHolds_46 (lv_at hl 0 rfl) ?_
        refine lv_aload_n hx hb dX9_countHolds_48 rfl (lv_at hl 3 rfl) ?_
        obtain ⟨k_10, hk_10⟩ := List.getElem?_of_mem (pw_lit (ty := ty) (p := pp) (L := [((X 20), .inr (11, [.ref (X 1), .ref (X 8), .ref (X 21), .ref (X 28), .ref (X 35), .int an, .ref (X 36), .ref (X 37), .ref (X 38), .int ch, .int cg, .int fb, .int mh, .int ml, .int ih, .int lb, .int ic])), ((X 36), .inl (ty 0, 6, .inl obi)), ((X 37), .inl (ty 0, 6, .inl sc))]) hm_a0)
        refine va_getN (D := D) (ci := 6) (v := .int (pI pp a0 2)) (C := RX4) (T := TX4) (N := 8) hx hb hts iv_k_X9_countHolds_X4 hown hK hP k_10 hk_10 rfl 2 (by decide) (hE.at (.fieldLinkNest "AnswerFold$Solver" 263 "AnswerFold$Literal" "bound" "I" "AnswerFold") (by decide +kernel)) (fun _ h9 => h9) rfl dX9_countHolds_49 ?_
        refine lv_icmp_lt (tgt := 59) hx hb dX9_countHolds_52 (by decide) (fun c_11 => ?_) (fun c_11 => ?_)
        · rw [if_pos c_11] at hT
          refine lv_iconst (v := 0) hx hb dX9_countHolds_59 (by decide) ?_
          refine lv_goto (tgt := 77) hx hb dX9_countHolds_60 (by decide) ?_
          exact END 0 hT (by decide) _ _ hP hD hS _ _ dX9_countHolds_77
        · rw [if_neg c_11] at hT
          refine lv_iconst (v := 1) hx hb dX9_countHolds_55 (by decide) ?_
          refine lv_goto (tgt := 77) hx hb dX9_countHolds_56 (by decide) ?_
          exact END 1 hT (by decide) _ _ hP hD hS _ _ dX9_countHolds_77
    · rw [if_neg c_3] at hT
      refine lv_iconst (v := 0) hx hb dX9_countHolds_15 (by decide) ?_
      exact END 0 hT (by decide) _ _ hP hD hS _ _ dX9_countHolds_16
theorem dX9_isChoice_0 : decode cX9_isChoice 0 = .ok (.aload_n 0, 1) := by decide +kernel
theorem dX9_isChoice_1 : decode cX9_isChoice 1 = .ok (.getfield 12, 3) := by decide +kernel
theorem dX9_isChoice_4 : decode cX9_isChoice 4 = .ok (.iload_n 1, 1) := by decide +kernel
theorem dX9_isChoice_5 : decode cX9_isChoice 5 = .ok (.invokevirtual 285, 3) := by decide +kernel
theorem dX9_isChoice_8 : decode cX9_isChoice 8 = .ok (.istore_n 2, 1) := by decide +kernel
theorem dX9_isChoice_9 : decode cX9_isChoice 9 = .ok (.iload_n 2, 1) := by decide +kernel
theorem dX9_isChoice_10 : decode cX9_isChoice 10 = .ok (.ifCond .lt 18, 3) := by decide +kernel
theorem dX9_isChoice_13 : decode cX9_isChoice 13 = .ok (.aload_n 0, 1) := by decide +kernel
theorem dX9_isChoice_14 : decode cX9_isChoice 14 = .ok (.getfield 106, 3) := by decide +kernel
theorem dX9_isChoice_17 : decode cX9_isChoice 17 = .ok (.iload_n 2, 1) := by decide +kernel
theorem dX9_isChoice_18 : decode cX9_isChoice 18 = .ok (.ishr, 1) := by decide +kernel
theorem dX9_isChoice_19 : decode cX9_isChoice 19 = .ok (.iconst 1, 1) := by decide +kernel
theorem dX9_isChoice_20 : decode cX9_isChoice 20 = .ok (.iand, 1) := by decide +kernel
theorem dX9_isChoice_21 : decode cX9_isChoice 21 = .ok (.ifCond .eq 7, 3) := by decide +kernel
theorem dX9_isChoice_24 : decode cX9_isChoice 24 = .ok (.iconst 1, 1) := by decide +kernel
theorem dX9_isChoice_25 : decode cX9_isChoice 25 = .ok (.goto 4, 3) := by decide +kernel
theorem dX9_isChoice_28 : decode cX9_isChoice 28 = .ok (.iconst 0, 1) := by decide +kernel
theorem dX9_isChoice_29 : decode cX9_isChoice 29 = .ok (.ireturn, 1) := by decide +kernel
def wW_k_X9_isChoice (ty : Nat → ClassId) (X : Nat → Nat) (z9_0 : Int32) (z9_1 : Int32) (z9_2 : Int32) (z9_3 : Int32) (z9_4 : Int32) (z9_5 : Int32) (z9_6 : Int32) (z9_7 : Int32) (z9_8 : Int32) (z9_9 : Int32) (z9_10 : Nat → Int32) : va_W := [((X 20), .inr (11, [.ref (X 1), .ref (X 8), .ref (X 21), .ref (X 28), .ref (X 35), .int z9_0, .ref (X 36), .ref (X 37), .ref (X 38), .int z9_1, .int z9_2, .int z9_3, .int z9_4, .int z9_5, .int z9_6, .int z9_7, .int z9_8])), ((X 21), .inr (9, [.ref (X 22), .ref (X 23), .ref (X 24), .ref (X 25), .ref (X 26), .ref (X 27), .int z9_9])), ((X 22), .inl (ty 0, 300, .inl z9_10))]
def vs_k_X9_isChoice : List Cond := .code yX9_isChoice cX9_isChoice 3 (some .boolean) :: ([.fieldLink RX9 12 "AnswerFold$Solver" "checks" "LAnswerFold$Rows;", .methodLink RX9 285 yX7_ruleAt, .instanceMethod yX7_ruleAt, .selects RX7 yX7_ruleAt yX7_ruleAt, .initialized RX7, .fieldLink RX9 106 "AnswerFold$Solver" "choices" "I"] ++ (u_ws RX9 TX9 17 ++ (vs_k_X7_ruleAt)))
theorem iv_k_X9_isChoice_X9 : ∀ w ∈ u_ws RX9 TX9 17, w ∈ vs_k_X9_isChoice := (fun _ h => List.mem_cons_of_mem _ (List.mem_append_right _ (List.mem_append_left _ h)))
set_option maxRecDepth 20000 in
theorem gv_k_X9_isChoice_0 : GoodIn vs_k_X9_isChoice (wsV RX9 285 RX7 yX7_ruleAt vs_k_X7_ruleAt) := goodIn_app (goodIn_sub (by decide +kernel) (by decide +kernel)) (goodIn_sub (fun _ h => List.mem_cons_of_mem _ (List.mem_append_right _ (List.mem_append_right _ (h)))) (by decide +kernel))
set_option maxHeartbeats 4000000 in
set_option maxRecDepth 100000 in
theorem k_X9_isChoice (l : Launch) (D : va_G) (ty : Nat → ClassId) (td mi sz : Nat) (X : Nat → Nat) (an : Int32) (ch : Int32) (cg : Int32) (fb : Int32) (mh : Int32) (ml : Int32) (ih : Int32) (lb : Int32) (ic : Int32) (cn : Int32) (c1 : Nat → Int32) (a1 : Int32) (TT : r_k_X9_isChoice) (hTT : TT = m_k_X9_isChoice ch c1 a1) : Met l yX9_isChoice vs_k_X9_isChoice { frames := 1, cells := 0, slots := 0, locals := 21 } (va_Pc [.ref (X 20), .int a1] (wq_P D ty td mi (wW_k_X9_isChoice ty X an ch cg fb mh ml ih lb ic cn c1) sz)) (va_Qi (fun (r : Int32) (u : va_W) => (r = TT ∧ (TT = 0 ∨ TT = 1) ∧ (u = (wW_k_X9_isChoice ty X an ch cg fb mh ml ih lb ic cn c1)))) (wq_B D (va_A (wW_k_X9_isChoice ty X an ch cg fb mh ml ih lb ic cn c1) sz)) (va_A (wW_k_X9_isChoice ty X an ch cg fb mh ml ih lb ic cn c1) sz)) 0 0 (va_A (wW_k_X9_isChoice ty X an ch cg fb mh ml ih lb ic cn c1) sz) := by
  refine Met.ofW (cc := cX9_isChoice) (maxL := 3) (ret := (some .boolean)) (by decide) rfl ?_
  intro p e s m args below meth c s₁ B hml hv
  obtain ⟨rfl, hsz, hP, hK, hD0, hE⟩ := hv
  have hx := B.exec
  have hb := B.bytes
  have hr := B.returns
  have hts := atoms_spec (ws := vs_k_X9_isChoice) B.pre
  have hown : s.vm.findClass RX9 = some m.cls := findClass_of_methodNamed B.named
  have hlocks := B.notSynchronized
  subst hsz
  have hD := hD0.self (sz := s.heap.size)
  generalize hAe : va_A (wW_k_X9_isChoice ty X an ch cg fb mh ml ih lb ic cn c1) s.heap.size = A at hD hE ⊢
  have hA : ∀ q : Nat, s.heap.size ≤ q → A q := fun q h => by rw [← hAe]; exact Or.inr h
  have hS : va_S A s.heap s.heap [] := va_S.rf
  have hP : va_P D vwCl (wW_k_X9_isChoice ty X an ch cg fb mh ml ih lb ic cn c1) s.heap := hP
  have hl := lv_entry ([.ref (X 20), .int a1]) (n := 3) (Nat.le_of_ble_eq_true rfl)
  rw [lg_entry_eq]
  generalize (lg_sl ([.ref (X 20), .int a1]) ++ List.replicate (3 - (lg_sl ([.ref (X 20), .int a1])).length) Slot.unset).toArray = ls at hl ⊢
  have hl : lv_has ls 3 [(0, .ref (X 20)), (1, .int a1)] := hl
  have END : ∀ (r : Int32), TT = r → (r = 0 ∨ r = 1) → ∀ (H : Heap) (locs : List Loc), va_P D vwCl (wW_k_X9_isChoice ty X an ch cg fb mh ml ih lb ic cn c1) H → va_D A (wW_k_X9_isChoice ty X an ch cg fb mh ml ih lb ic cn c1) → va_S A s.heap H locs → ∀ (ls : Array Slot) (pc : Nat), decode cX9_isChoice pc = .ok (.ireturn, 1) → W p l e (headSpec vs_k_X9_isChoice { frames := 1, cells := 0, slots := 0, locals := 21 }).room s m ([.ref (X 20), .int a1] : List Value).toArray below meth c H locs 0 0 (MQ below (va_Qi (fun (r : Int32) (u : va_W) => (r = TT ∧ (TT = 0 ∨ TT = 1) ∧ (u = (wW_k_X9_isChoice ty X an ch cg fb mh ml ih lb ic cn c1)))) (wq_B D A) A) ([.ref (X 20), .int a1] : List Value).toArray s 0 0 A) (F0 m pc ls [.int r]) := by
    intro r hT hb01 H locs hP hD hS ls pc hd
    have hM : TT = r := hT
    exact W.zret (v := r) hx hb hr (wz_nar hb01) (fun t ht hW => ⟨⟨r, (wW_k_X9_isChoice ty X an ch cg fb mh ml ih lb ic cn c1), rfl, ⟨(by rw [hM]), (by rw [hM]; exact hb01), rfl⟩, wq_B.of ht hP hD⟩, hS.F ht⟩) hS.2.2 hd
  have hT := hTT
  rw [m_k_X9_isChoice] at hT
  refine lv_aload_n hx hb dX9_isChoice_0 rfl (lv_at hl 0 rfl) ?_
  refine va_get (D := D) (ci := 11) (v := .ref (X 21)) (C := RX9) (T := TX9) (N := 17) hx hb hts iv_k_X9_isChoice_X9 hown hK hP 0 rfl rfl 2 (by decide) (hts (.fieldLink RX9 12 "AnswerFold$Solver" "checks" "LAnswerFold$Rows;") (by decide +kernel)) (fun _ h9 => h9) rfl dX9_isChoice_1 ?_
  refine lv_iload_n hx hb dX9_isChoice_4 rfl (lv_at hl 1 rfl) ?_
  obtain ⟨t_5, ht_5⟩ : ∃ t, t = m_k_X7_ruleAt c1 a1 := ⟨_, rfl⟩
  rw [lE_eq ht_5] at hT
  refine wq_iW (wc := (wW_k_X7_ruleAt ty (X 21) (X 22) (X 23) (X 24) (X 25) (X 26) (X 27) cn c1)) (va_runV (As := [.int a1]) (rest := []) ⟨hx, hb, hml, hown, hts⟩ (k_X7_ruleAt l D ty td mi s.heap.size (X 21) (X 22) (X 23) (X 24) (X 25) (X 26) (X 27) cn c1 a1 t_5 ht_5) (cwV 1 hts gv_k_X9_isChoice_0 rfl rfl rfl (by decide +kernel) ⟨(Nat.le_of_ble_eq_true rfl), (Nat.le_of_ble_eq_true rfl)⟩) (wm_V (wm_preS hP hD hK hE hS hA [false, true, true] rfl) (va_recv (q0 := 1) (ci := 9) hK hP rfl rfl)) rfl rfl hl.1 rfl (lv_room (Nat.le_of_ble_eq_true rfl)) dX9_isChoice_5 ⟨(Nat.le_of_ble_eq_true rfl), (Nat.le_of_ble_eq_true rfl)⟩) hS hA hP hD [false, true, true] rfl (fun _ _ h => by rcases h with ⟨-, rfl⟩; rfl) (fun r u H locs hw hP hD hS => ?_)
  obtain ⟨hr0, rfl⟩ := hw
  subst r
  have hP : va_P D vwCl (wW_k_X9_isChoice ty X an ch cg fb mh ml ih lb ic cn c1) H := hP
  have hD : va_D A (wW_k_X9_isChoice ty X an ch cg fb mh ml ih lb ic cn c1) := hD
  refine W.widen (k := 0) (n := 0) (Nat.le_of_ble_eq_true rfl) (Nat.le_of_ble_eq_true rfl) ?_
  refine lv_istore_n (lv' := [(2, .int t_5), (0, .ref (X 20)), (1, .int a1)]) hx hb dX9_isChoice_8 rfl hl (by decide) rfl (fun ls hl => ?_)
  refine lv_iload_n hx hb dX9_isChoice_9 rfl (lv_at hl 0 rfl) ?_
  refine lv_if_lt (tgt := 28) hx hb dX9_isChoice_10 (by decide) (fun c_3 => ?_) (fun c_3 => ?_)
  · rw [if_pos c_3] at hT
    refine lv_iconst (v := 0) hx hb dX9_isChoice_28 (by decide) ?_
    exact END 0 hT (by decide) _ _ hP hD hS _ _ dX9_isChoice_29
  · rw [if_neg c_3] at hT
    refine lv_aload_n hx hb dX9_isChoice_13 rfl (lv_at hl 1 rfl) ?_
    refine va_get (D := D) (ci := 11) (v := .int ch) (C := RX9) (T := TX9) (N := 17) hx hb hts iv_k_X9_isChoice_X9 hown hK hP 0 rfl rfl 9 (by decide) (hts (.fieldLink RX9 106 "AnswerFold$Solver" "choices" "I") (by decide +kernel)) (fun _ h9 => h9) rfl dX9_isChoice_14 ?_
    refine lv_iload_n hx hb dX9_isChoice_17 rfl (lv_at hl 0 rfl) ?_
    refine lv_ishr hx hb dX9_isChoice_18 ?_
    refine lv_iconst (v := 1) hx hb dX9_isChoice_19 (by decide) ?_
    refine lv_iand hx hb dX9_isChoice_20 ?_
    refine lv_if_eq (tgt := 28) hx hb dX9_isChoice_21 (by decide) (fun c_4 => ?_) (fun c_4 => ?_)
    · rw [if_pos c_4] at hT
      refine lv_iconst (v := 0) hx hb dX9_isChoice_28 (by decide) ?_
      exact END 0 hT (by decide) _ _ hP hD hS _ _ dX9_isChoice_29
    · rw [if_neg c_4] at hT
      refine lv_iconst (v := 1) hx hb dX9_isChoice_24 (by decide) ?_
      refine lv_goto (tgt := 29) hx hb dX9_isChoice_25 (by decide) ?_
      exact END 1 hT (by decide) _ _ hP hD hS _ _ dX9_isChoice_29
