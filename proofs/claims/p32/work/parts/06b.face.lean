theorem dX10_forgetGrounding_0 : decode cX10_forgetGrounding 0 = .ok (.aload_n 0, 1) := by decide +kernel
theorem dX10_forgetGrounding_1 : decode cX10_forgetGrounding 1 = .ok (.getfield 21, 3) := by decide +kernel
theorem dX10_forgetGrounding_4 : decode cX10_forgetGrounding 4 = .ok (.iconst 0, 1) := by decide +kernel
theorem dX10_forgetGrounding_5 : decode cX10_forgetGrounding 5 = .ok (.putfield 351, 3) := by decide +kernel
theorem dX10_forgetGrounding_8 : decode cX10_forgetGrounding 8 = .ok (.aload_n 0, 1) := by decide +kernel
theorem dX10_forgetGrounding_9 : decode cX10_forgetGrounding 9 = .ok (.getfield 30, 3) := by decide +kernel
theorem dX10_forgetGrounding_12 : decode cX10_forgetGrounding 12 = .ok (.iconst 0, 1) := by decide +kernel
theorem dX10_forgetGrounding_13 : decode cX10_forgetGrounding 13 = .ok (.putfield 354, 3) := by decide +kernel
theorem dX10_forgetGrounding_16 : decode cX10_forgetGrounding 16 = .ok (.aload_n 0, 1) := by decide +kernel
theorem dX10_forgetGrounding_17 : decode cX10_forgetGrounding 17 = .ok (.getfield 56, 3) := by decide +kernel
theorem dX10_forgetGrounding_20 : decode cX10_forgetGrounding 20 = .ok (.iconst 0, 1) := by decide +kernel
theorem dX10_forgetGrounding_21 : decode cX10_forgetGrounding 21 = .ok (.putfield 235, 3) := by decide +kernel
theorem dX10_forgetGrounding_24 : decode cX10_forgetGrounding 24 = .ok (.return_, 1) := by decide +kernel
def wW_k_X10_forgetGrounding (ty : Nat → ClassId) (X : Nat → Nat) (z9_0 : Int32) (z9_1 : Int32) (z9_2 : Int32) (z9_3 : Int32) (z9_4 : Int32) (z9_5 : Int32) (z9_6 : Int32) (z9_7 : Int32) (z9_8 : Int32) (z9_9 : Int32) (z9_10 : Int32) (z9_11 : Int32) (z9_12 : Int32) (z9_13 : Int32) (z9_14 : Int32) (z9_15 : Int32) (z9_16 : Int32) : va_W := [((X 0), .inr (12, [.ref (X 1), .ref (X 8), .ref (X 20), .ref (X 39), .ref (X 41), .ref (X 43), .ref (X 45)])), ((X 8), .inr (5, [.ref (X 1), .ref (X 9), .ref (X 10), .ref (X 12), .ref (X 14), .int z9_0, .ref (X 15), .ref (X 16), .ref (X 17), .int z9_1, .ref (X 18), .ref (X 19), .int z9_2, .int z9_3, .int z9_4, .int z9_5])), ((X 20), .inr (11, [.ref (X 1), .ref (X 8), .ref (X 21), .ref (X 28), .ref (X 35), .int z9_6, .ref (X 36), .ref (X 37), .ref (X 38), .int z9_7, .int z9_8, .int z9_9, .int z9_10, .int z9_11, .int z9_12, .int z9_13, .int z9_14])), ((X 45), .inr (2, [.ref (X 46), .ref (X 47), .int z9_15, .int z9_16]))]
def vs_k_X10_forgetGrounding : List Cond := .code yX10_forgetGrounding cX10_forgetGrounding 1 none :: ([.fieldLink RX10 21 "AnswerFold" "grounding" "LAnswerFold$Grounding;", .fieldLink RX10 30 "AnswerFold" "solver" "LAnswerFold$Solver;", .fieldLink RX10 56 "AnswerFold" "answers" "LAnswerFold$Answers;"] ++ (u_ws RX10 TX10 7 ++ (u_ws RX3 TX3 16 ++ (u_ws RX9 TX9 17 ++ (u_ws RX0 TX0 4)))))
theorem iv_k_X10_forgetGrounding_X0 : ∀ w ∈ u_ws RX0 TX0 4, w ∈ vs_k_X10_forgetGrounding := (fun _ h => List.mem_cons_of_mem _ (List.mem_append_right _ (List.mem_append_right _ (List.mem_append_right _ (List.mem_append_right _ (h))))))
theorem iv_k_X10_forgetGrounding_X10 : ∀ w ∈ u_ws RX10 TX10 7, w ∈ vs_k_X10_forgetGrounding := (fun _ h => List.mem_cons_of_mem _ (List.mem_append_right _ (List.mem_append_left _ h)))
theorem iv_k_X10_forgetGrounding_X3 : ∀ w ∈ u_ws RX3 TX3 16, w ∈ vs_k_X10_forgetGrounding := (fun _ h => List.mem_cons_of_mem _ (List.mem_append_right _ (List.mem_append_right _ (List.mem_append_left _ h))))
theorem iv_k_X10_forgetGrounding_X9 : ∀ w ∈ u_ws RX9 TX9 17, w ∈ vs_k_X10_forgetGrounding := (fun _ h => List.mem_cons_of_mem _ (List.mem_append_right _ (List.mem_append_right _ (List.mem_append_right _ (List.mem_append_left _ h)))))
set_option maxHeartbeats 4000000 in
set_option maxRecDepth 100000 in
theorem k_X10_forgetGrounding (l : Launch) (D : va_G) (ty : Nat → ClassId) (td mi sz : Nat) (X : Nat → Nat) (hn : Int32) (kn : Int32) (on : Int32) (cu : Int32) (pu : Int32) (gw : Int32) (an : Int32) (ch : Int32) (cg : Int32) (fb : Int32) (mh : Int32) (ml : Int32) (ih : Int32) (lb : Int32) (ic : Int32) (nn : Int32) (kp : Int32) (TT : r_k_X10_forgetGrounding) (hTT : TT = m_k_X10_forgetGrounding) : Met l yX10_forgetGrounding vs_k_X10_forgetGrounding { frames := 0, cells := 0, slots := 0, locals := 0 } (va_Pc [.ref (X 0)] (wq_P D ty td mi (wW_k_X10_forgetGrounding ty X hn kn on cu pu gw an ch cg fb mh ml ih lb ic nn kp) sz)) (va_Qv (fun u : va_W => ((u = (wW_k_X10_forgetGrounding ty X hn kn on TT.2.2 pu gw an ch cg fb mh ml ih lb TT.1 nn TT.2.1)))) (wq_B D (va_A (wW_k_X10_forgetGrounding ty X hn kn on cu pu gw an ch cg fb mh ml ih lb ic nn kp) sz)) (va_A (wW_k_X10_forgetGrounding ty X hn kn on cu pu gw an ch cg fb mh ml ih lb ic nn kp) sz)) 0 0 (va_A (wW_k_X10_forgetGrounding ty X hn kn on cu pu gw an ch cg fb mh ml ih lb ic nn kp) sz) := by
  refine Met.ofW (cc := cX10_forgetGrounding) (maxL := 1) (ret := none) (by decide) rfl ?_
  intro p e s m args below meth c s₁ B hml hv
  obtain ⟨rfl, hsz, hP, hK, hD0, hE⟩ := hv
  have hx := B.exec
  have hb := B.bytes
  have hr := B.returns
  have hts := atoms_spec (ws := vs_k_X10_forgetGrounding) B.pre
  have hown : s.vm.findClass RX10 = some m.cls := findClass_of_methodNamed B.named
  have hlocks := B.notSynchronized
  subst hsz
  have hD := hD0.self (sz := s.heap.size)
  generalize hAe : va_A (wW_k_X10_forgetGrounding ty X hn kn on cu pu gw an ch cg fb mh ml ih lb ic nn kp) s.heap.size = A at hD hE ⊢
  have hA : ∀ q : Nat, s.heap.size ≤ q → A q := fun q h => by rw [← hAe]; exact Or.inr h
  have hS : va_S A s.heap s.heap [] := va_S.rf
  have hP : va_P D vwCl (wW_k_X10_forgetGrounding ty X hn kn on cu pu gw an ch cg fb mh ml ih lb ic nn kp) s.heap := hP
  have hl := lv_entry ([.ref (X 0)]) (n := 1) (Nat.le_of_ble_eq_true rfl)
  rw [lg_entry_eq]
  generalize (lg_sl ([.ref (X 0)]) ++ List.replicate (1 - (lg_sl ([.ref (X 0)])).length) Slot.unset).toArray = ls at hl ⊢
  have hl : lv_has ls 1 [(0, .ref (X 0))] := hl
  have END : ∀ (w9_0 : Int32) (w9_1 : Int32) (w9_2 : Int32), TT = (w9_0, w9_1, w9_2) → ∀ (H : Heap) (locs : List Loc), va_P D vwCl (wW_k_X10_forgetGrounding ty X hn kn on w9_2 pu gw an ch cg fb mh ml ih lb w9_0 nn w9_1) H → va_D A (wW_k_X10_forgetGrounding ty X hn kn on w9_2 pu gw an ch cg fb mh ml ih lb w9_0 nn w9_1) → va_S A s.heap H locs → ∀ (ls : Array Slot) (pc : Nat), decode cX10_forgetGrounding pc = .ok (.return_, 1) → W p l e (headSpec vs_k_X10_forgetGrounding { frames := 0, cells := 0, slots := 0, locals := 0 }).room s m ([.ref (X 0)] : List Value).toArray below meth c H locs 0 0 (MQ below (va_Qv (fun u : va_W => ((u = (wW_k_X10_forgetGrounding ty X hn kn on TT.2.2 pu gw an ch cg fb mh ml ih lb TT.1 nn TT.2.1)))) (wq_B D A) A) ([.ref (X 0)] : List Value).toArray s 0 0 A) (F0 m pc ls []) := by
    intro w9_0 w9_1 w9_2 hT H locs hP hD hS ls pc hd
    have hM : TT = (w9_0, w9_1, w9_2) := hT
    exact W.vret hx hb hr (fun t ht hW => ⟨⟨(wW_k_X10_forgetGrounding ty X hn kn on w9_2 pu gw an ch cg fb mh ml ih lb w9_0 nn w9_1), rfl, (by rw [hM]), wq_B.of ht hP hD⟩, hS.F ht⟩) hS.2.2 hd
  have hT := hTT
  rw [m_k_X10_forgetGrounding] at hT
  refine lv_aload_n hx hb dX10_forgetGrounding_0 rfl (lv_at hl 0 rfl) ?_
  refine va_get (D := D) (ci := 12) (v := .ref (X 8)) (C := RX10) (T := TX10) (N := 7) hx hb hts iv_k_X10_forgetGrounding_X10 hown hK hP 0 rfl rfl 1 (by decide) (hts (.fieldLink RX10 21 "AnswerFold" "grounding" "LAnswerFold$Grounding;") (by decide +kernel)) (fun _ h9 => h9) rfl dX10_forgetGrounding_1 ?_
  refine lv_iconst (v := 0) hx hb dX10_forgetGrounding_4 (by decide) ?_
  refine va_putN (D := D) (ci := 5) (v := .int 0) (ty := tyX3 13) (C := RX3) (T := TX3) (N := 16) hx hb hts iv_k_X10_forgetGrounding_X3 tyX3 tyX3_ok nmX3 hown hK hP hD hS 1 rfl rfl 13 (by decide) (hE.at (.fieldLinkNest "AnswerFold" 351 "AnswerFold$Grounding" "isCurrent" "Z" "AnswerFold") (by decide +kernel)) (fun _ h9 => h9) rfl (by decide +kernel) rfl rfl (Nat.le_of_ble_eq_true rfl) dX10_forgetGrounding_5 (fun H locs hP hD hS => ?_)
  have hP : va_P D vwCl (wW_k_X10_forgetGrounding ty X hn kn on (0) pu gw an ch cg fb mh ml ih lb ic nn kp) H := hP
  have hD : va_D A (wW_k_X10_forgetGrounding ty X hn kn on (0) pu gw an ch cg fb mh ml ih lb ic nn kp) := hD
  refine lv_aload_n hx hb dX10_forgetGrounding_8 rfl (lv_at hl 0 rfl) ?_
  refine va_get (D := D) (ci := 12) (v := .ref (X 20)) (C := RX10) (T := TX10) (N := 7) hx hb hts iv_k_X10_forgetGrounding_X10 hown hK hP 0 rfl rfl 2 (by decide) (hts (.fieldLink RX10 30 "AnswerFold" "solver" "LAnswerFold$Solver;") (by decide +kernel)) (fun _ h9 => h9) rfl dX10_forgetGrounding_9 ?_
  refine lv_iconst (v := 0) hx hb dX10_forgetGrounding_12 (by decide) ?_
  refine va_putN (D := D) (ci := 11) (v := .int 0) (ty := tyX9 16) (C := RX9) (T := TX9) (N := 17) hx hb hts iv_k_X10_forgetGrounding_X9 tyX9 tyX9_ok nmX9 hown hK hP hD hS 2 rfl rfl 16 (by decide) (hE.at (.fieldLinkNest "AnswerFold" 354 "AnswerFold$Solver" "isCompiled" "Z" "AnswerFold") (by decide +kernel)) (fun _ h9 => h9) rfl (by decide +kernel) rfl rfl (Nat.le_of_ble_eq_true rfl) dX10_forgetGrounding_13 (fun H locs hP hD hS => ?_)
  have hP : va_P D vwCl (wW_k_X10_forgetGrounding ty X hn kn on (0) pu gw an ch cg fb mh ml ih lb (0) nn kp) H := hP
  have hD : va_D A (wW_k_X10_forgetGrounding ty X hn kn on (0) pu gw an ch cg fb mh ml ih lb (0) nn kp) := hD
  refine lv_aload_n hx hb dX10_forgetGrounding_16 rfl (lv_at hl 0 rfl) ?_
  refine va_get (D := D) (ci := 12) (v := .ref (X 45)) (C := RX10) (T := TX10) (N := 7) hx hb hts iv_k_X10_forgetGrounding_X10 hown hK hP 0 rfl rfl 6 (by decide) (hts (.fieldLink RX10 56 "AnswerFold" "answers" "LAnswerFold$Answers;") (by decide +kernel)) (fun _ h9 => h9) rfl dX10_forgetGrounding_17 ?_
  refine lv_iconst (v := 0) hx hb dX10_forgetGrounding_20 (by decide) ?_
  refine va_putN (D := D) (ci := 2) (v := .int 0) (ty := tyX0 3) (C := RX0) (T := TX0) (N := 4) hx hb hts iv_k_X10_forgetGrounding_X0 tyX0 tyX0_ok nmX0 hown hK hP hD hS 3 rfl rfl 3 (by decide) (hE.at (.fieldLinkNest "AnswerFold" 235 "AnswerFold$Answers" "isKept" "Z" "AnswerFold") (by decide +kernel)) (fun _ h9 => h9) rfl (by decide +kernel) rfl rfl (Nat.le_of_ble_eq_true rfl) dX10_forgetGrounding_21 (fun H locs hP hD hS => ?_)
  have hP : va_P D vwCl (wW_k_X10_forgetGrounding ty X hn kn on (0) pu gw an ch cg fb mh ml ih lb (0) nn (0)) H := hP
  have hD : va_D A (wW_k_X10_forgetGrounding ty X hn kn on (0) pu gw an ch cg fb mh ml ih lb (0) nn (0)) := hD
  exact END 0 0 0 hT _ _ hP hD hS _ _ dX10_forgetGrounding_24
theorem dX10_checkPart_0 : decode cX10_checkPart 0 = .ok (.iload_n 1, 1) := by decide +kernel
theorem dX10_checkPart_1 : decode cX10_checkPart 1 = .ok (.ifCond .lt 8, 3) := by decide +kernel
theorem dX10_checkPart_4 : decode cX10_checkPart 4 = .ok (.iload_n 1, 1) := by decide +kernel
theorem dX10_checkPart_5 : decode cX10_checkPart 5 = .ok (.iconst 3, 1) := by decide +kernel
theorem dX10_checkPart_6 : decode cX10_checkPart 6 = .ok (.if_icmp .le 14, 3) := by decide +kernel
theorem dX10_checkPart_9 : decode cX10_checkPart 9 = .ok (.new 60, 3) := by decide +kernel
theorem dX10_checkPart_12 : decode cX10_checkPart 12 = .ok (.dup, 1) := by decide +kernel
theorem dX10_checkPart_13 : decode cX10_checkPart 13 = .ok (.ldc_w 357, 3) := by decide +kernel
theorem dX10_checkPart_16 : decode cX10_checkPart 16 = .ok (.invokespecial 64, 3) := by decide +kernel
theorem dX10_checkPart_19 : decode cX10_checkPart 19 = .ok (.athrow, 1) := by decide +kernel
theorem dX10_checkPart_20 : decode cX10_checkPart 20 = .ok (.return_, 1) := by decide +kernel
def vs_k_X10_checkPart : List Cond := .code yX10_checkPart cX10_checkPart 2 none :: ([.classLink RX10 60 "java/lang/IllegalArgumentException", .initialized "java/lang/IllegalArgumentException"] ++ ((vx_atS RX10 64 "java/lang/IllegalArgumentException" ["java/lang/RuntimeException", "java/lang/Exception"]).filter goodWord))
theorem ix_k_X10_checkPart_64 : ∀ w ∈ (vx_atS RX10 64 "java/lang/IllegalArgumentException" ["java/lang/RuntimeException", "java/lang/Exception"]).filter goodWord, w ∈ vs_k_X10_checkPart := (fun _ h => List.mem_cons_of_mem _ (List.mem_append_right _ (h)))
set_option maxHeartbeats 4000000 in
set_option maxRecDepth 100000 in
theorem k_X10_checkPart (l : Launch) (hl9 : l.stackTraces = false) (D : va_G) (ty : Nat → ClassId) (td mi sz : Nat) (X : Nat → Nat) (a1 : Int32) (TT : r_k_X10_checkPart) (hTT : TT = m_k_X10_checkPart a1) : vx_Met l yX10_checkPart vs_k_X10_checkPart { frames := 6, cells := 1, slots := 6, locals := 82 } (va_Pc [.ref (X 0), .int a1] (wq_P D ty td mi [] sz)) (va_Qv (fun u : va_W => (TT = 0 ∧ (u = []))) (wq_B D (va_A [] sz)) (va_A [] sz)) (vx_X (fun u : String × va_W => (TT = 2 ∧ u = ("java/lang/IllegalArgumentException", []))) (wq_BX D (va_A [] sz)) (va_A [] sz)) 1 6 (va_A [] sz) := by
  refine vx_ofW (cc := cX10_checkPart) (maxL := 2) (ret := none) (by decide) rfl ?_
  intro p e s m args below meth c s₁ B hml hEx hv
  obtain ⟨rfl, hsz, hP, hK, hD0, hE⟩ := hv
  have hx := B.exec
  have hb := B.bytes
  have hr := B.returns
  have hts := atoms_spec (ws := vs_k_X10_checkPart) B.pre
  have hown : s.vm.findClass RX10 = some m.cls := findClass_of_methodNamed B.named
  have hlocks := B.notSynchronized
  subst hsz
  have hD := hD0.self (sz := s.heap.size)
  generalize hAe : va_A [] s.heap.size = A at hD hE ⊢
  have hA : ∀ q : Nat, s.heap.size ≤ q → A q := fun q h => by rw [← hAe]; exact Or.inr h
  have hS : va_S A s.heap s.heap [] := va_S.rf
  have hP : va_P D vwCl [] s.heap := hP
  have hl := lv_entry ([.ref (X 0), .int a1]) (n := 2) (Nat.le_of_ble_eq_true rfl)
  rw [lg_entry_eq]
  generalize (lg_sl ([.ref (X 0), .int a1]) ++ List.replicate (2 - (lg_sl ([.ref (X 0), .int a1])).length) Slot.unset).toArray = ls at hl ⊢
  have hl : lv_has ls 2 [(0, .ref (X 0)), (1, .int a1)] := hl
  have END : ∀ (_ : Unit), TT = 0 → ∀ (H : Heap) (locs : List Loc), va_P D vwCl [] H → va_D A [] → va_S A s.heap H locs → ∀ (ls : Array Slot) (pc : Nat), decode cX10_checkPart pc = .ok (.return_, 1) → W p l e (headSpec vs_k_X10_checkPart { frames := 6, cells := 1, slots := 6, locals := 82 }).room s m ([.ref (X 0), .int a1] : List Value).toArray below meth c H locs 1 6 (vx_MQ below (va_Qv (fun u : va_W => (TT = 0 ∧ (u = []))) (wq_B D A) A) (vx_X (fun u : String × va_W => (TT = 2 ∧ u = ("java/lang/IllegalArgumentException", []))) (wq_BX D A) A) ([.ref (X 0), .int a1] : List Value).toArray s 1 6 A) (F0 m pc ls []) := by
    intro _ hT H locs hP hD hS ls pc hd
    have hM : TT = 0 := hT
    refine vx_ret ?_
    exact W.vret hx hb hr (fun t ht hW => ⟨⟨[], rfl, ⟨(by rw [hM]), rfl⟩, wq_B.of ht hP hD⟩, hS.F ht⟩) hS.2.2 hd
  have hT := hTT
  rw [m_k_X10_checkPart] at hT
  refine lv_iload_n hx hb dX10_checkPart_0 rfl (lv_at hl 1 rfl) ?_
  have J_9 : ∀ (_ : Unit), TT = m_k_X10_checkPart_9 → ∀ (H : Heap) (locs : List Loc), va_P D vwCl [] H → va_D A [] → va_S A s.heap H locs → ∀ ls : Array Slot, lv_has ls 2 [] → W p l e (headSpec vs_k_X10_checkPart { frames := 6, cells := 1, slots := 6, locals := 82 }).room s m ([.ref (X 0), .int a1] : List Value).toArray below meth c H locs 0 0 (vx_MQ below (va_Qv (fun u : va_W => (TT = 0 ∧ (u = []))) (wq_B D A) A) (vx_X (fun u : String × va_W => (TT = 2 ∧ u = ("java/lang/IllegalArgumentException", []))) (wq_BX D A) A) ([.ref (X 0), .int a1] : List Value).toArray s 1 6 A) (F0 m 9 ls []) := by
    intro _ hT  H locs hP hD hS ls hl
    rw [m_k_X10_checkPart_9] at hT
    obtain ⟨sa, hsa⟩ := hE.st 357 "parts are 0 to 3" (by decide +kernel)
    exact vx_throwSW (own := RX10) (cls := "java/lang/IllegalArgumentException") (text := "parts are 0 to 3") (names := ["java/lang/RuntimeException", "java/lang/Exception"]) (ik := 60) (is := 357) (ic := 64) (sa := sa) (A := A) hx hb hl9 hown (by decide +kernel) (by decide +kernel) (hts (.classLink RX10 60 "java/lang/IllegalArgumentException") (by decide +kernel)) (hts (.initialized "java/lang/IllegalArgumentException") (by decide +kernel)) hsa (wq_hat hE hts ix_k_X10_checkPart_64 (by decide +kernel) (by decide +kernel)) (by decide +kernel) hE.zu hE.zs hS (hl.1.trans hml.symm) dX10_checkPart_9 dX10_checkPart_12 dX10_checkPart_13 dX10_checkPart_16 dX10_checkPart_19 (fun x hx => (hEx x hx).elim) (Nat.le_of_ble_eq_true rfl) (Nat.le_of_ble_eq_true rfl) (Nat.le_of_ble_eq_true rfl) (Nat.le_of_ble_eq_true rfl) hlocks (fun t ha hz hk => wq_thrW (W := []) hS hP hD (by exact ⟨(by rw [hT]), (by first | rw [hT] | rfl)⟩) hz hk) hS.2.2 (Nat.le_of_ble_eq_true rfl) (Nat.le_of_ble_eq_true rfl)
  refine lv_if_lt (tgt := 9) hx hb dX10_checkPart_1 (by decide) (fun c_1 => ?_) (fun c_1 => ?_)
  · rw [if_pos c_1] at hT
    exact J_9 () hT _ _ hP hD hS _ (lv_sub hl [] rfl)
  · rw [if_neg c_1] at hT
    refine lv_iload_n hx hb dX10_checkPart_4 rfl (lv_at hl 1 rfl) ?_
    refine lv_iconst (v := 3) hx hb dX10_checkPart_5 (by decide) ?_
    refine lv_icmp_le (tgt := 20) hx hb dX10_checkPart_6 (by decide) (fun c_2 => ?_) (fun c_2 => ?_)
    · rw [if_pos c_2] at hT
      refine W.widen (k := 1) (n := 6) (Nat.le_of_ble_eq_true rfl) (Nat.le_of_ble_eq_true rfl) ?_
      exact END () hT _ _ hP hD hS _ _ dX10_checkPart_20
    · rw [if_neg c_2] at hT
      exact J_9 () hT _ _ hP hD hS _ (lv_sub hl [] rfl)
theorem dX10_checkLevel_0 : decode cX10_checkLevel 0 = .ok (.iload_n 1, 1) := by decide +kernel
theorem dX10_checkLevel_1 : decode cX10_checkLevel 1 = .ok (.iconst 1, 1) := by decide +kernel
theorem dX10_checkLevel_2 : decode cX10_checkLevel 2 = .ok (.if_icmp .lt 8, 3) := by decide +kernel
theorem dX10_checkLevel_5 : decode cX10_checkLevel 5 = .ok (.iload_n 1, 1) := by decide +kernel
theorem dX10_checkLevel_6 : decode cX10_checkLevel 6 = .ok (.iconst 3, 1) := by decide +kernel
theorem dX10_checkLevel_7 : decode cX10_checkLevel 7 = .ok (.if_icmp .le 14, 3) := by decide +kernel
theorem dX10_checkLevel_10 : decode cX10_checkLevel 10 = .ok (.new 60, 3) := by decide +kernel
theorem dX10_checkLevel_13 : decode cX10_checkLevel 13 = .ok (.dup, 1) := by decide +kernel
theorem dX10_checkLevel_14 : decode cX10_checkLevel 14 = .ok (.ldc_w 359, 3) := by decide +kernel
theorem dX10_checkLevel_17 : decode cX10_checkLevel 17 = .ok (.invokespecial 64, 3) := by decide +kernel
theorem dX10_checkLevel_20 : decode cX10_checkLevel 20 = .ok (.athrow, 1) := by decide +kernel
theorem dX10_checkLevel_21 : decode cX10_checkLevel 21 = .ok (.return_, 1) := by decide +kernel
def vs_k_X10_checkLevel : List Cond := .code yX10_checkLevel cX10_checkLevel 2 none :: ([.classLink RX10 60 "java/lang/IllegalArgumentException", .initialized "java/lang/IllegalArgumentException"] ++ ((vx_atS RX10 64 "java/lang/IllegalArgumentException" ["java/lang/RuntimeException", "java/lang/Exception"]).filter goodWord))
theorem ix_k_X10_checkLevel_64 : ∀ w ∈ (vx_atS RX10 64 "java/lang/IllegalArgumentException" ["java/lang/RuntimeException", "java/lang/Exception"]).filter goodWord, w ∈ vs_k_X10_checkLevel := (fun _ h => List.mem_cons_of_mem _ (List.mem_append_right _ (h)))
set_option maxHeartbeats 4000000 in
set_option maxRecDepth 100000 in
theorem k_X10_checkLevel (l : Launch) (hl9 : l.stackTraces = false) (D : va_G) (ty : Nat → ClassId) (td mi sz : Nat) (X : Nat → Nat) (a1 : Int32) (TT : r_k_X10_checkLevel) (hTT : TT = m_k_X10_checkLevel a1) : vx_Met l yX10_checkLevel vs_k_X10_checkLevel { frames := 6, cells := 1, slots := 6, locals := 82 } (va_Pc [.ref (X 0), .int a1] (wq_P D ty td mi [] sz)) (va_Qv (fun u : va_W => (TT = 0 ∧ (u = []))) (wq_B D (va_A [] sz)) (va_A [] sz)) (vx_X (fun u : String × va_W => (TT = 2 ∧ u = ("java/lang/IllegalArgumentException", []))) (wq_BX D (va_A [] sz)) (va_A [] sz)) 1 6 (va_A [] sz) := by
  refine vx_ofW (cc := cX10_checkLevel) (maxL := 2) (ret := none) (by decide) rfl ?_
  intro p e s m args below meth c s₁ B hml hEx hv
  obtain ⟨rfl, hsz, hP, hK, hD0, hE⟩ := hv
  have hx := B.exec
  have hb := B.bytes
  have hr := B.returns
  have hts := atoms_spec (ws := vs_k_X10_checkLevel) B.pre
  have hown : s.vm.findClass RX10 = some m.cls := findClass_of_methodNamed B.named
  have hlocks := B.notSynchronized
  subst hsz
  have hD := hD0.self (sz := s.heap.size)
  generalize hAe : va_A [] s.heap.size = A at hD hE ⊢
  have hA : ∀ q : Nat, s.heap.size ≤ q → A q := fun q h => by rw [← hAe]; exact Or.inr h
  have hS : va_S A s.heap s.heap [] := va_S.rf
  have hP : va_P D vwCl [] s.heap := hP
  have hl := lv_entry ([.ref (X 0), .int a1]) (n := 2) (Nat.le_of_ble_eq_true rfl)
  rw [lg_entry_eq]
  generalize (lg_sl ([.ref (X 0), .int a1]) ++ List.replicate (2 - (lg_sl ([.ref (X 0), .int a1])).length) Slot.unset).toArray = ls at hl ⊢
  have hl : lv_has ls 2 [(0, .ref (X 0)), (1, .int a1)] := hl
  have END : ∀ (_ : Unit), TT = 0 → ∀ (H : Heap) (locs : List Loc), va_P D vwCl [] H → va_D A [] → va_S A s.heap H locs → ∀ (ls : Array Slot) (pc : Nat), decode cX10_checkLevel pc = .ok (.return_, 1) → W p l e (headSpec vs_k_X10_checkLevel { frames := 6, cells := 1, slots := 6, locals := 82 }).room s m ([.ref (X 0), .int a1] : List Value).toArray below meth c H locs 1 6 (vx_MQ below (va_Qv (fun u : va_W => (TT = 0 ∧ (u = []))) (wq_B D A) A) (vx_X (fun u : String × va_W => (TT = 2 ∧ u = ("java/lang/IllegalArgumentException", []))) (wq_BX D A) A) ([.ref (X 0), .int a1] : List Value).toArray s 1 6 A) (F0 m pc ls []) := by
    intro _ hT H locs hP hD hS ls pc hd
    have hM : TT = 0 := hT
    refine vx_ret ?_
    exact W.vret hx hb hr (fun t ht hW => ⟨⟨[], rfl, ⟨(by rw [hM]), rfl⟩, wq_B.of ht hP hD⟩, hS.F ht⟩) hS.2.2 hd
  have hT := hTT
  rw [m_k_X10_checkLevel] at hT
  refine lv_iload_n hx hb dX10_checkLevel_0 rfl (lv_at hl 1 rfl) ?_
  refine lv_iconst (v := 1) hx hb dX10_checkLevel_1 (by decide) ?_
  have J_10 : ∀ (_ : Unit), TT = m_k_X10_checkLevel_10 → ∀ (H : Heap) (locs : List Loc), va_P D vwCl [] H → va_D A [] → va_S A s.heap H locs → ∀ ls : Array Slot, lv_has ls 2 [] → W p l e (headSpec vs_k_X10_checkLevel { frames := 6, cells := 1, slots := 6, locals := 82 }).room s m ([.ref (X 0), .int a1] : List Value).toArray below meth c H locs 0 0 (vx_MQ below (va_Qv (fun u : va_W => (TT = 0 ∧ (u = []))) (wq_B D A) A) (vx_X (fun u : String × va_W => (TT = 2 ∧ u = ("java/lang/IllegalArgumentException", []))) (wq_BX D A) A) ([.ref (X 0), .int a1] : List Value).toArray s 1 6 A) (F0 m 10 ls []) := by
    intro _ hT  H locs hP hD hS ls hl
    rw [m_k_X10_checkLevel_10] at hT
    obtain ⟨sa, hsa⟩ := hE.st 359 "levels are 1 to 3" (by decide +kernel)
    exact vx_throwSW (own := RX10) (cls := "java/lang/IllegalArgumentException") (text := "levels are 1 to 3") (names := ["java/lang/RuntimeException", "java/lang/Exception"]) (ik := 60) (is := 359) (ic := 64) (sa := sa) (A := A) hx hb hl9 hown (by decide +kernel) (by decide +kernel) (hts (.classLink RX10 60 "java/lang/IllegalArgumentException") (by decide +kernel)) (hts (.initialized "java/lang/IllegalArgumentException") (by decide +kernel)) hsa (wq_hat hE hts ix_k_X10_checkLevel_64 (by decide +kernel) (by decide +kernel)) (by decide +kernel) hE.zu hE.zs hS (hl.1.trans hml.symm) dX10_checkLevel_10 dX10_checkLevel_13 dX10_checkLevel_14 dX10_checkLevel_17 dX10_checkLevel_20 (fun x hx => (hEx x hx).elim) (Nat.le_of_ble_eq_true rfl) (Nat.le_of_ble_eq_true rfl) (Nat.le_of_ble_eq_true rfl) (Nat.le_of_ble_eq_true rfl) hlocks (fun t ha hz hk => wq_thrW (W := []) hS hP hD (by exact ⟨(by rw [hT]), (by first | rw [hT] | rfl)⟩) hz hk) hS.2.2 (Nat.le_of_ble_eq_true rfl) (Nat.le_of_ble_eq_true rfl)
  refine lv_icmp_lt (tgt := 10) hx hb dX10_checkLevel_2 (by decide) (fun c_1 => ?_) (fun c_1 => ?_)
  · rw [if_pos c_1] at hT
    exact J_10 () hT _ _ hP hD hS _ (lv_sub hl [] rfl)
  · rw [if_neg c_1] at hT
    refine lv_iload_n hx hb dX10_checkLevel_5 rfl (lv_at hl 1 rfl) ?_
    refine lv_iconst (v := 3) hx hb dX10_checkLevel_6 (by decide) ?_
    refine lv_icmp_le (tgt := 21) hx hb dX10_checkLevel_7 (by decide) (fun c_2 => ?_) (fun c_2 => ?_)
    · rw [if_pos c_2] at hT
      refine W.widen (k := 1) (n := 6) (Nat.le_of_ble_eq_true rfl) (Nat.le_of_ble_eq_true rfl) ?_
      exact END () hT _ _ hP hD hS _ _ dX10_checkLevel_21
    · rw [if_neg c_2] at hT
      exact J_10 () hT _ _ hP hD hS _ (lv_sub hl [] rfl)
theorem dX10_checkRoomForRule_0 : decode cX10_checkRoomForRule 0 = .ok (.aload_n 0, 1) := by decide +kernel
theorem dX10_checkRoomForRule_1 : decode cX10_checkRoomForRule 1 = .ok (.getfield 12, 3) := by decide +kernel
theorem dX10_checkRoomForRule_4 : decode cX10_checkRoomForRule 4 = .ok (.getfield 361, 3) := by decide +kernel
theorem dX10_checkRoomForRule_7 : decode cX10_checkRoomForRule 7 = .ok (.bipush 20, 2) := by decide +kernel
theorem dX10_checkRoomForRule_9 : decode cX10_checkRoomForRule 9 = .ok (.if_icmp .lt 14, 3) := by decide +kernel
theorem dX10_checkRoomForRule_12 : decode cX10_checkRoomForRule 12 = .ok (.new 71, 3) := by decide +kernel
theorem dX10_checkRoomForRule_15 : decode cX10_checkRoomForRule 15 = .ok (.dup, 1) := by decide +kernel
theorem dX10_checkRoomForRule_16 : decode cX10_checkRoomForRule 16 = .ok (.ldc_w 364, 3) := by decide +kernel
theorem dX10_checkRoomForRule_19 : decode cX10_checkRoomForRule 19 = .ok (.invokespecial 75, 3) := by decide +kernel
theorem dX10_checkRoomForRule_22 : decode cX10_checkRoomForRule 22 = .ok (.athrow, 1) := by decide +kernel
theorem dX10_checkRoomForRule_23 : decode cX10_checkRoomForRule 23 = .ok (.return_, 1) := by decide +kernel
def wW_k_X10_checkRoomForRule (ty : Nat → ClassId) (X : Nat → Nat) (z9_0 : Int32) (z9_1 : Int32) (z9_2 : Int32) (z9_3 : Int32) : va_W := [((X 0), .inr (12, [.ref (X 1), .ref (X 8), .ref (X 20), .ref (X 39), .ref (X 41), .ref (X 43), .ref (X 45)])), ((X 1), .inr (8, [.ref (X 2), .int z9_0, .ref (X 3), .int z9_1, .ref (X 4), .ref (X 5), .int z9_2, .ref (X 6), .ref (X 7), .int z9_3]))]
def vs_k_X10_checkRoomForRule : List Cond := .code yX10_checkRoomForRule cX10_checkRoomForRule 1 none :: ([.fieldLink RX10 12 "AnswerFold" "program" "LAnswerFold$Program;", .classLink RX10 71 "java/lang/IllegalStateException", .initialized "java/lang/IllegalStateException"] ++ (u_ws RX10 TX10 7 ++ (u_ws RX6 TX6 10 ++ ((vx_atS RX10 75 "java/lang/IllegalStateException" ["java/lang/RuntimeException", "java/lang/Exception"]).filter goodWord))))
theorem iv_k_X10_checkRoomForRule_X10 : ∀ w ∈ u_ws RX10 TX10 7, w ∈ vs_k_X10_checkRoomForRule := (fun _ h => List.mem_cons_of_mem _ (List.mem_append_right _ (List.mem_append_left _ h)))
theorem iv_k_X10_checkRoomForRule_X6 : ∀ w ∈ u_ws RX6 TX6 10, w ∈ vs_k_X10_checkRoomForRule := (fun _ h => List.mem_cons_of_mem _ (List.mem_append_right _ (List.mem_append_right _ (List.mem_append_left _ h))))
theorem ix_k_X10_checkRoomForRule_75 : ∀ w ∈ (vx_atS RX10 75 "java/lang/IllegalStateException" ["java/lang/RuntimeException", "java/lang/Exception"]).filter goodWord, w ∈ vs_k_X10_checkRoomForRule := (fun _ h => List.mem_cons_of_mem _ (List.mem_append_right _ (List.mem_append_right _ (List.mem_append_right _ (h)))))
set_option maxHeartbeats 4000000 in
set_option maxRecDepth 100000 in
theorem k_X10_checkRoomForRule (l : Launch) (hl9 : l.stackTraces = false) (D : va_G) (ty : Nat → ClassId) (td mi sz : Nat) (X : Nat → Nat) (pn : Int32) (rn : Int32) (tn : Int32) (en : Int32) (TT : r_k_X10_checkRoomForRule) (hTT : TT = m_k_X10_checkRoomForRule rn) : vx_Met l yX10_checkRoomForRule vs_k_X10_checkRoomForRule { frames := 6, cells := 1, slots := 6, locals := 82 } (va_Pc [.ref (X 0)] (wq_P D ty td mi (wW_k_X10_checkRoomForRule ty X pn rn tn en) sz)) (va_Qv (fun u : va_W => (TT = 0 ∧ (u = (wW_k_X10_checkRoomForRule ty X pn rn tn en)))) (wq_B D (va_A (wW_k_X10_checkRoomForRule ty X pn rn tn en) sz)) (va_A (wW_k_X10_checkRoomForRule ty X pn rn tn en) sz)) (vx_X (fun u : String × va_W => (TT = 3 ∧ u = ("java/lang/IllegalStateException", (wW_k_X10_checkRoomForRule ty X pn rn tn en)))) (wq_BX D (va_A (wW_k_X10_checkRoomForRule ty X pn rn tn en) sz)) (va_A (wW_k_X10_checkRoomForRule ty X pn rn tn en) sz)) 1 6 (va_A (wW_k_X10_checkRoomForRule ty X pn rn tn en) sz) := by
  refine vx_ofW (cc := cX10_checkRoomForRule) (maxL := 1) (ret := none) (by decide) rfl ?_
  intro p e s m args below meth c s₁ B hml hEx hv
  obtain ⟨rfl, hsz, hP, hK, hD0, hE⟩ := hv
  have hx := B.exec
  have hb := B.bytes
  have hr := B.returns
  have hts := atoms_spec (ws := vs_k_X10_checkRoomForRule) B.pre
  have hown : s.vm.findClass RX10 = some m.cls := findClass_of_methodNamed B.named
  have hlocks := B.notSynchronized
  subst hsz
  have hD := hD0.self (sz := s.heap.size)
  generalize hAe : va_A (wW_k_X10_checkRoomForRule ty X pn rn tn en) s.heap.size = A at hD hE ⊢
  have hA : ∀ q : Nat, s.heap.size ≤ q → A q := fun q h => by rw [← hAe]; exact Or.inr h
  have hS : va_S A s.heap s.heap [] := va_S.rf
  have hP : va_P D vwCl (wW_k_X10_checkRoomForRule ty X pn rn tn en) s.heap := hP
  have hl := lv_entry ([.ref (X 0)]) (n := 1) (Nat.le_of_ble_eq_true rfl)
  rw [lg_entry_eq]
  generalize (lg_sl ([.ref (X 0)]) ++ List.replicate (1 - (lg_sl ([.ref (X 0)])).length) Slot.unset).toArray = ls at hl ⊢
  have hl : lv_has ls 1 [(0, .ref (X 0))] := hl
  have END : ∀ (_ : Unit), TT = 0 → ∀ (H : Heap) (locs : List Loc), va_P D vwCl (wW_k_X10_checkRoomForRule ty X pn rn tn en) H → va_D A (wW_k_X10_checkRoomForRule ty X pn rn tn en) → va_S A s.heap H locs → ∀ (ls : Array Slot) (pc : Nat), decode cX10_checkRoomForRule pc = .ok (.return_, 1) → W p l e (headSpec vs_k_X10_checkRoomForRule { frames := 6, cells := 1, slots := 6, locals := 82 }).room s m ([.ref (X 0)] : List Value).toArray below meth c H locs 1 6 (vx_MQ below (va_Qv (fun u : va_W => (TT = 0 ∧ (u = (wW_k_X10_checkRoomForRule ty X pn rn tn en)))) (wq_B D A) A) (vx_X (fun u : String × va_W => (TT = 3 ∧ u = ("java/lang/IllegalStateException", (wW_k_X10_checkRoomForRule ty X pn rn tn en)))) (wq_BX D A) A) ([.ref (X 0)] : List Value).toArray s 1 6 A) (F0 m pc ls []) := by
    intro _ hT H locs hP hD hS ls pc hd
    have hM : TT = 0 := hT
    refine vx_ret ?_
    exact W.vret hx hb hr (fun t ht hW => ⟨⟨(wW_k_X10_checkRoomForRule ty X pn rn tn en), rfl, ⟨(by rw [hM]), rfl⟩, wq_B.of ht hP hD⟩, hS.F ht⟩) hS.2.2 hd
  have hT := hTT
  rw [m_k_X10_checkRoomForRule] at hT
  refine lv_aload_n hx hb dX10_checkRoomForRule_0 rfl (lv_at hl 0 rfl) ?_
  refine va_get (D := D) (ci := 12) (v := .ref (X 1)) (C := RX10) (T := TX10) (N := 7) hx hb hts iv_k_X10_checkRoomForRule_X10 hown hK hP 0 rfl rfl 0 (by decide) (hts (.fieldLink RX10 12 "AnswerFold" "program" "LAnswerFold$Program;") (by decide +kernel)) (fun _ h9 => h9) rfl dX10_checkRoomForRule_1 ?_
  refine va_getN (D := D) (ci := 8) (v := .int rn) (C := RX6) (T := TX6) (N := 10) hx hb hts iv_k_X10_checkRoomForRule_X6 hown hK hP 1 rfl rfl 3 (by decide) (hE.at (.fieldLinkNest "AnswerFold" 361 "AnswerFold$Program" "ruleCount" "I" "AnswerFold") (by decide +kernel)) (fun _ h9 => h9) rfl dX10_checkRoomForRule_4 ?_
  refine lv_bipush (v := 20) hx hb dX10_checkRoomForRule_7 (by decide) ?_
  refine lv_icmp_lt (tgt := 23) hx hb dX10_checkRoomForRule_9 (by decide) (fun c_1 => ?_) (fun c_1 => ?_)
  · rw [if_pos c_1] at hT
    refine W.widen (k := 1) (n := 6) (Nat.le_of_ble_eq_true rfl) (Nat.le_of_ble_eq_true rfl) ?_
    exact END () hT _ _ hP hD hS _ _ dX10_checkRoomForRule_23
  · rw [if_neg c_1] at hT
    obtain ⟨sa, hsa⟩ := hE.st 364 "there are 20 rules" (by decide +kernel)
    exact vx_throwSW (own := RX10) (cls := "java/lang/IllegalStateException") (text := "there are 20 rules") (names := ["java/lang/RuntimeException", "java/lang/Exception"]) (ik := 71) (is := 364) (ic := 75) (sa := sa) (A := A) hx hb hl9 hown (by decide +kernel) (by decide +kernel) (hts (.classLink RX10 71 "java/lang/IllegalStateException") (by decide +kernel)) (hts (.initialized "java/lang/IllegalStateException") (by decide +kernel)) hsa (wq_hat hE hts ix_k_X10_checkRoomForRule_75 (by decide +kernel) (by decide +kernel)) (by decide +kernel) hE.zu hE.zs hS (hl.1.trans hml.symm) dX10_checkRoomForRule_12 dX10_checkRoomForRule_15 dX10_checkRoomForRule_16 dX10_checkRoomForRule_19 dX10_checkRoomForRule_22 (fun x hx => (hEx x hx).elim) (Nat.le_of_ble_eq_true rfl) (Nat.le_of_ble_eq_true rfl) (Nat.le_of_ble_eq_true rfl) (Nat.le_of_ble_eq_true rfl) hlocks (fun t ha hz hk => wq_thrW (W := (wW_k_X10_checkRoomForRule ty X pn rn tn en)) hS hP hD (by exact ⟨(by rw [hT]), (by first | rw [hT] | rfl)⟩) hz hk) hS.2.2 (Nat.le_of_ble_eq_true rfl) (Nat.le_of_ble_eq_true rfl)
theorem dX10_checkWalk_0 : decode cX10_checkWalk 0 = .ok (.aload_n 0, 1) := by decide +kernel
theorem dX10_checkWalk_1 : decode cX10_checkWalk 1 = .ok (.getfield 56, 3) := by decide +kernel
theorem dX10_checkWalk_4 : decode cX10_checkWalk 4 = .ok (.getfield 235, 3) := by decide +kernel
theorem dX10_checkWalk_7 : decode cX10_checkWalk 7 = .ok (.ifCond .ne 14, 3) := by decide +kernel
theorem dX10_checkWalk_10 : decode cX10_checkWalk 10 = .ok (.new 71, 3) := by decide +kernel
theorem dX10_checkWalk_13 : decode cX10_checkWalk 13 = .ok (.dup, 1) := by decide +kernel
theorem dX10_checkWalk_14 : decode cX10_checkWalk 14 = .ok (.ldc_w 371, 3) := by decide +kernel
theorem dX10_checkWalk_17 : decode cX10_checkWalk 17 = .ok (.invokespecial 75, 3) := by decide +kernel
theorem dX10_checkWalk_20 : decode cX10_checkWalk 20 = .ok (.athrow, 1) := by decide +kernel
theorem dX10_checkWalk_21 : decode cX10_checkWalk 21 = .ok (.return_, 1) := by decide +kernel
def wW_k_X10_checkWalk (ty : Nat → ClassId) (X : Nat → Nat) (z9_0 : Int32) (z9_1 : Int32) : va_W := [((X 0), .inr (12, [.ref (X 1), .ref (X 8), .ref (X 20), .ref (X 39), .ref (X 41), .ref (X 43), .ref (X 45)])), ((X 45), .inr (2, [.ref (X 46), .ref (X 47), .int z9_0, .int z9_1]))]
def vs_k_X10_checkWalk : List Cond := .code yX10_checkWalk cX10_checkWalk 1 none :: ([.fieldLink RX10 56 "AnswerFold" "answers" "LAnswerFold$Answers;", .classLink RX10 71 "java/lang/IllegalStateException", .initialized "java/lang/IllegalStateException"] ++ (u_ws RX10 TX10 7 ++ (u_ws RX0 TX0 4 ++ ((vx_atS RX10 75 "java/lang/IllegalStateException" ["java/lang/RuntimeException", "java/lang/Exception"]).filter goodWord))))
theorem iv_k_X10_checkWalk_X0 : ∀ w ∈ u_ws RX0 TX0 4, w ∈ vs_k_X10_checkWalk := (fun _ h => List.mem_cons_of_mem _ (List.mem_append_right _ (List.mem_append_right _ (List.mem_append_left _ h))))
theorem iv_k_X10_checkWalk_X10 : ∀ w ∈ u_ws RX10 TX10 7, w ∈ vs_k_X10_checkWalk := (fun _ h => List.mem_cons_of_mem _ (List.mem_append_right _ (List.mem_append_left _ h)))
theorem ix_k_X10_checkWalk_75 : ∀ w ∈ (vx_atS RX10 75 "java/lang/IllegalStateException" ["java/lang/RuntimeException", "java/lang/Exception"]).filter goodWord, w ∈ vs_k_X10_checkWalk := (fun _ h => List.mem_cons_of_mem _ (List.mem_append_right _ (List.mem_append_right _ (List.mem_append_right _ (h)))))
set_option maxHeartbeats 4000000 in
set_option maxRecDepth 100000 in
theorem k_X10_checkWalk (l : Launch) (hl9 : l.stackTraces = false) (D : va_G) (ty : Nat → ClassId) (td mi sz : Nat) (X : Nat → Nat) (nn : Int32) (kp : Int32) (TT : r_k_X10_checkWalk) (hTT : TT = m_k_X10_checkWalk kp) : vx_Met l yX10_checkWalk vs_k_X10_checkWalk { frames := 6, cells := 1, slots := 6, locals := 82 } (va_Pc [.ref (X 0)] (wq_P D ty td mi (wW_k_X10_checkWalk ty X nn kp) sz)) (va_Qv (fun u : va_W => (TT = 0 ∧ (u = (wW_k_X10_checkWalk ty X nn kp)))) (wq_B D (va_A (wW_k_X10_checkWalk ty X nn kp) sz)) (va_A (wW_k_X10_checkWalk ty X nn kp) sz)) (vx_X (fun u : String × va_W => (TT = 3 ∧ u = ("java/lang/IllegalStateException", (wW_k_X10_checkWalk ty X nn kp)))) (wq_BX D (va_A (wW_k_X10_checkWalk ty X nn kp) sz)) (va_A (wW_k_X10_checkWalk ty X nn kp) sz)) 1 6 (va_A (wW_k_X10_checkWalk ty X nn kp) sz) := by
  refine vx_ofW (cc := cX10_checkWalk) (maxL := 1) (ret := none) (by decide) rfl ?_
  intro p e s m args below meth c s₁ B hml hEx hv
  obtain ⟨rfl, hsz, hP, hK, hD0, hE⟩ := hv
  have hx := B.exec
  have hb := B.bytes
  have hr := B.returns
  have hts := atoms_spec (ws := vs_k_X10_checkWalk) B.pre
  have hown : s.vm.findClass RX10 = some m.cls := findClass_of_methodNamed B.named
  have hlocks := B.notSynchronized
  subst hsz
  have hD := hD0.self (sz := s.heap.size)
  generalize hAe : va_A (wW_k_X10_checkWalk ty X nn kp) s.heap.size = A at hD hE ⊢
  have hA : ∀ q : Nat, s.heap.size ≤ q → A q := fun q h => by rw [← hAe]; exact Or.inr h
  have hS : va_S A s.heap s.heap [] := va_S.rf
  have hP : va_P D vwCl (wW_k_X10_checkWalk ty X nn kp) s.heap := hP
  have hl := lv_entry ([.ref (X 0)]) (n := 1) (Nat.le_of_ble_eq_true rfl)
  rw [lg_entry_eq]
  generalize (lg_sl ([.ref (X 0)]) ++ List.replicate (1 - (lg_sl ([.ref (X 0)])).length) Slot.unset).toArray = ls at hl ⊢
  have hl : lv_has ls 1 [(0, .ref (X 0))] := hl
  have END : ∀ (_ : Unit), TT = 0 → ∀ (H : Heap) (locs : List Loc), va_P D vwCl (wW_k_X10_checkWalk ty X nn kp) H → va_D A (wW_k_X10_checkWalk ty X nn kp) → va_S A s.heap H locs → ∀ (ls : Array Slot) (pc : Nat), decode cX10_checkWalk pc = .ok (.return_, 1) → W p l e (headSpec vs_k_X10_checkWalk { frames := 6, cells := 1, slots := 6, locals := 82 }).room s m ([.ref (X 0)] : List Value).toArray below meth c H locs 1 6 (vx_MQ below (va_Qv (fun u : va_W => (TT = 0 ∧ (u = (wW_k_X10_checkWalk ty X nn kp)))) (wq_B D A) A) (vx_X (fun u : String × va_W => (TT = 3 ∧ u = ("java/lang/IllegalStateException", (wW_k_X10_checkWalk ty X nn kp)))) (wq_BX D A) A) ([.ref (X 0)] : List Value).toArray s 1 6 A) (F0 m pc ls []) := by
    intro _ hT H locs hP hD hS ls pc hd
    have hM : TT = 0 := hT
    refine vx_ret ?_
    exact W.vret hx hb hr (fun t ht hW => ⟨⟨(wW_k_X10_checkWalk ty X nn kp), rfl, ⟨(by rw [hM]), rfl⟩, wq_B.of ht hP hD⟩, hS.F ht⟩) hS.2.2 hd
  have hT := hTT
  rw [m_k_X10_checkWalk] at hT
  refine lv_aload_n hx hb dX10_checkWalk_0 rfl (lv_at hl 0 rfl) ?_
  refine va_get (D := D) (ci := 12) (v := .ref (X 45)) (C := RX10) (T := TX10) (N := 7) hx hb hts iv_k_X10_checkWalk_X10 hown hK hP 0 rfl rfl 6 (by decide) (hts (.fieldLink RX10 56 "AnswerFold" "answers" "LAnswerFold$Answers;") (by decide +kernel)) (fun _ h9 => h9) rfl dX10_checkWalk_1 ?_
  refine va_getN (D := D) (ci := 2) (v := .int kp) (C := RX0) (T := TX0) (N := 4) hx hb hts iv_k_X10_checkWalk_X0 hown hK hP 1 rfl rfl 3 (by decide) (hE.at (.fieldLinkNest "AnswerFold" 235 "AnswerFold$Answers" "isKept" "Z" "AnswerFold") (by decide +kernel)) (fun _ h9 => h9) rfl dX10_checkWalk_4 ?_
  refine lv_if_ne (tgt := 21) hx hb dX10_checkWalk_7 (by decide) (fun c_1 => ?_) (fun c_1 => ?_)
  · rw [if_neg c_1] at hT
    refine W.widen (k := 1) (n := 6) (Nat.le_of_ble_eq_true rfl) (Nat.le_of_ble_eq_true rfl) ?_
    exact END () hT _ _ hP hD hS _ _ dX10_checkWalk_21
  · rw [if_pos c_1] at hT
    obtain ⟨sa, hsa⟩ := hE.st 371 "no walk is kept" (by decide +kernel)
    exact vx_throwSW (own := RX10) (cls := "java/lang/IllegalStateException") (text := "no walk is kept") (names := ["java/lang/RuntimeException", "java/lang/Exception"]) (ik := 71) (is := 371) (ic := 75) (sa := sa) (A := A) hx hb hl9 hown (by decide +kernel) (by decide +kernel) (hts (.classLink RX10 71 "java/lang/IllegalStateException") (by decide +kernel)) (hts (.initialized "java/lang/IllegalStateException") (by decide +kernel)) hsa (wq_hat hE hts ix_k_X10_checkWalk_75 (by decide +kernel) (by decide +kernel)) (by decide +kernel) hE.zu hE.zs hS (hl.1.trans hml.symm) dX10_checkWalk_10 dX10_checkWalk_13 dX10_checkWalk_14 dX10_checkWalk_17 dX10_checkWalk_20 (fun x hx => (hEx x hx).elim) (Nat.le_of_ble_eq_true rfl) (Nat.le_of_ble_eq_true rfl) (Nat.le_of_ble_eq_true rfl) (Nat.le_of_ble_eq_true rfl) hlocks (fun t ha hz hk => wq_thrW (W := (wW_k_X10_checkWalk ty X nn kp)) hS hP hD (by exact ⟨(by rw [hT]), (by first | rw [hT] | rfl)⟩) hz hk) hS.2.2 (Nat.le_of_ble_eq_true rfl) (Nat.le_of_ble_eq_true rfl)
theorem dX10_isValue_0 : decode cX10_isValue 0 = .ok (.iload_n 0, 1) := by decide +kernel
theorem dX10_isValue_1 : decode cX10_isValue 1 = .ok (.ifCond .lt 13, 3) := by decide +kernel
theorem dX10_isValue_4 : decode cX10_isValue 4 = .ok (.iload_n 0, 1) := by decide +kernel
theorem dX10_isValue_5 : decode cX10_isValue 5 = .ok (.bipush 8, 2) := by decide +kernel
theorem dX10_isValue_7 : decode cX10_isValue 7 = .ok (.if_icmp .ge 7, 3) := by decide +kernel
theorem dX10_isValue_10 : decode cX10_isValue 10 = .ok (.iconst 1, 1) := by decide +kernel
theorem dX10_isValue_11 : decode cX10_isValue 11 = .ok (.goto 4, 3) := by decide +kernel
theorem dX10_isValue_14 : decode cX10_isValue 14 = .ok (.iconst 0, 1) := by decide +kernel
theorem dX10_isValue_15 : decode cX10_isValue 15 = .ok (.ireturn, 1) := by decide +kernel
def vs_k_X10_isValue : List Cond := .code yX10_isValue cX10_isValue 1 (some .boolean) :: ([])
set_option maxHeartbeats 4000000 in
set_option maxRecDepth 100000 in
theorem k_X10_isValue (l : Launch) (D : va_G) (ty : Nat → ClassId) (td mi sz : Nat) (a1 : Int32) (TT : r_k_X10_isValue) (hTT : TT = m_k_X10_isValue a1) : Met l yX10_isValue vs_k_X10_isValue { frames := 0, cells := 0, slots := 0, locals := 0 } (va_Pc [.int a1] (wq_P D ty td mi [] sz)) (va_Qi (fun (r : Int32) (u : va_W) => (r = TT ∧ (TT = 0 ∨ TT = 1) ∧ (u = []))) (wq_B D (va_A [] sz)) (va_A [] sz)) 0 0 (va_A [] sz) := by
  refine Met.ofW (cc := cX10_isValue) (maxL := 1) (ret := (some .boolean)) (by decide) rfl ?_
  intro p e s m args below meth c s₁ B hml hv
  obtain ⟨rfl, hsz, hP, hK, hD0, hE⟩ := hv
  have hx := B.exec
  have hb := B.bytes
  have hr := B.returns
  have hts := atoms_spec (ws := vs_k_X10_isValue) B.pre
  have hown : s.vm.findClass RX10 = some m.cls := findClass_of_methodNamed B.named
  have hlocks := B.notSynchronized
  subst hsz
  have hD := hD0.self (sz := s.heap.size)
  generalize hAe : va_A [] s.heap.size = A at hD hE ⊢
  have hA : ∀ q : Nat, s.heap.size ≤ q → A q := fun q h => by rw [← hAe]; exact Or.inr h
  have hS : va_S A s.heap s.heap [] := va_S.rf
  have hP : va_P D vwCl [] s.heap := hP
  have hl := lv_entry ([.int a1]) (n := 1) (Nat.le_of_ble_eq_true rfl)
  rw [lg_entry_eq]
  generalize (lg_sl ([.int a1]) ++ List.replicate (1 - (lg_sl ([.int a1])).length) Slot.unset).toArray = ls at hl ⊢
  have hl : lv_has ls 1 [(0, .int a1)] := hl
  have END : ∀ (r : Int32), TT = r → (r = 0 ∨ r = 1) → ∀ (H : Heap) (locs : List Loc), va_P D vwCl [] H → va_D A [] → va_S A s.heap H locs → ∀ (ls : Array Slot) (pc : Nat), decode cX10_isValue pc = .ok (.ireturn, 1) → W p l e (headSpec vs_k_X10_isValue { frames := 0, cells := 0, slots := 0, locals := 0 }).room s m ([.int a1] : List Value).toArray below meth c H locs 0 0 (MQ below (va_Qi (fun (r : Int32) (u : va_W) => (r = TT ∧ (TT = 0 ∨ TT = 1) ∧ (u = []))) (wq_B D A) A) ([.int a1] : List Value).toArray s 0 0 A) (F0 m pc ls [.int r]) := by
    intro r hT hb01 H locs hP hD hS ls pc hd
    have hM : TT = r := hT
    exact W.zret (v := r) hx hb hr (wz_nar hb01) (fun t ht hW => ⟨⟨r, [], rfl, ⟨(by rw [hM]), (by rw [hM]; exact hb01), rfl⟩, wq_B.of ht hP hD⟩, hS.F ht⟩) hS.2.2 hd
  have hT := hTT
  rw [m_k_X10_isValue] at hT
  refine lv_iload_n hx hb dX10_isValue_0 rfl (lv_at hl 0 rfl) ?_
  refine lv_if_lt (tgt := 14) hx hb dX10_isValue_1 (by decide) (fun c_1 => ?_) (fun c_1 => ?_)
  · rw [if_pos c_1] at hT
    refine lv_iconst (v := 0) hx hb dX10_isValue_14 (by decide) ?_
    exact END 0 hT (by decide) _ _ hP hD hS _ _ dX10_isValue_15
  · rw [if_neg c_1] at hT
    refine lv_iload_n hx hb dX10_isValue_4 rfl (lv_at hl 0 rfl) ?_
    refine lv_bipush (v := 8) hx hb dX10_isValue_5 (by decide) ?_
    refine lv_icmp_ge (tgt := 14) hx hb dX10_isValue_7 (by decide) (fun c_2 => ?_) (fun c_2 => ?_)
    · rw [if_pos c_2] at hT
      refine lv_iconst (v := 0) hx hb dX10_isValue_14 (by decide) ?_
      exact END 0 hT (by decide) _ _ hP hD hS _ _ dX10_isValue_15
    · rw [if_neg c_2] at hT
      refine lv_iconst (v := 1) hx hb dX10_isValue_10 (by decide) ?_
      refine lv_goto (tgt := 15) hx hb dX10_isValue_11 (by decide) ?_
      exact END 1 hT (by decide) _ _ hP hD hS _ _ dX10_isValue_15
theorem dX10_isTerm_0 : decode cX10_isTerm 0 = .ok (.iload_n 0, 1) := by decide +kernel
theorem dX10_isTerm_1 : decode cX10_isTerm 1 = .ok (.invokestatic 187, 3) := by decide +kernel
theorem dX10_isTerm_4 : decode cX10_isTerm 4 = .ok (.ifCond .ne 15, 3) := by decide +kernel
theorem dX10_isTerm_7 : decode cX10_isTerm 7 = .ok (.iload_n 0, 1) := by decide +kernel
theorem dX10_isTerm_8 : decode cX10_isTerm 8 = .ok (.bipush 40, 2) := by decide +kernel
theorem dX10_isTerm_10 : decode cX10_isTerm 10 = .ok (.if_icmp .eq 9, 3) := by decide +kernel
theorem dX10_isTerm_13 : decode cX10_isTerm 13 = .ok (.iload_n 0, 1) := by decide +kernel
theorem dX10_isTerm_14 : decode cX10_isTerm 14 = .ok (.bipush 50, 2) := by decide +kernel
theorem dX10_isTerm_16 : decode cX10_isTerm 16 = .ok (.if_icmp .ne 5, 3) := by decide +kernel
theorem dX10_isTerm_19 : decode cX10_isTerm 19 = .ok (.iconst 1, 1) := by decide +kernel
theorem dX10_isTerm_20 : decode cX10_isTerm 20 = .ok (.ireturn, 1) := by decide +kernel
theorem dX10_isTerm_21 : decode cX10_isTerm 21 = .ok (.iload_n 0, 1) := by decide +kernel
theorem dX10_isTerm_22 : decode cX10_isTerm 22 = .ok (.bipush 10, 2) := by decide +kernel
theorem dX10_isTerm_24 : decode cX10_isTerm 24 = .ok (.if_icmp .lt 21, 3) := by decide +kernel
theorem dX10_isTerm_27 : decode cX10_isTerm 27 = .ok (.iload_n 0, 1) := by decide +kernel
theorem dX10_isTerm_28 : decode cX10_isTerm 28 = .ok (.bipush 32, 2) := by decide +kernel
theorem dX10_isTerm_30 : decode cX10_isTerm 30 = .ok (.if_icmp .gt 15, 3) := by decide +kernel
theorem dX10_isTerm_33 : decode cX10_isTerm 33 = .ok (.iload_n 0, 1) := by decide +kernel
theorem dX10_isTerm_34 : decode cX10_isTerm 34 = .ok (.bipush 10, 2) := by decide +kernel
theorem dX10_isTerm_36 : decode cX10_isTerm 36 = .ok (.irem, 1) := by decide +kernel
theorem dX10_isTerm_37 : decode cX10_isTerm 37 = .ok (.iconst 2, 1) := by decide +kernel
theorem dX10_isTerm_38 : decode cX10_isTerm 38 = .ok (.if_icmp .gt 7, 3) := by decide +kernel
theorem dX10_isTerm_41 : decode cX10_isTerm 41 = .ok (.iconst 1, 1) := by decide +kernel
theorem dX10_isTerm_42 : decode cX10_isTerm 42 = .ok (.goto 4, 3) := by decide +kernel
theorem dX10_isTerm_45 : decode cX10_isTerm 45 = .ok (.iconst 0, 1) := by decide +kernel
theorem dX10_isTerm_46 : decode cX10_isTerm 46 = .ok (.ireturn, 1) := by decide +kernel
def vs_k_X10_isTerm : List Cond := .code yX10_isTerm cX10_isTerm 1 (some .boolean) :: ([.methodLink RX10 187 yX10_isValue, .static yX10_isValue, .initialized RX10] ++ (vs_k_X10_isValue))
set_option maxRecDepth 20000 in
theorem gv_k_X10_isTerm_0 : GoodIn vs_k_X10_isTerm (va_wsS RX10 187 yX10_isValue vs_k_X10_isValue) := goodIn_app (goodIn_sub (by decide +kernel) (by decide +kernel)) (goodIn_sub (fun _ h => List.mem_cons_of_mem _ (List.mem_append_right _ (h))) (by decide +kernel))
set_option maxHeartbeats 4000000 in
set_option maxRecDepth 100000 in
theorem k_X10_isTerm (l : Launch) (D : va_G) (ty : Nat → ClassId) (td mi sz : Nat) (a1 : Int32) (TT : r_k_X10_isTerm) (hTT : TT = m_k_X10_isTerm a1) : Met l yX10_isTerm vs_k_X10_isTerm { frames := 1, cells := 0, slots := 0, locals := 20 } (va_Pc [.int a1] (wq_P D ty td mi [] sz)) (va_Qi (fun (r : Int32) (u : va_W) => (r = TT ∧ (TT = 0 ∨ TT = 1) ∧ (u = []))) (wq_B D (va_A [] sz)) (va_A [] sz)) 0 0 (va_A [] sz) := by
  refine Met.ofW (cc := cX10_isTerm) (maxL := 1) (ret := (some .boolean)) (by decide) rfl ?_
  intro p e s m args below meth c s₁ B hml hv
  obtain ⟨rfl, hsz, hP, hK, hD0, hE⟩ := hv
  have hx := B.exec
  have hb := B.bytes
  have hr := B.returns
  have hts := atoms_spec (ws := vs_k_X10_isTerm) B.pre
  have hown : s.vm.findClass RX10 = some m.cls := findClass_of_methodNamed B.named
  have hlocks := B.notSynchronized
  subst hsz
  have hD := hD0.self (sz := s.heap.size)
  generalize hAe : va_A [] s.heap.size = A at hD hE ⊢
  have hA : ∀ q : Nat, s.heap.size ≤ q → A q := fun q h => by rw [← hAe]; exact Or.inr h
  have hS : va_S A s.heap s.heap [] := va_S.rf
  have hP : va_P D vwCl [] s.heap := hP
  have hl := lv_entry ([.int a1]) (n := 1) (Nat.le_of_ble_eq_true rfl)
  rw [lg_entry_eq]
  generalize (lg_sl ([.int a1]) ++ List.replicate (1 - (lg_sl ([.int a1])).length) Slot.unset).toArray = ls at hl ⊢
  have hl : lv_has ls 1 [(0, .int a1)] := hl
  have END : ∀ (r : Int32), TT = r → (r = 0 ∨ r = 1) → ∀ (H : Heap) (locs : List Loc), va_P D vwCl [] H → va_D A [] → va_S A s.heap H locs → ∀ (ls : Array Slot) (pc : Nat), decode cX10_isTerm pc = .ok (.ireturn, 1) → W p l e (headSpec vs_k_X10_isTerm { frames := 1, cells := 0, slots := 0, locals := 20 }).room s m ([.int a1] : List Value).toArray below meth c H locs 0 0 (MQ below (va_Qi (fun (r : Int32) (u : va_W) => (r = TT ∧ (TT = 0 ∨ TT = 1) ∧ (u = []))) (wq_B D A) A) ([.int a1] : List Value).toArray s 0 0 A) (F0 m pc ls [.int r]) := by
    intro r hT hb01 H locs hP hD hS ls pc hd
    have hM : TT = r := hT
    exact W.zret (v := r) hx hb hr (wz_nar hb01) (fun t ht hW => ⟨⟨r, [], rfl, ⟨(by rw [hM]), (by rw [hM]; exact hb01), rfl⟩, wq_B.of ht hP hD⟩, hS.F ht⟩) hS.2.2 hd
  have hT := hTT
  rw [m_k_X10_isTerm] at hT
  refine lv_iload_n hx hb dX10_isTerm_0 rfl (lv_at hl 0 rfl) ?_
  obtain ⟨t_1, ht_1⟩ : ∃ t, t = m_k_X10_isValue a1 := ⟨_, rfl⟩
  rw [lE_eq ht_1] at hT
  refine wq_iW (wc := []) (va_runS (As := [.int a1]) (rest := []) ⟨hx, hb, hml, hown, hts⟩ (k_X10_isValue l D ty td mi s.heap.size a1 t_1 ht_1) (va_cwS 1 hts gv_k_X10_isTerm_0 rfl rfl rfl (by decide +kernel) ⟨(Nat.le_of_ble_eq_true rfl), (Nat.le_of_ble_eq_true rfl)⟩) (wm_preS hP hD hK hE hS hA [] rfl) rfl rfl hl.1 rfl (lv_room (Nat.le_of_ble_eq_true rfl)) dX10_isTerm_1 ⟨(Nat.le_of_ble_eq_true rfl), (Nat.le_of_ble_eq_true rfl)⟩) hS hA hP hD [] rfl (fun _ _ h => by rcases h with ⟨-, -, rfl⟩; rfl) (fun r u H locs hw hP hD hS => ?_)
  obtain ⟨hr0, c_3, rfl⟩ := hw
  subst r
  have hP : va_P D vwCl [] H := hP
  have hD : va_D A [] := hD
  refine W.widen (k := 0) (n := 0) (Nat.le_of_ble_eq_true rfl) (Nat.le_of_ble_eq_true rfl) ?_
  refine lv_if_ne (tgt := 19) hx hb dX10_isTerm_4 (by decide) (fun c_4 => ?_) (fun c_4 => ?_)
  · rw [if_neg c_4] at hT
    refine lv_iconst (v := 1) hx hb dX10_isTerm_19 (by decide) ?_
    exact END 1 hT (by decide) _ _ hP hD hS _ _ dX10_isTerm_20
  · rw [if_pos c_4] at hT
    refine lv_iload_n hx hb dX10_isTerm_7 rfl (lv_at hl 0 rfl) ?_
    refine lv_bipush (v := 40) hx hb dX10_isTerm_8 (by decide) ?_
    refine lv_icmp_eq (tgt := 19) hx hb dX10_isTerm_10 (by decide) (fun c_5 => ?_) (fun c_5 => ?_)
    · rw [if_pos c_5] at hT
      refine lv_iconst (v := 1) hx hb dX10_isTerm_19 (by decide) ?_
      exact END 1 hT (by decide) _ _ hP hD hS _ _ dX10_isTerm_20
    · rw [if_neg c_5] at hT
      refine lv_iload_n hx hb dX10_isTerm_13 rfl (lv_at hl 0 rfl) ?_
      refine lv_bipush (v := 50) hx hb dX10_isTerm_14 (by decide) ?_
      refine lv_icmp_ne (tgt := 21) hx hb dX10_isTerm_16 (by decide) (fun c_6 => ?_) (fun c_6 => ?_)
      · rw [if_neg c_6] at hT
        refine lv_iload_n hx hb dX10_isTerm_21 rfl (lv_at hl 0 rfl) ?_
        refine lv_bipush (v := 10) hx hb dX10_isTerm_22 (by decide) ?_
        refine lv_icmp_lt (tgt := 45) hx hb dX10_isTerm_24 (by decide) (fun c_7 => ?_) (fun c_7 => ?_)
        · rw [if_pos c_7] at hT
          refine lv_iconst (v := 0) hx hb dX10_isTerm_45 (by decide) ?_
          exact END 0 hT (by decide) _ _ hP hD hS _ _ dX10_isTerm_46
        · rw [if_neg c_7] at hT
          refine lv_iload_n hx hb dX10_isTerm_27 rfl (lv_at hl 0 rfl) ?_
          refine lv_bipush (v := 32) hx hb dX10_isTerm_28 (by decide) ?_
          refine lv_icmp_gt (tgt := 45) hx hb dX10_isTerm_30 (by decide) (fun c_8 => ?_) (fun c_8 => ?_)
          · rw [if_pos c_8] at hT
            refine lv_iconst (v := 0) hx hb dX10_isTerm_45 (by decide) ?_
            exact END 0 hT (by decide) _ _ hP hD hS _ _ dX10_isTerm_46
          · rw [if_neg c_8] at hT
            refine lv_iload_n hx hb dX10_isTerm_33 rfl (lv_at hl 0 rfl) ?_
            refine lv_bipush (v := 10) hx hb dX10_isTerm_34 (by decide) ?_
            refine lv_irem hx hb dX10_isTerm_36 (by decide) ?_
            refine lv_iconst (v := 2) hx hb dX10_isTerm_37 (by decide) ?_
            refine lv_icmp_gt (tgt := 45) hx hb dX10_isTerm_38 (by decide) (fun c_9 => ?_) (fun c_9 => ?_)
            · rw [if_pos c_9] at hT
              refine lv_iconst (v := 0) hx hb dX10_isTerm_45 (by decide) ?_
              exact END 0 hT (by decide) _ _ hP hD hS _ _ dX10_isTerm_46
            · rw [if_neg c_9] at hT
              refine lv_iconst (v := 1) hx hb dX10_isTerm_41 (by decide) ?_
              refine lv_goto (tgt := 46) hx hb dX10_isTerm_42 (by decide) ?_
              exact END 1 hT (by decide) _ _ hP hD hS _ _ dX10_isTerm_46
      · rw [if_pos c_6] at hT
        refine lv_iconst (v := 1) hx hb dX10_isTerm_19 (by decide) ?_
        exact END 1 hT (by decide) _ _ hP hD hS _ _ dX10_isTerm_20
theorem dX10_checkedAnswer_0 : decode cX10_checkedAnswer 0 = .ok (.aload_n 0, 1) := by decide +kernel
theorem dX10_checkedAnswer_1 : decode cX10_checkedAnswer 1 = .ok (.invokevirtual 312, 3) := by decide +kernel
theorem dX10_checkedAnswer_4 : decode cX10_checkedAnswer 4 = .ok (.iload_n 1, 1) := by decide +kernel
theorem dX10_checkedAnswer_5 : decode cX10_checkedAnswer 5 = .ok (.ifCond .lt 14, 3) := by decide +kernel
theorem dX10_checkedAnswer_8 : decode cX10_checkedAnswer 8 = .ok (.iload_n 1, 1) := by decide +kernel
theorem dX10_checkedAnswer_9 : decode cX10_checkedAnswer 9 = .ok (.aload_n 0, 1) := by decide +kernel
theorem dX10_checkedAnswer_10 : decode cX10_checkedAnswer 10 = .ok (.getfield 56, 3) := by decide +kernel
theorem dX10_checkedAnswer_13 : decode cX10_checkedAnswer 13 = .ok (.getfield 280, 3) := by decide +kernel
theorem dX10_checkedAnswer_16 : decode cX10_checkedAnswer 16 = .ok (.if_icmp .lt 14, 3) := by decide +kernel
theorem dX10_checkedAnswer_19 : decode cX10_checkedAnswer 19 = .ok (.new 134, 3) := by decide +kernel
theorem dX10_checkedAnswer_22 : decode cX10_checkedAnswer 22 = .ok (.dup, 1) := by decide +kernel
theorem dX10_checkedAnswer_23 : decode cX10_checkedAnswer 23 = .ok (.ldc_w 373, 3) := by decide +kernel
theorem dX10_checkedAnswer_26 : decode cX10_checkedAnswer 26 = .ok (.invokespecial 138, 3) := by decide +kernel
theorem dX10_checkedAnswer_29 : decode cX10_checkedAnswer 29 = .ok (.athrow, 1) := by decide +kernel
theorem dX10_checkedAnswer_30 : decode cX10_checkedAnswer 30 = .ok (.aload_n 0, 1) := by decide +kernel
theorem dX10_checkedAnswer_31 : decode cX10_checkedAnswer 31 = .ok (.getfield 56, 3) := by decide +kernel
theorem dX10_checkedAnswer_34 : decode cX10_checkedAnswer 34 = .ok (.iload_n 1, 1) := by decide +kernel
theorem dX10_checkedAnswer_35 : decode cX10_checkedAnswer 35 = .ok (.invokevirtual 348, 3) := by decide +kernel
theorem dX10_checkedAnswer_38 : decode cX10_checkedAnswer 38 = .ok (.ireturn, 1) := by decide +kernel
def wW_k_X10_checkedAnswer (ty : Nat → ClassId) (X : Nat → Nat) (z9_0 : Int32) (z9_1 : Int32) (z9_2 : Nat → Int32) : va_W := [((X 0), .inr (12, [.ref (X 1), .ref (X 8), .ref (X 20), .ref (X 39), .ref (X 41), .ref (X 43), .ref (X 45)])), ((X 45), .inr (2, [.ref (X 46), .ref (X 47), .int z9_0, .int z9_1])), ((X 46), .inl (ty 0, 64, .inl z9_2))]
def vs_k_X10_checkedAnswer : List Cond := .code yX10_checkedAnswer cX10_checkedAnswer 2 (some .int) :: ([.methodLink RX10 312 yX10_checkWalk, .instanceMethod yX10_checkWalk, .selects RX10 yX10_checkWalk yX10_checkWalk, .initialized RX10, .classLink RX10 134 "java/lang/IndexOutOfBoundsException", .initialized "java/lang/IndexOutOfBoundsException", .fieldLink RX10 56 "AnswerFold" "answers" "LAnswerFold$Answers;", .methodLink RX10 348 yX0_setAt, .instanceMethod yX0_setAt, .selects RX0 yX0_setAt yX0_setAt, .initialized RX0] ++ (vs_k_X10_checkWalk ++ ((vx_atS RX10 138 "java/lang/IndexOutOfBoundsException" ["java/lang/RuntimeException", "java/lang/Exception"]).filter goodWord ++ (u_ws RX10 TX10 7 ++ (u_ws RX0 TX0 4 ++ (vs_k_X0_setAt))))))
theorem iv_k_X10_checkedAnswer_X0 : ∀ w ∈ u_ws RX0 TX0 4, w ∈ vs_k_X10_checkedAnswer := (fun _ h => List.mem_cons_of_mem _ (List.mem_append_right _ (List.mem_append_right _ (List.mem_append_right _ (List.mem_append_right _ (List.mem_append_left _ h))))))
theorem iv_k_X10_checkedAnswer_X10 : ∀ w ∈ u_ws RX10 TX10 7, w ∈ vs_k_X10_checkedAnswer := (fun _ h => List.mem_cons_of_mem _ (List.mem_append_right _ (List.mem_append_right _ (List.mem_append_right _ (List.mem_append_left _ h)))))
set_option maxRecDepth 20000 in
theorem gv_k_X10_checkedAnswer_0 : GoodIn vs_k_X10_checkedAnswer (wsV RX10 312 RX10 yX10_checkWalk vs_k_X10_checkWalk) := goodIn_app (goodIn_sub (by decide +kernel) (by decide +kernel)) (goodIn_sub (fun _ h => List.mem_cons_of_mem _ (List.mem_append_right _ (List.mem_append_left _ h))) (by decide +kernel))
set_option maxRecDepth 20000 in
theorem gv_k_X10_checkedAnswer_1 : GoodIn vs_k_X10_checkedAnswer (wsV RX10 348 RX0 yX0_setAt vs_k_X0_setAt) := goodIn_app (goodIn_sub (by decide +kernel) (by decide +kernel)) (goodIn_sub (fun _ h => List.mem_cons_of_mem _ (List.mem_append_right _ (List.mem_append_right _ (List.mem_append_right _ (List.mem_append_right _ (List.mem_append_right _ (h))))))) (by decide +kernel))
theorem ix_k_X10_checkedAnswer_138 : ∀ w ∈ (vx_atS RX10 138 "java/lang/IndexOutOfBoundsException" ["java/lang/RuntimeException", "java/lang/Exception"]).filter goodWord, w ∈ vs_k_X10_checkedAnswer := (fun _ h => List.mem_cons_of_mem _ (List.mem_append_right _ (List.mem_append_right _ (List.mem_append_left _ h))))
set_option maxHeartbeats 4000000 in
set_option maxRecDepth 100000 in
theorem k_X10_checkedAnswer (l : Launch) (hl9 : l.stackTraces = false) (D : va_G) (ty : Nat → ClassId) (td mi sz : Nat) (X : Nat → Nat) (nn : Int32) (kp : Int32) (se : Nat → Int32) (a1 : Int32) (TT : r_k_X10_checkedAnswer) (hTT : TT = m_k_X10_checkedAnswer nn kp se a1) : vx_Met l yX10_checkedAnswer vs_k_X10_checkedAnswer { frames := 7, cells := 2, slots := 12, locals := 102 } (va_Pc [.ref (X 0), .int a1] (wq_P D ty td mi (wW_k_X10_checkedAnswer ty X nn kp se) sz)) (va_Qi (fun (r : Int32) (u : va_W) => (TT.1 = 0 ∧ r = TT.2 ∧ (u = (wW_k_X10_checkedAnswer ty X nn kp se)))) (wq_B D (va_A (wW_k_X10_checkedAnswer ty X nn kp se) sz)) (va_A (wW_k_X10_checkedAnswer ty X nn kp se) sz)) (vx_X (fun u : String × va_W => (TT.1 = 1 ∧ u = ("java/lang/IndexOutOfBoundsException", (wW_k_X10_checkedAnswer ty X nn kp se))) ∨ (TT.1 = 3 ∧ u = ("java/lang/IllegalStateException", (wW_k_X10_checkedAnswer ty X nn kp se)))) (wq_BX D (va_A (wW_k_X10_checkedAnswer ty X nn kp se) sz)) (va_A (wW_k_X10_checkedAnswer ty X nn kp se) sz)) 2 12 (va_A (wW_k_X10_checkedAnswer ty X nn kp se) sz) := by
  refine vx_ofW (cc := cX10_checkedAnswer) (maxL := 2) (ret := (some .int)) (by decide) rfl ?_
  intro p e s m args below meth c s₁ B hml hEx hv
  obtain ⟨rfl, hsz, hP, hK, hD0, hE⟩ := hv
  have hx := B.exec
  have hb := B.bytes
  have hr := B.returns
  have hts := atoms_spec (ws := vs_k_X10_checkedAnswer) B.pre
  have hown : s.vm.findClass RX10 = some m.cls := findClass_of_methodNamed B.named
  have hlocks := B.notSynchronized
  subst hsz
  have hD := hD0.self (sz := s.heap.size)
  generalize hAe : va_A (wW_k_X10_checkedAnswer ty X nn kp se) s.heap.size = A at hD hE ⊢
  have hA : ∀ q : Nat, s.heap.size ≤ q → A q := fun q h => by rw [← hAe]; exact Or.inr h
  have hS : va_S A s.heap s.heap [] := va_S.rf
  have hP : va_P D vwCl (wW_k_X10_checkedAnswer ty X nn kp se) s.heap := hP
  have hl := lv_entry ([.ref (X 0), .int a1]) (n := 2) (Nat.le_of_ble_eq_true rfl)
  rw [lg_entry_eq]
  generalize (lg_sl ([.ref (X 0), .int a1]) ++ List.replicate (2 - (lg_sl ([.ref (X 0), .int a1])).length) Slot.unset).toArray = ls at hl ⊢
  have hl : lv_has ls 2 [(0, .ref (X 0)), (1, .int a1)] := hl
  have END : ∀ (r : Int32), TT = (0, r) → ∀ (H : Heap) (locs : List Loc), va_P D vwCl (wW_k_X10_checkedAnswer ty X nn kp se) H → va_D A (wW_k_X10_checkedAnswer ty X nn kp se) → va_S A s.heap H locs → ∀ (ls : Array Slot) (pc : Nat), decode cX10_checkedAnswer pc = .ok (.ireturn, 1) → W p l e (headSpec vs_k_X10_checkedAnswer { frames := 7, cells := 2, slots := 12, locals := 102 }).room s m ([.ref (X 0), .int a1] : List Value).toArray below meth c H locs 2 12 (vx_MQ below (va_Qi (fun (r : Int32) (u : va_W) => (TT.1 = 0 ∧ r = TT.2 ∧ (u = (wW_k_X10_checkedAnswer ty X nn kp se)))) (wq_B D A) A) (vx_X (fun u : String × va_W => (TT.1 = 1 ∧ u = ("java/lang/IndexOutOfBoundsException", (wW_k_X10_checkedAnswer ty X nn kp se))) ∨ (TT.1 = 3 ∧ u = ("java/lang/IllegalStateException", (wW_k_X10_checkedAnswer ty X nn kp se)))) (wq_BX D A) A) ([.ref (X 0), .int a1] : List Value).toArray s 2 12 A) (F0 m pc ls [.int r]) := by
    intro r hT H locs hP hD hS ls pc hd
    have hM : TT = (0, r) := hT
    refine vx_ret ?_
    exact W.iret (v := r) hx hb hr (fun t ht hW => ⟨⟨r, (wW_k_X10_checkedAnswer ty X nn kp se), rfl, ⟨(by rw [hM]), (by rw [hM]), rfl⟩, wq_B.of ht hP hD⟩, hS.F ht⟩) hS.2.2 hd
  have hT := hTT
  rw [m_k_X10_checkedAnswer] at hT
  refine lv_aload_n hx hb dX10_checkedAnswer_0 rfl (lv_at hl 0 rfl) ?_
  obtain ⟨t_1, ht_1⟩ : ∃ t, t = m_k_X10_checkWalk kp := ⟨_, rfl⟩
  rw [lE_eq ht_1] at hT
  refine wq_xvW (wc := (wW_k_X10_checkWalk ty X nn kp)) (vx_runV (As := []) (rest := []) ⟨hx, hb, hml, hown, hts⟩ (k_X10_checkWalk l hl9 D ty td mi s.heap.size X nn kp t_1 ht_1) (cwV 0 hts gv_k_X10_checkedAnswer_0 rfl rfl rfl (by decide +kernel) ⟨(Nat.le_of_ble_eq_true rfl), (Nat.le_of_ble_eq_true rfl)⟩) (wm_V (wm_preS hP hD hK hE hS hA [true, true] rfl) (va_recv (q0 := 0) (ci := 12) hK hP rfl rfl)) rfl rfl hl.1 rfl (lv_room (Nat.le_of_ble_eq_true rfl)) dX10_checkedAnswer_1 ⟨(Nat.le_of_ble_eq_true rfl), (Nat.le_of_ble_eq_true rfl)⟩) hS hA hP hD [true, true] rfl (fun _ h => by rcases h with ⟨-, rfl⟩; rfl) (fun _ _ h => by rcases h with ⟨-, h⟩ <;> (cases h; rfl)) (fun E9 u H locs q9 ce hw hP hD hS hce hcv hcl => ?_) (fun u H locs hw hP hD hS => ?_)
  · obtain ⟨c_1, hEq⟩ := hw
    cases hEq
    rw [if_neg (show ¬ t_1 = 0 by rw [c_1]; decide)] at hT
    have hP : va_P D vwCl (wW_k_X10_checkedAnswer ty X nn kp se) H := hP
    have hD : va_D A (wW_k_X10_checkedAnswer ty X nn kp se) := hD
    refine vx_widen (k := 2) (n := 12) (Nat.le_of_ble_eq_true rfl) (Nat.le_of_ble_eq_true rfl) ?_
    exact vx_out (E := "java/lang/IllegalStateException") (fun x hx => (hEx x hx).elim) hlocks hce hcv hcl (fun t ht ha => wq_thrW0 (W := (wW_k_X10_checkedAnswer ty X nn kp se)) hS hP hD (by exact (Or.inr ⟨(by rw [hT]), (by first | rw [hT] | rfl)⟩)) ht) hS.2.2 (Nat.le_refl _) (Nat.le_refl _)
  · obtain ⟨c_2, rfl⟩ := hw
    rw [if_pos c_2] at hT
    have hP : va_P D vwCl (wW_k_X10_checkedAnswer ty X nn kp se) H := hP
    have hD : va_D A (wW_k_X10_checkedAnswer ty X nn kp se) := hD
    refine W.widen (k := 1) (n := 6) (Nat.le_of_ble_eq_true rfl) (Nat.le_of_ble_eq_true rfl) ?_
    refine lv_iload_n hx hb dX10_checkedAnswer_4 rfl (lv_at hl 1 rfl) ?_
    have J_19 : ∀ (_ : Unit), TT = m_k_X10_checkedAnswer_19 → ∀ (H : Heap) (locs : List Loc), va_P D vwCl (wW_k_X10_checkedAnswer ty X nn kp se) H → va_D A (wW_k_X10_checkedAnswer ty X nn kp se) → va_S A s.heap H locs → ∀ ls : Array Slot, lv_has ls 2 [] → W p l e (headSpec vs_k_X10_checkedAnswer { frames := 7, cells := 2, slots := 12, locals := 102 }).room s m ([.ref (X 0), .int a1] : List Value).toArray below meth c H locs 1 6 (vx_MQ below (va_Qi (fun (r : Int32) (u : va_W) => (TT.1 = 0 ∧ r = TT.2 ∧ (u = (wW_k_X10_checkedAnswer ty X nn kp se)))) (wq_B D A) A) (vx_X (fun u : String × va_W => (TT.1 = 1 ∧ u = ("java/lang/IndexOutOfBoundsException", (wW_k_X10_checkedAnswer ty X nn kp se))) ∨ (TT.1 = 3 ∧ u = ("java/lang/IllegalStateException", (wW_k_X10_checkedAnswer ty X nn kp se)))) (wq_BX D A) A) ([.ref (X 0), .int a1] : List Value).toArray s 2 12 A) (F0 m 19 ls []) := by
      intro _ hT  H locs hP hD hS ls hl
      rw [m_k_X10_checkedAnswer_19] at hT
      obtain ⟨sa, hsa⟩ := hE.st 373 "no such answer" (by decide +kernel)
      exact vx_throwSW (own := RX10) (cls := "java/lang/IndexOutOfBoundsException") (text := "no such answer") (names := ["java/lang/RuntimeException", "java/lang/Exception"]) (ik := 134) (is := 373) (ic := 138) (sa := sa) (A := A) hx hb hl9 hown (by decide +kernel) (by decide +kernel) (hts (.classLink RX10 134 "java/lang/IndexOutOfBoundsException") (by decide +kernel)) (hts (.initialized "java/lang/IndexOutOfBoundsException") (by decide +kernel)) hsa (wq_hat hE hts ix_k_X10_checkedAnswer_138 (by decide +kernel) (by decide +kernel)) (by decide +kernel) hE.zu hE.zs hS (hl.1.trans hml.symm) dX10_checkedAnswer_19 dX10_checkedAnswer_22 dX10_checkedAnswer_23 dX10_checkedAnswer_26 dX10_checkedAnswer_29 (fun x hx => (hEx x hx).elim) (Nat.le_of_ble_eq_true rfl) (Nat.le_of_ble_eq_true rfl) (Nat.le_of_ble_eq_true rfl) (Nat.le_of_ble_eq_true rfl) hlocks (fun t ha hz hk => wq_thrW (W := (wW_k_X10_checkedAnswer ty X nn kp se)) hS hP hD (by exact (Or.inl ⟨(by rw [hT]), (by first | rw [hT] | rfl)⟩)) hz hk) hS.2.2 (Nat.le_of_ble_eq_true rfl) (Nat.le_of_ble_eq_true rfl)
    refine lv_if_lt (tgt := 19) hx hb dX10_checkedAnswer_5 (by decide) (fun c_4 => ?_) (fun c_4 => ?_)
    · rw [if_pos c_4] at hT
      exact J_19 () hT _ _ hP hD hS _ (lv_sub hl [] rfl)
    · rw [if_neg c_4] at hT
      refine lv_iload_n hx hb dX10_checkedAnswer_8 rfl (lv_at hl 1 rfl) ?_
      refine lv_aload_n hx hb dX10_checkedAnswer_9 rfl (lv_at hl 0 rfl) ?_
      refine va_get (D := D) (ci := 12) (v := .ref (X 45)) (C := RX10) (T := TX10) (N := 7) hx hb hts iv_k_X10_checkedAnswer_X10 hown hK hP 0 rfl rfl 6 (by decide) (hts (.fieldLink RX10 56 "AnswerFold" "answers" "LAnswerFold$Answers;") (by decide +kernel)) (fun _ h9 => h9) rfl dX10_checkedAnswer_10 ?_
      refine va_getN (D := D) (ci := 2) (v := .int nn) (C := RX0) (T := TX0) (N := 4) hx hb hts iv_k_X10_checkedAnswer_X0 hown hK hP 1 rfl rfl 2 (by decide) (hE.at (.fieldLinkNest "AnswerFold" 280 "AnswerFold$Answers" "count" "I" "AnswerFold") (by decide +kernel)) (fun _ h9 => h9) rfl dX10_checkedAnswer_13 ?_
      refine lv_icmp_lt (tgt := 30) hx hb dX10_checkedAnswer_16 (by decide) (fun c_5 => ?_) (fun c_5 => ?_)
      · rw [if_pos c_5] at hT
        refine lv_aload_n hx hb dX10_checkedAnswer_30 rfl (lv_at hl 0 rfl) ?_
        refine va_get (D := D) (ci := 12) (v := .ref (X 45)) (C := RX10) (T := TX10) (N := 7) hx hb hts iv_k_X10_checkedAnswer_X10 hown hK hP 0 rfl rfl 6 (by decide) (hts (.fieldLink RX10 56 "AnswerFold" "answers" "LAnswerFold$Answers;") (by decide +kernel)) (fun _ h9 => h9) rfl dX10_checkedAnswer_31 ?_
        refine lv_iload_n hx hb dX10_checkedAnswer_34 rfl (lv_at hl 1 rfl) ?_
        obtain ⟨t_35, ht_35⟩ : ∃ t, t = m_k_X0_setAt se a1 := ⟨_, rfl⟩
        rw [lE_eq ht_35] at hT
        refine wq_iW (wc := (wW_k_X0_setAt ty (X 45) (X 46) (X 47) nn kp se)) (va_runV (As := [.int a1]) (rest := []) ⟨hx, hb, hml, hown, hts⟩ (k_X0_setAt l D ty td mi H.size (X 45) (X 46) (X 47) nn kp se a1 t_35 ht_35) (cwV 1 hts gv_k_X10_checkedAnswer_1 rfl rfl rfl (by decide +kernel) ⟨(Nat.le_of_ble_eq_true rfl), (Nat.le_of_ble_eq_true rfl)⟩) (wm_V (wm_preS hP hD hK hE hS hA [false, true, true] rfl) (va_recv (q0 := 1) (ci := 2) hK hP rfl rfl)) rfl rfl hl.1 rfl (lv_room (Nat.le_of_ble_eq_true rfl)) dX10_checkedAnswer_35 ⟨(Nat.le_of_ble_eq_true rfl), (Nat.le_of_ble_eq_true rfl)⟩) hS hA hP hD [false, true, true] rfl (fun _ _ h => by rcases h with ⟨-, rfl⟩; rfl) (fun r u H locs hw hP hD hS => ?_)
        obtain ⟨hr0, rfl⟩ := hw
        subst r
        have hP : va_P D vwCl (wW_k_X10_checkedAnswer ty X nn kp se) H := hP
        have hD : va_D A (wW_k_X10_checkedAnswer ty X nn kp se) := hD
        refine W.widen (k := 1) (n := 6) (Nat.le_of_ble_eq_true rfl) (Nat.le_of_ble_eq_true rfl) ?_
        refine W.widen (k := 2) (n := 12) (Nat.le_of_ble_eq_true rfl) (Nat.le_of_ble_eq_true rfl) ?_
        exact END t_35 hT _ _ hP hD hS _ _ dX10_checkedAnswer_38
      · rw [if_neg c_5] at hT
        exact J_19 () hT _ _ hP hD hS _ (lv_sub hl [] rfl)
theorem dX10_checkedAtom_0 : decode cX10_checkedAtom 0 = .ok (.aload_n 0, 1) := by decide +kernel
theorem dX10_checkedAtom_1 : decode cX10_checkedAtom 1 = .ok (.getfield 12, 3) := by decide +kernel
theorem dX10_checkedAtom_4 : decode cX10_checkedAtom 4 = .ok (.iload_n 1, 1) := by decide +kernel
theorem dX10_checkedAtom_5 : decode cX10_checkedAtom 5 = .ok (.invokevirtual 130, 3) := by decide +kernel
theorem dX10_checkedAtom_8 : decode cX10_checkedAtom 8 = .ok (.ifCond .ne 14, 3) := by decide +kernel
theorem dX10_checkedAtom_11 : decode cX10_checkedAtom 11 = .ok (.new 134, 3) := by decide +kernel
theorem dX10_checkedAtom_14 : decode cX10_checkedAtom 14 = .ok (.dup, 1) := by decide +kernel
theorem dX10_checkedAtom_15 : decode cX10_checkedAtom 15 = .ok (.ldc_w 318, 3) := by decide +kernel
theorem dX10_checkedAtom_18 : decode cX10_checkedAtom 18 = .ok (.invokespecial 138, 3) := by decide +kernel
theorem dX10_checkedAtom_21 : decode cX10_checkedAtom 21 = .ok (.athrow, 1) := by decide +kernel
theorem dX10_checkedAtom_22 : decode cX10_checkedAtom 22 = .ok (.aload_n 0, 1) := by decide +kernel
theorem dX10_checkedAtom_23 : decode cX10_checkedAtom 23 = .ok (.getfield 12, 3) := by decide +kernel
theorem dX10_checkedAtom_26 : decode cX10_checkedAtom 26 = .ok (.iload_n 1, 1) := by decide +kernel
theorem dX10_checkedAtom_27 : decode cX10_checkedAtom 27 = .ok (.invokevirtual 101, 3) := by decide +kernel
theorem dX10_checkedAtom_30 : decode cX10_checkedAtom 30 = .ok (.istore 4, 2) := by decide +kernel
theorem dX10_checkedAtom_32 : decode cX10_checkedAtom 32 = .ok (.iload 4, 2) := by decide +kernel
theorem dX10_checkedAtom_34 : decode cX10_checkedAtom 34 = .ok (.ifCond .le 10, 3) := by decide +kernel
theorem dX10_checkedAtom_37 : decode cX10_checkedAtom 37 = .ok (.iload_n 2, 1) := by decide +kernel
theorem dX10_checkedAtom_38 : decode cX10_checkedAtom 38 = .ok (.invokestatic 187, 3) := by decide +kernel
theorem dX10_checkedAtom_41 : decode cX10_checkedAtom 41 = .ok (.ifCond .eq 16, 3) := by decide +kernel
theorem dX10_checkedAtom_44 : decode cX10_checkedAtom 44 = .ok (.iload 4, 2) := by decide +kernel
theorem dX10_checkedAtom_46 : decode cX10_checkedAtom 46 = .ok (.iconst 1, 1) := by decide +kernel
theorem dX10_checkedAtom_47 : decode cX10_checkedAtom 47 = .ok (.if_icmp .le 21, 3) := by decide +kernel
theorem dX10_checkedAtom_50 : decode cX10_checkedAtom 50 = .ok (.iload_n 3, 1) := by decide +kernel
theorem dX10_checkedAtom_51 : decode cX10_checkedAtom 51 = .ok (.invokestatic 187, 3) := by decide +kernel
theorem dX10_checkedAtom_54 : decode cX10_checkedAtom 54 = .ok (.ifCond .ne 14, 3) := by decide +kernel
theorem dX10_checkedAtom_57 : decode cX10_checkedAtom 57 = .ok (.new 60, 3) := by decide +kernel
theorem dX10_checkedAtom_60 : decode cX10_checkedAtom 60 = .ok (.dup, 1) := by decide +kernel
theorem dX10_checkedAtom_61 : decode cX10_checkedAtom 61 = .ok (.ldc_w 375, 3) := by decide +kernel
theorem dX10_checkedAtom_64 : decode cX10_checkedAtom 64 = .ok (.invokespecial 64, 3) := by decide +kernel
theorem dX10_checkedAtom_67 : decode cX10_checkedAtom 67 = .ok (.athrow, 1) := by decide +kernel
theorem dX10_checkedAtom_68 : decode cX10_checkedAtom 68 = .ok (.iload_n 1, 1) := by decide +kernel
theorem dX10_checkedAtom_69 : decode cX10_checkedAtom 69 = .ok (.bipush 64, 2) := by decide +kernel
theorem dX10_checkedAtom_71 : decode cX10_checkedAtom 71 = .ok (.imul, 1) := by decide +kernel
theorem dX10_checkedAtom_72 : decode cX10_checkedAtom 72 = .ok (.iload 4, 2) := by decide +kernel
theorem dX10_checkedAtom_74 : decode cX10_checkedAtom 74 = .ok (.ifCond .le 7, 3) := by decide +kernel
theorem dX10_checkedAtom_77 : decode cX10_checkedAtom 77 = .ok (.iload_n 2, 1) := by decide +kernel
theorem dX10_checkedAtom_78 : decode cX10_checkedAtom 78 = .ok (.goto 4, 3) := by decide +kernel
theorem dX10_checkedAtom_81 : decode cX10_checkedAtom 81 = .ok (.iconst 0, 1) := by decide +kernel
theorem dX10_checkedAtom_82 : decode cX10_checkedAtom 82 = .ok (.bipush 8, 2) := by decide +kernel
theorem dX10_checkedAtom_84 : decode cX10_checkedAtom 84 = .ok (.imul, 1) := by decide +kernel
theorem dX10_checkedAtom_85 : decode cX10_checkedAtom 85 = .ok (.iadd, 1) := by decide +kernel
theorem dX10_checkedAtom_86 : decode cX10_checkedAtom 86 = .ok (.iload 4, 2) := by decide +kernel
theorem dX10_checkedAtom_88 : decode cX10_checkedAtom 88 = .ok (.iconst 1, 1) := by decide +kernel
theorem dX10_checkedAtom_89 : decode cX10_checkedAtom 89 = .ok (.if_icmp .le 7, 3) := by decide +kernel
theorem dX10_checkedAtom_92 : decode cX10_checkedAtom 92 = .ok (.iload_n 3, 1) := by decide +kernel
theorem dX10_checkedAtom_93 : decode cX10_checkedAtom 93 = .ok (.goto 4, 3) := by decide +kernel
theorem dX10_checkedAtom_96 : decode cX10_checkedAtom 96 = .ok (.iconst 0, 1) := by decide +kernel
theorem dX10_checkedAtom_97 : decode cX10_checkedAtom 97 = .ok (.iadd, 1) := by decide +kernel
theorem dX10_checkedAtom_98 : decode cX10_checkedAtom 98 = .ok (.ireturn, 1) := by decide +kernel
def wW_k_X10_checkedAtom (ty : Nat → ClassId) (X : Nat → Nat) (z9_0 : Int32) (z9_1 : Int32) (z9_2 : Int32) (z9_3 : Int32) (z9_4 : Nat → Int32) : va_W := [((X 0), .inr (12, [.ref (X 1), .ref (X 8), .ref (X 20), .ref (X 39), .ref (X 41), .ref (X 43), .ref (X 45)])), ((X 1), .inr (8, [.ref (X 2), .int z9_0, .ref (X 3), .int z9_1, .ref (X 4), .ref (X 5), .int z9_2, .ref (X 6), .ref (X 7), .int z9_3])), ((X 2), .inl (ty 0, 6, .inl z9_4))]
def vs_k_X10_checkedAtom : List Cond := .code yX10_checkedAtom cX10_checkedAtom 5 (some .int) :: ([.fieldLink RX10 12 "AnswerFold" "program" "LAnswerFold$Program;", .methodLink RX10 130 yX6_hasPredicate, .instanceMethod yX6_hasPredicate, .selects RX6 yX6_hasPredicate yX6_hasPredicate, .initialized RX6, .methodLink RX10 101 yX6_placesOf, .instanceMethod yX6_placesOf, .selects RX6 yX6_placesOf yX6_placesOf, .classLink RX10 60 "java/lang/IllegalArgumentException", .initialized "java/lang/IllegalArgumentException", .methodLink RX10 187 yX10_isValue, .static yX10_isValue, .initialized RX10, .classLink RX10 134 "java/lang/IndexOutOfBoundsException", .initialized "java/lang/IndexOutOfBoundsException"] ++ (u_ws RX10 TX10 7 ++ (vs_k_X6_hasPredicate ++ (vs_k_X6_placesOf ++ ((vx_atS RX10 64 "java/lang/IllegalArgumentException" ["java/lang/RuntimeException", "java/lang/Exception"]).filter goodWord ++ (vs_k_X10_isValue ++ ((vx_atS RX10 138 "java/lang/IndexOutOfBoundsException" ["java/lang/RuntimeException", "java/lang/Exception"]).filter goodWord)))))))
theorem iv_k_X10_checkedAtom_X10 : ∀ w ∈ u_ws RX10 TX10 7, w ∈ vs_k_X10_checkedAtom := (fun _ h => List.mem_cons_of_mem _ (List.mem_append_right _ (List.mem_append_left _ h)))
set_option maxRecDepth 20000 in
theorem gv_k_X10_checkedAtom_0 : GoodIn vs_k_X10_checkedAtom (wsV RX10 130 RX6 yX6_hasPredicate vs_k_X6_hasPredicate) := goodIn_app (goodIn_sub (by decide +kernel) (by decide +kernel)) (goodIn_sub (fun _ h => List.mem_cons_of_mem _ (List.mem_append_right _ (List.mem_append_right _ (List.mem_append_left _ h)))) (by decide +kernel))
set_option maxRecDepth 20000 in
theorem gv_k_X10_checkedAtom_1 : GoodIn vs_k_X10_checkedAtom (wsV RX10 101 RX6 yX6_placesOf vs_k_X6_placesOf) := goodIn_app (goodIn_sub (by decide +kernel) (by decide +kernel)) (goodIn_sub (fun _ h => List.mem_cons_of_mem _ (List.mem_append_right _ (List.mem_append_right _ (List.mem_append_right _ (List.mem_append_left _ h))))) (by decide +kernel))
set_option maxRecDepth 20000 in
theorem gv_k_X10_checkedAtom_2 : GoodIn vs_k_X10_checkedAtom (va_wsS RX10 187 yX10_isValue vs_k_X10_isValue) := goodIn_app (goodIn_sub (by decide +kernel) (by decide +kernel)) (goodIn_sub (fun _ h => List.mem_cons_of_mem _ (List.mem_append_right _ (List.mem_append_right _ (List.mem_append_right _ (List.mem_append_right _ (List.mem_append_right _ (List.mem_append_left _ h))))))) (by decide +kernel))
set_option maxRecDepth 20000 in
theorem gv_k_X10_checkedAtom_3 : GoodIn vs_k_X10_checkedAtom (va_wsS RX10 187 yX10_isValue vs_k_X10_isValue) := goodIn_app (goodIn_sub (by decide +kernel) (by decide +kernel)) (goodIn_sub (fun _ h => List.mem_cons_of_mem _ (List.mem_append_right _ (List.mem_append_right _ (List.mem_append_right _ (List.mem_append_right _ (List.mem_append_right _ (List.mem_append_left _ h))))))) (by decide +kernel))
theorem ix_k_X10_checkedAtom_138 : ∀ w ∈ (vx_atS RX10 138 "java/lang/IndexOutOfBoundsException" ["java/lang/RuntimeException", "java/lang/Exception"]).filter goodWord, w ∈ vs_k_X10_checkedAtom := (fun _ h => List.mem_cons_of_mem _ (List.mem_append_right _ (List.mem_append_right _ (List.mem_append_right _ (List.mem_append_right _ (List.mem_append_right _ (List.mem_append_right _ (h))))))))
theorem ix_k_X10_checkedAtom_64 : ∀ w ∈ (vx_atS RX10 64 "java/lang/IllegalArgumentException" ["java/lang/RuntimeException", "java/lang/Exception"]).filter goodWord, w ∈ vs_k_X10_checkedAtom := (fun _ h => List.mem_cons_of_mem _ (List.mem_append_right _ (List.mem_append_right _ (List.mem_append_right _ (List.mem_append_right _ (List.mem_append_left _ h))))))
set_option maxHeartbeats 4000000 in
set_option maxRecDepth 100000 in
theorem k_X10_checkedAtom (l : Launch) (hl9 : l.stackTraces = false) (D : va_G) (ty : Nat → ClassId) (td mi sz : Nat) (X : Nat → Nat) (pn : Int32) (rn : Int32) (tn : Int32) (en : Int32) (pl : Nat → Int32) (a1 : Int32) (a2 : Int32) (a3 : Int32) (TT : r_k_X10_checkedAtom) (hTT : TT = m_k_X10_checkedAtom pn pl a1 a2 a3) : vx_Met l yX10_checkedAtom vs_k_X10_checkedAtom { frames := 6, cells := 1, slots := 6, locals := 82 } (va_Pc [.ref (X 0), .int a1, .int a2, .int a3] (wq_P D ty td mi (wW_k_X10_checkedAtom ty X pn rn tn en pl) sz)) (va_Qi (fun (r : Int32) (u : va_W) => (TT.1 = 0 ∧ r = TT.2 ∧ (u = (wW_k_X10_checkedAtom ty X pn rn tn en pl)))) (wq_B D (va_A (wW_k_X10_checkedAtom ty X pn rn tn en pl) sz)) (va_A (wW_k_X10_checkedAtom ty X pn rn tn en pl) sz)) (vx_X (fun u : String × va_W => (TT.1 = 1 ∧ u = ("java/lang/IndexOutOfBoundsException", (wW_k_X10_checkedAtom ty X pn rn tn en pl))) ∨ (TT.1 = 2 ∧ u = ("java/lang/IllegalArgumentException", (wW_k_X10_checkedAtom ty X pn rn tn en pl)))) (wq_BX D (va_A (wW_k_X10_checkedAtom ty X pn rn tn en pl) sz)) (va_A (wW_k_X10_checkedAtom ty X pn rn tn en pl) sz)) 1 6 (va_A (wW_k_X10_checkedAtom ty X pn rn tn en pl) sz) := by
  refine vx_ofW (cc := cX10_checkedAtom) (maxL := 5) (ret := (some .int)) (by decide) rfl ?_
  intro p e s m args below meth c s₁ B hml hEx hv
  obtain ⟨rfl, hsz, hP, hK, hD0, hE⟩ := hv
  have hx := B.exec
  have hb := B.bytes
  have hr := B.returns
  have hts := atoms_spec (ws := vs_k_X10_checkedAtom) B.pre
  have hown : s.vm.findClass RX10 = some m.cls := findClass_of_methodNamed B.named
  have hlocks := B.notSynchronized
  subst hsz
  have hD := hD0.self (sz := s.heap.size)
  generalize hAe : va_A (wW_k_X10_checkedAtom ty X pn rn tn en pl) s.heap.size = A at hD hE ⊢
  have hA : ∀ q : Nat, s.heap.size ≤ q → A q := fun q h => by rw [← hAe]; exact Or.inr h
  have hS : va_S A s.heap s.heap [] := va_S.rf
  have hP : va_P D vwCl (wW_k_X10_checkedAtom ty X pn rn tn en pl) s.heap := hP
  have hl := lv_entry ([.ref (X 0), .int a1, .int a2, .int a3]) (n := 5) (Nat.le_of_ble_eq_true rfl)
  rw [lg_entry_eq]
  generalize (lg_sl ([.ref (X 0), .int a1, .int a2, .int a3]) ++ List.replicate (5 - (lg_sl ([.ref (X 0), .int a1, .int a2, .int a3])).length) Slot.unset).toArray = ls at hl ⊢
  have hl : lv_has ls 5 [(0, .ref (X 0)), (1, .int a1), (2, .int a2), (3, .int a3)] := hl
  have END : ∀ (r : Int32), TT = (0, r) → ∀ (H : Heap) (locs : List Loc), va_P D vwCl (wW_k_X10_checkedAtom ty X pn rn tn en pl) H → va_D A (wW_k_X10_checkedAtom ty X pn rn tn en pl) → va_S A s.heap H locs → ∀ (ls : Array Slot) (pc : Nat), decode cX10_checkedAtom pc = .ok (.ireturn, 1) → W p l e (headSpec vs_k_X10_checkedAtom { frames := 6, cells := 1, slots := 6, locals := 82 }).room s m ([.ref (X 0), .int a1, .int a2, .int a3] : List Value).toArray below meth c H locs 1 6 (vx_MQ below (va_Qi (fun (r : Int32) (u : va_W) => (TT.1 = 0 ∧ r = TT.2 ∧ (u = (wW_k_X10_checkedAtom ty X pn rn tn en pl)))) (wq_B D A) A) (vx_X (fun u : String × va_W => (TT.1 = 1 ∧ u = ("java/lang/IndexOutOfBoundsException", (wW_k_X10_checkedAtom ty X pn rn tn en pl))) ∨ (TT.1 = 2 ∧ u = ("java/lang/IllegalArgumentException", (wW_k_X10_checkedAtom ty X pn rn tn en pl)))) (wq_BX D A) A) ([.ref (X 0), .int a1, .int a2, .int a3] : List Value).toArray s 1 6 A) (F0 m pc ls [.int r]) := by
    intro r hT H locs hP hD hS ls pc hd
    have hM : TT = (0, r) := hT
    refine vx_ret ?_
    exact W.iret (v := r) hx hb hr (fun t ht hW => ⟨⟨r, (wW_k_X10_checkedAtom ty X pn rn tn en pl), rfl, ⟨(by rw [hM]), (by rw [hM]), rfl⟩, wq_B.of ht hP hD⟩, hS.F ht⟩) hS.2.2 hd
  have hT := hTT
  rw [m_k_X10_checkedAtom] at hT
  refine lv_aload_n hx hb dX10_checkedAtom_0 rfl (lv_at hl 0 rfl) ?_
  refine va_get (D := D) (ci := 12) (v := .ref (X 1)) (C := RX10) (T := TX10) (N := 7) hx hb hts iv_k_X10_checkedAtom_X10 hown hK hP 0 rfl rfl 0 (by decide) (hts (.fieldLink RX10 12 "AnswerFold" "program" "LAnswerFold$Program;") (by decide +kernel)) (fun _ h9 => h9) rfl dX10_checkedAtom_1 ?_
  refine lv_iload_n hx hb dX10_checkedAtom_4 rfl (lv_at hl 1 rfl) ?_
  obtain ⟨t_5, ht_5⟩ : ∃ t, t = m_k_X6_hasPredicate pn a1 := ⟨_, rfl⟩
  rw [lE_eq ht_5] at hT
  refine wq_iW (wc := (wW_k_X6_hasPredicate ty X pn rn tn en)) (va_runV (As := [.int a1]) (rest := []) ⟨hx, hb, hml, hown, hts⟩ (k_X6_hasPredicate l D ty td mi s.heap.size X pn rn tn en a1 t_5 ht_5) (cwV 1 hts gv_k_X10_checkedAtom_0 rfl rfl rfl (by decide +kernel) ⟨(Nat.le_of_ble_eq_true rfl), (Nat.le_of_ble_eq_true rfl)⟩) (wm_V (wm_preS hP hD hK hE hS hA [false, true] rfl) (va_recv (q0 := 1) (ci := 8) hK hP rfl rfl)) rfl rfl hl.1 rfl (lv_room (Nat.le_of_ble_eq_true rfl)) dX10_checkedAtom_5 ⟨(Nat.le_of_ble_eq_true rfl), (Nat.le_of_ble_eq_true rfl)⟩) hS hA hP hD [false, true] rfl (fun _ _ h => by rcases h with ⟨-, -, rfl⟩; rfl) (fun r u H locs hw hP hD hS => ?_)
  obtain ⟨hr0, c_3, rfl⟩ := hw
  subst r
  have hP : va_P D vwCl (wW_k_X10_checkedAtom ty X pn rn tn en pl) H := hP
  have hD : va_D A (wW_k_X10_checkedAtom ty X pn rn tn en pl) := hD
  refine W.widen (k := 0) (n := 0) (Nat.le_of_ble_eq_true rfl) (Nat.le_of_ble_eq_true rfl) ?_
  refine lv_if_ne (tgt := 22) hx hb dX10_checkedAtom_8 (by decide) (fun c_4 => ?_) (fun c_4 => ?_)
  · rw [if_neg c_4] at hT
    refine lv_aload_n hx hb dX10_checkedAtom_22 rfl (lv_at hl 0 rfl) ?_
    refine va_get (D := D) (ci := 12) (v := .ref (X 1)) (C := RX10) (T := TX10) (N := 7) hx hb hts iv_k_X10_checkedAtom_X10 hown hK hP 0 rfl rfl 0 (by decide) (hts (.fieldLink RX10 12 "AnswerFold" "program" "LAnswerFold$Program;") (by decide +kernel)) (fun _ h9 => h9) rfl dX10_checkedAtom_23 ?_
    refine lv_iload_n hx hb dX10_checkedAtom_26 rfl (lv_at hl 1 rfl) ?_
    obtain ⟨t_27, ht_27⟩ : ∃ t, t = m_k_X6_placesOf pn pl a1 := ⟨_, rfl⟩
    rw [lE_eq ht_27] at hT
    refine wq_iW (wc := (wW_k_X6_placesOf ty X pn rn tn en pl)) (va_runV (As := [.int a1]) (rest := []) ⟨hx, hb, hml, hown, hts⟩ (k_X6_placesOf l D ty td mi H.size X pn rn tn en pl a1 t_27 ht_27) (cwV 1 hts gv_k_X10_checkedAtom_1 rfl rfl rfl (by decide +kernel) ⟨(Nat.le_of_ble_eq_true rfl), (Nat.le_of_ble_eq_true rfl)⟩) (wm_V (wm_preS hP hD hK hE hS hA [false, true, true] rfl) (va_recv (q0 := 1) (ci := 8) hK hP rfl rfl)) rfl rfl hl.1 rfl (lv_room (Nat.le_of_ble_eq_true rfl)) dX10_checkedAtom_27 ⟨(Nat.le_of_ble_eq_true rfl), (Nat.le_of_ble_eq_true rfl)⟩) hS hA hP hD [false, true, true] rfl (fun _ _ h => by rcases h with ⟨-, rfl⟩; rfl) (fun r u H locs hw hP hD hS => ?_)
    obtain ⟨hr0, rfl⟩ := hw
    subst r
    have hP : va_P D vwCl (wW_k_X10_checkedAtom ty X pn rn tn en pl) H := hP
    have hD : va_D A (wW_k_X10_checkedAtom ty X pn rn tn en pl) := hD
    refine W.widen (k := 0) (n := 0) (Nat.le_of_ble_eq_true rfl) (Nat.le_of_ble_eq_true rfl) ?_
    refine lv_istore (lv' := [(4, .int t_27), (0, .ref (X 0)), (1, .int a1), (2, .int a2), (3, .int a3)]) hx hb dX10_checkedAtom_30 hl (by decide) rfl (fun ls hl => ?_)
    refine lv_iload hx hb dX10_checkedAtom_32 (lv_at hl 0 rfl) ?_
    have J_57 : ∀ (_ : Unit), TT = m_k_X10_checkedAtom_57 → ∀ (H : Heap) (locs : List Loc), va_P D vwCl (wW_k_X10_checkedAtom ty X pn rn tn en pl) H → va_D A (wW_k_X10_checkedAtom ty X pn rn tn en pl) → va_S A s.heap H locs → ∀ ls : Array Slot, lv_has ls 5 [] → W p l e (headSpec vs_k_X10_checkedAtom { frames := 6, cells := 1, slots := 6, locals := 82 }).room s m ([.ref (X 0), .int a1, .int a2, .int a3] : List Value).toArray below meth c H locs 0 0 (vx_MQ below (va_Qi (fun (r : Int32) (u : va_W) => (TT.1 = 0 ∧ r = TT.2 ∧ (u = (wW_k_X10_checkedAtom ty X pn rn tn en pl)))) (wq_B D A) A) (vx_X (fun u : String × va_W => (TT.1 = 1 ∧ u = ("java/lang/IndexOutOfBoundsException", (wW_k_X10_checkedAtom ty X pn rn tn en pl))) ∨ (TT.1 = 2 ∧ u = ("java/lang/IllegalArgumentException", (wW_k_X10_checkedAtom ty X pn rn tn en pl)))) (wq_BX D A) A) ([.ref (X 0), .int a1, .int a2, .int a3] : List Value).toArray s 1 6 A) (F0 m 57 ls []) := by
      intro _ hT  H locs hP hD hS ls hl
      rw [m_k_X10_checkedAtom_57] at hT
      obtain ⟨sa, hsa⟩ := hE.st 375 "values are 0 to 7" (by decide +kernel)
      exact vx_throwSW (own := RX10) (cls := "java/lang/IllegalArgumentException") (text := "values are 0 to 7") (names := ["java/lang/RuntimeException", "java/lang/Exception"]) (ik := 60) (is := 375) (ic := 64) (sa := sa) (A := A) hx hb hl9 hown (by decide +kernel) (by decide +kernel) (hts (.classLink RX10 60 "java/lang/IllegalArgumentException") (by decide +kernel)) (hts (.initialized "java/lang/IllegalArgumentException") (by decide +kernel)) hsa (wq_hat hE hts ix_k_X10_checkedAtom_64 (by decide +kernel) (by decide +kernel)) (by decide +kernel) hE.zu hE.zs hS (hl.1.trans hml.symm) dX10_checkedAtom_57 dX10_checkedAtom_60 dX10_checkedAtom_61 dX10_checkedAtom_64 dX10_checkedAtom_67 (fun x hx => (hEx x hx).elim) (Nat.le_of_ble_eq_true rfl) (Nat.le_of_ble_eq_true rfl) (Nat.le_of_ble_eq_true rfl) (Nat.le_of_ble_eq_true rfl) hlocks (fun t ha hz hk => wq_thrW (W := (wW_k_X10_checkedAtom ty X pn rn tn en pl)) hS hP hD (by exact (Or.inr ⟨(by rw [hT]), (by first | rw [hT] | rfl)⟩)) hz hk) hS.2.2 (Nat.le_of_ble_eq_true rfl) (Nat.le_of_ble_eq_true rfl)
    have J_44 : ∀ (_ : Unit), TT = m_k_X10_checkedAtom_44 a1 a2 a3 t_27 → ∀ (H : Heap) (locs : List Loc), va_P D vwCl (wW_k_X10_checkedAtom ty X pn rn tn en pl) H → va_D A (wW_k_X10_checkedAtom ty X pn rn tn en pl) → va_S A s.heap H locs → ∀ ls : Array Slot, lv_has ls 5 [(1, .int a1), (2, .int a2), (3, .int a3), (4, .int t_27)] → W p l e (headSpec vs_k_X10_checkedAtom { frames := 6, cells := 1, slots := 6, locals := 82 }).room s m ([.ref (X 0), .int a1, .int a2, .int a3] : List Value).toArray below meth c H locs 0 0 (vx_MQ below (va_Qi (fun (r : Int32) (u : va_W) => (TT.1 = 0 ∧ r = TT.2 ∧ (u = (wW_k_X10_checkedAtom ty X pn rn tn en pl)))) (wq_B D A) A) (vx_X (fun u : String × va_W => (TT.1 = 1 ∧ u = ("java/lang/IndexOutOfBoundsException", (wW_k_X10_checkedAtom ty X pn rn tn en pl))) ∨ (TT.1 = 2 ∧ u = ("java/lang/IllegalArgumentException", (wW_k_X10_checkedAtom ty X pn rn tn en pl)))) (wq_BX D A) A) ([.ref (X 0), .int a1, .int a2, .int a3] : List Value).toArray s 1 6 A) (F0 m 44 ls []) := by
      intro _ hT  H locs hP hD hS ls hl
      rw [m_k_X10_checkedAtom_44] at hT
      refine lv_iload hx hb dX10_checkedAtom_44 (lv_at hl 3 rfl) ?_
      refine lv_iconst (v := 1) hx hb dX10_checkedAtom_46 (by decide) ?_
      have J_68 : ∀ (_ : Unit), TT = m_k_X10_checkedAtom_68 a1 a2 a3 t_27 → ∀ (H : Heap) (locs : List Loc), va_P D vwCl (wW_k_X10_checkedAtom ty X pn rn tn en pl) H → va_D A (wW_k_X10_checkedAtom ty X pn rn tn en pl) → va_S A s.heap H locs → ∀ ls : Array Slot, lv_has ls 5 [(1, .int a1), (2, .int a2), (3, .int a3), (4, .int t_27)] → W p l e (headSpec vs_k_X10_checkedAtom { frames := 6, cells := 1, slots := 6, locals := 82 }).room s m ([.ref (X 0), .int a1, .int a2, .int a3] : List Value).toArray below meth c H locs 0 0 (vx_MQ below (va_Qi (fun (r : Int32) (u : va_W) => (TT.1 = 0 ∧ r = TT.2 ∧ (u = (wW_k_X10_checkedAtom ty X pn rn tn en pl)))) (wq_B D A) A) (vx_X (fun u : String × va_W => (TT.1 = 1 ∧ u = ("java/lang/IndexOutOfBoundsException", (wW_k_X10_checkedAtom ty X pn rn tn en pl))) ∨ (TT.1 = 2 ∧ u = ("java/lang/IllegalArgumentException", (wW_k_X10_checkedAtom ty X pn rn tn en pl)))) (wq_BX D A) A) ([.ref (X 0), .int a1, .int a2, .int a3] : List Value).toArray s 1 6 A) (F0 m 68 ls []) := by
        intro _ hT  H locs hP hD hS ls hl
        rw [m_k_X10_checkedAtom_68] at hT
        refine lv_iload_n hx hb dX10_checkedAtom_68 rfl (lv_at hl 0 rfl) ?_
        refine lv_bipush (v := 64) hx hb dX10_checkedAtom_69 (by decide) ?_
        refine lv_imul hx hb dX10_checkedAtom_71 ?_
        refine lv_iload hx hb dX10_checkedAtom_72 (lv_at hl 3 rfl) ?_
        have J_82 : ∀ (s0_82 : Int32), TT = m_k_X10_checkedAtom_82 a1 a3 t_27 s0_82 → ∀ (H : Heap) (locs : List Loc), va_P D vwCl (wW_k_X10_checkedAtom ty X pn rn tn en pl) H → va_D A (wW_k_X10_checkedAtom ty X pn rn tn en pl) → va_S A s.heap H locs → ∀ ls : Array Slot, lv_has ls 5 [(3, .int a3), (4, .int t_27)] → W p l e (headSpec vs_k_X10_checkedAtom { frames := 6, cells := 1, slots := 6, locals := 82 }).room s m ([.ref (X 0), .int a1, .int a2, .int a3] : List Value).toArray below meth c H locs 0 0 (vx_MQ below (va_Qi (fun (r : Int32) (u : va_W) => (TT.1 = 0 ∧ r = TT.2 ∧ (u = (wW_k_X10_checkedAtom ty X pn rn tn en pl)))) (wq_B D A) A) (vx_X (fun u : String × va_W => (TT.1 = 1 ∧ u = ("java/lang/IndexOutOfBoundsException", (wW_k_X10_checkedAtom ty X pn rn tn en pl))) ∨ (TT.1 = 2 ∧ u = ("java/lang/IllegalArgumentException", (wW_k_X10_checkedAtom ty X pn rn tn en pl)))) (wq_BX D A) A) ([.ref (X 0), .int a1, .int a2, .int a3] : List Value).toArray s 1 6 A) (F0 m 82 ls [.int s0_82, .int (a1 * 64)]) := by
          intro s0_82 hT  H locs hP hD hS ls hl
          rw [m_k_X10_checkedAtom_82] at hT
          refine lv_bipush (v := 8) hx hb dX10_checkedAtom_82 (by decide) ?_
          refine lv_imul hx hb dX10_checkedAtom_84 ?_
          refine lv_iadd hx hb dX10_checkedAtom_85 ?_
          refine lv_iload hx hb dX10_checkedAtom_86 (lv_at hl 1 rfl) ?_
          refine lv_iconst (v := 1) hx hb dX10_checkedAtom_88 (by decide) ?_
          have J_97 : ∀ (s0_97 : Int32), TT = m_k_X10_checkedAtom_97 a1 s0_82 s0_97 → ∀ (H : Heap) (locs : List Loc), va_P D vwCl (wW_k_X10_checkedAtom ty X pn rn tn en pl) H → va_D A (wW_k_X10_checkedAtom ty X pn rn tn en pl) → va_S A s.heap H locs → ∀ ls : Array Slot, lv_has ls 5 [] → W p l e (headSpec vs_k_X10_checkedAtom { frames := 6, cells := 1, slots := 6, locals := 82 }).room s m ([.ref (X 0), .int a1, .int a2, .int a3] : List Value).toArray below meth c H locs 0 0 (vx_MQ below (va_Qi (fun (r : Int32) (u : va_W) => (TT.1 = 0 ∧ r = TT.2 ∧ (u = (wW_k_X10_checkedAtom ty X pn rn tn en pl)))) (wq_B D A) A) (vx_X (fun u : String × va_W => (TT.1 = 1 ∧ u = ("java/lang/IndexOutOfBoundsException", (wW_k_X10_checkedAtom ty X pn rn tn en pl))) ∨ (TT.1 = 2 ∧ u = ("java/lang/IllegalArgumentException", (wW_k_X10_checkedAtom ty X pn rn tn en pl)))) (wq_BX D A) A) ([.ref (X 0), .int a1, .int a2, .int a3] : List Value).toArray s 1 6 A) (F0 m 97 ls [.int s0_97, .int ((a1 * 64) + (s0_82 * 8))]) := by
            intro s0_97 hT  H locs hP hD hS ls hl
            rw [m_k_X10_checkedAtom_97] at hT
            refine lv_iadd hx hb dX10_checkedAtom_97 ?_
            refine W.widen (k := 1) (n := 6) (Nat.le_of_ble_eq_true rfl) (Nat.le_of_ble_eq_true rfl) ?_
            exact END (((a1 * 64) + (s0_82 * 8)) + s0_97) hT _ _ hP hD hS _ _ dX10_checkedAtom_98
          refine lv_icmp_le (tgt := 96) hx hb dX10_checkedAtom_89 (by decide) (fun c_7 => ?_) (fun c_7 => ?_)
          · rw [if_pos c_7] at hT
            refine lv_iconst (v := 0) hx hb dX10_checkedAtom_96 (by decide) ?_
            exact J_97 0 hT _ _ hP hD hS _ (lv_sub hl [] rfl)
          · rw [if_neg c_7] at hT
            refine lv_iload_n hx hb dX10_checkedAtom_92 rfl (lv_at hl 0 rfl) ?_
            refine lv_goto (tgt := 97) hx hb dX10_checkedAtom_93 (by decide) ?_
            exact J_97 a3 hT _ _ hP hD hS _ (lv_sub hl [] rfl)
        refine lv_if_le (tgt := 81) hx hb dX10_checkedAtom_74 (by decide) (fun c_8 => ?_) (fun c_8 => ?_)
        · rw [if_pos c_8] at hT
          refine lv_iconst (v := 0) hx hb dX10_checkedAtom_81 (by decide) ?_
          exact J_82 0 hT _ _ hP hD hS _ (lv_sub hl [2, 3] rfl)
        · rw [if_neg c_8] at hT
          refine lv_iload_n hx hb dX10_checkedAtom_77 rfl (lv_at hl 1 rfl) ?_
          refine lv_goto (tgt := 82) hx hb dX10_checkedAtom_78 (by decide) ?_
          exact J_82 a2 hT _ _ hP hD hS _ (lv_sub hl [2, 3] rfl)
      refine lv_icmp_le (tgt := 68) hx hb dX10_checkedAtom_47 (by decide) (fun c_9 => ?_) (fun c_9 => ?_)
      · rw [if_pos c_9] at hT
        exact J_68 () hT _ _ hP hD hS _ (lv_sub hl [0, 1, 2, 3] rfl)
      · rw [if_neg c_9] at hT
        refine lv_iload_n hx hb dX10_checkedAtom_50 rfl (lv_at hl 2 rfl) ?_
        obtain ⟨t_51, ht_51⟩ : ∃ t, t = m_k_X10_isValue a3 := ⟨_, rfl⟩
        rw [lE_eq ht_51] at hT
        refine wq_iW (wc := []) (va_runS (As := [.int a3]) (rest := []) ⟨hx, hb, hml, hown, hts⟩ (k_X10_isValue l D ty td mi H.size a3 t_51 ht_51) (va_cwS 1 hts gv_k_X10_checkedAtom_2 rfl rfl rfl (by decide +kernel) ⟨(Nat.le_of_ble_eq_true rfl), (Nat.le_of_ble_eq_true rfl)⟩) (wm_preS hP hD hK hE hS hA [] rfl) rfl rfl hl.1 rfl (lv_room (Nat.le_of_ble_eq_true rfl)) dX10_checkedAtom_51 ⟨(Nat.le_of_ble_eq_true rfl), (Nat.le_of_ble_eq_true rfl)⟩) hS hA hP hD [] rfl (fun _ _ h => by rcases h with ⟨-, -, rfl⟩; rfl) (fun r u H locs hw hP hD hS => ?_)
        obtain ⟨hr0, c_12, rfl⟩ := hw
        subst r
        have hP : va_P D vwCl (wW_k_X10_checkedAtom ty X pn rn tn en pl) H := hP
        have hD : va_D A (wW_k_X10_checkedAtom ty X pn rn tn en pl) := hD
        refine W.widen (k := 0) (n := 0) (Nat.le_of_ble_eq_true rfl) (Nat.le_of_ble_eq_true rfl) ?_
        refine lv_if_ne (tgt := 68) hx hb dX10_checkedAtom_54 (by decide) (fun c_13 => ?_) (fun c_13 => ?_)
        · rw [if_neg c_13] at hT
          exact J_68 () hT _ _ hP hD hS _ (lv_sub hl [0, 1, 2, 3] rfl)
        · rw [if_pos c_13] at hT
          exact J_57 () hT _ _ hP hD hS _ (lv_sub hl [] rfl)
    refine lv_if_le (tgt := 44) hx hb dX10_checkedAtom_34 (by decide) (fun c_14 => ?_) (fun c_14 => ?_)
    · rw [if_pos c_14] at hT
      exact J_44 () hT _ _ hP hD hS _ (lv_sub hl [2, 3, 4, 0] rfl)
    · rw [if_neg c_14] at hT
      refine lv_iload_n hx hb dX10_checkedAtom_37 rfl (lv_at hl 3 rfl) ?_
      obtain ⟨t_38, ht_38⟩ : ∃ t, t = m_k_X10_isValue a2 := ⟨_, rfl⟩
      rw [lE_eq ht_38] at hT
      refine wq_iW (wc := []) (va_runS (As := [.int a2]) (rest := []) ⟨hx, hb, hml, hown, hts⟩ (k_X10_isValue l D ty td mi H.size a2 t_38 ht_38) (va_cwS 1 hts gv_k_X10_checkedAtom_3 rfl rfl rfl (by decide +kernel) ⟨(Nat.le_of_ble_eq_true rfl), (Nat.le_of_ble_eq_true rfl)⟩) (wm_preS hP hD hK hE hS hA [] rfl) rfl rfl hl.1 rfl (lv_room (Nat.le_of_ble_eq_true rfl)) dX10_checkedAtom_38 ⟨(Nat.le_of_ble_eq_true rfl), (Nat.le_of_ble_eq_true rfl)⟩) hS hA hP hD [] rfl (fun _ _ h => by rcases h with ⟨-, -, rfl⟩; rfl) (fun r u H locs hw hP hD hS => ?_)
      obtain ⟨hr0, c_17, rfl⟩ := hw
      subst r
      have hP : va_P D vwCl (wW_k_X10_checkedAtom ty X pn rn tn en pl) H := hP
      have hD : va_D A (wW_k_X10_checkedAtom ty X pn rn tn en pl) := hD
      refine W.widen (k := 0) (n := 0) (Nat.le_of_ble_eq_true rfl) (Nat.le_of_ble_eq_true rfl) ?_
      refine lv_if_eq (tgt := 57) hx hb dX10_checkedAtom_41 (by decide) (fun c_18 => ?_) (fun c_18 => ?_)
      · rw [if_pos c_18] at hT
        exact J_57 () hT _ _ hP hD hS _ (lv_sub hl [] rfl)
      · rw [if_neg c_18] at hT
        exact J_44 () hT _ _ hP hD hS _ (lv_sub hl [2, 3, 4, 0] rfl)
  · rw [if_pos c_4] at hT
    obtain ⟨sa, hsa⟩ := hE.st 318 "no such predicate" (by decide +kernel)
    exact vx_throwSW (own := RX10) (cls := "java/lang/IndexOutOfBoundsException") (text := "no such predicate") (names := ["java/lang/RuntimeException", "java/lang/Exception"]) (ik := 134) (is := 318) (ic := 138) (sa := sa) (A := A) hx hb hl9 hown (by decide +kernel) (by decide +kernel) (hts (.classLink RX10 134 "java/lang/IndexOutOfBoundsException") (by decide +kernel)) (hts (.initialized "java/lang/IndexOutOfBoundsException") (by decide +kernel)) hsa (wq_hat hE hts ix_k_X10_checkedAtom_138 (by decide +kernel) (by decide +kernel)) (by decide +kernel) hE.zu hE.zs hS (hl.1.trans hml.symm) dX10_checkedAtom_11 dX10_checkedAtom_14 dX10_checkedAtom_15 dX10_checkedAtom_18 dX10_checkedAtom_21 (fun x hx => (hEx x hx).elim) (Nat.le_of_ble_eq_true rfl) (Nat.le_of_ble_eq_true rfl) (Nat.le_of_ble_eq_true rfl) (Nat.le_of_ble_eq_true rfl) hlocks (fun t ha hz hk => wq_thrW (W := (wW_k_X10_checkedAtom ty X pn rn tn en pl)) hS hP hD (by exact (Or.inl ⟨(by rw [hT]), (by first | rw [hT] | rfl)⟩)) hz hk) hS.2.2 (Nat.le_of_ble_eq_true rfl) (Nat.le_of_ble_eq_true rfl)
theorem dX10_answersWith_0 : decode cX10_answersWith 0 = .ok (.iconst 0, 1) := by decide +kernel
theorem dX10_answersWith_1 : decode cX10_answersWith 1 = .ok (.istore_n 2, 1) := by decide +kernel
theorem dX10_answersWith_2 : decode cX10_answersWith 2 = .ok (.iconst 0, 1) := by decide +kernel
theorem dX10_answersWith_3 : decode cX10_answersWith 3 = .ok (.istore_n 3, 1) := by decide +kernel
theorem dX10_answersWith_4 : decode cX10_answersWith 4 = .ok (.iload_n 3, 1) := by decide +kernel
theorem dX10_answersWith_5 : decode cX10_answersWith 5 = .ok (.aload_n 0, 1) := by decide +kernel
theorem dX10_answersWith_6 : decode cX10_answersWith 6 = .ok (.getfield 56, 3) := by decide +kernel
theorem dX10_answersWith_9 : decode cX10_answersWith 9 = .ok (.getfield 280, 3) := by decide +kernel
theorem dX10_answersWith_12 : decode cX10_answersWith 12 = .ok (.if_icmp .ge 31, 3) := by decide +kernel
theorem dX10_answersWith_15 : decode cX10_answersWith 15 = .ok (.aload_n 0, 1) := by decide +kernel
theorem dX10_answersWith_16 : decode cX10_answersWith 16 = .ok (.getfield 30, 3) := by decide +kernel
theorem dX10_answersWith_19 : decode cX10_answersWith 19 = .ok (.aload_n 0, 1) := by decide +kernel
theorem dX10_answersWith_20 : decode cX10_answersWith 20 = .ok (.getfield 56, 3) := by decide +kernel
theorem dX10_answersWith_23 : decode cX10_answersWith 23 = .ok (.iload_n 3, 1) := by decide +kernel
theorem dX10_answersWith_24 : decode cX10_answersWith 24 = .ok (.invokevirtual 348, 3) := by decide +kernel
theorem dX10_answersWith_27 : decode cX10_answersWith 27 = .ok (.iload_n 1, 1) := by decide +kernel
theorem dX10_answersWith_28 : decode cX10_answersWith 28 = .ok (.invokevirtual 302, 3) := by decide +kernel
theorem dX10_answersWith_31 : decode cX10_answersWith 31 = .ok (.ifCond .eq 6, 3) := by decide +kernel
theorem dX10_answersWith_34 : decode cX10_answersWith 34 = .ok (.iinc 2 1, 3) := by decide +kernel
theorem dX10_answersWith_37 : decode cX10_answersWith 37 = .ok (.iinc 3 1, 3) := by decide +kernel
theorem dX10_answersWith_40 : decode cX10_answersWith 40 = .ok (.goto (-36), 3) := by decide +kernel
theorem dX10_answersWith_43 : decode cX10_answersWith 43 = .ok (.iload_n 2, 1) := by decide +kernel
theorem dX10_answersWith_44 : decode cX10_answersWith 44 = .ok (.ireturn, 1) := by decide +kernel
def wW_k_X10_answersWith (ty : Nat → ClassId) (X : Nat → Nat) (z9_0 : Int32) (z9_1 : Int32) (z9_2 : Int32) (z9_3 : Int32) (z9_4 : Int32) (z9_5 : Int32) (z9_6 : Nat → Int64) (z9_7 : Nat → Int32) (z9_8 : Int32) (z9_9 : Int32) (z9_10 : Int32) (z9_11 : Int32) (z9_12 : Int32) (z9_13 : Int32) (z9_14 : Int32) (z9_15 : Int32) (z9_16 : Int32) (z9_17 : Int32) (z9_18 : Int32) (z9_19 : Nat → Int32) : va_W := [((X 0), .inr (12, [.ref (X 1), .ref (X 8), .ref (X 20), .ref (X 39), .ref (X 41), .ref (X 43), .ref (X 45)])), ((X 8), .inr (5, [.ref (X 1), .ref (X 9), .ref (X 10), .ref (X 12), .ref (X 14), .int z9_0, .ref (X 15), .ref (X 16), .ref (X 17), .int z9_1, .ref (X 18), .ref (X 19), .int z9_2, .int z9_3, .int z9_4, .int z9_5])), ((X 10), .inr (3, [.ref (X 11)])), ((X 11), .inl (ty 1, 6, .inr (.inl z9_6))), ((X 19), .inl (ty 0, 384, .inl z9_7)), ((X 20), .inr (11, [.ref (X 1), .ref (X 8), .ref (X 21), .ref (X 28), .ref (X 35), .int z9_8, .ref (X 36), .ref (X 37), .ref (X 38), .int z9_9, .int z9_10, .int z9_11, .int z9_12, .int z9_13, .int z9_14, .int z9_15, .int z9_16])), ((X 45), .inr (2, [.ref (X 46), .ref (X 47), .int z9_17, .int z9_18])), ((X 46), .inl (ty 0, 64, .inl z9_19))]
def vs_k_X10_answersWith : List Cond := .code yX10_answersWith cX10_answersWith 4 (some .int) :: ([.fieldLink RX10 56 "AnswerFold" "answers" "LAnswerFold$Answers;", .fieldLink RX10 30 "AnswerFold" "solver" "LAnswerFold$Solver;", .methodLink RX10 348 yX0_setAt, .instanceMethod yX0_setAt, .selects RX0 yX0_setAt yX0_setAt, .initialized RX0, .methodLink RX10 302 yX9_isIn, .instanceMethod yX9_isIn, .selects RX9 yX9_isIn yX9_isIn, .initialized RX9] ++ (u_ws RX10 TX10 7 ++ (u_ws RX0 TX0 4 ++ (vs_k_X0_setAt ++ (vs_k_X9_isIn)))))
theorem iv_k_X10_answersWith_X0 : ∀ w ∈ u_ws RX0 TX0 4, w ∈ vs_k_X10_answersWith := (fun _ h => List.mem_cons_of_mem _ (List.mem_append_right _ (List.mem_append_right _ (List.mem_append_left _ h))))
theorem iv_k_X10_answersWith_X10 : ∀ w ∈ u_ws RX10 TX10 7, w ∈ vs_k_X10_answersWith := (fun _ h => List.mem_cons_of_mem _ (List.mem_append_right _ (List.mem_append_left _ h)))
set_option maxRecDepth 20000 in
theorem gv_k_X10_answersWith_0 : GoodIn vs_k_X10_answersWith (wsV RX10 348 RX0 yX0_setAt vs_k_X0_setAt) := goodIn_app (goodIn_sub (by decide +kernel) (by decide +kernel)) (goodIn_sub (fun _ h => List.mem_cons_of_mem _ (List.mem_append_right _ (List.mem_append_right _ (List.mem_append_right _ (List.mem_append_left _ h))))) (by decide +kernel))
set_option maxRecDepth 20000 in
theorem gv_k_X10_answersWith_1 : GoodIn vs_k_X10_answersWith (wsV RX10 302 RX9 yX9_isIn vs_k_X9_isIn) := goodIn_app (goodIn_sub (by decide +kernel) (by decide +kernel)) (goodIn_sub (fun _ h => List.mem_cons_of_mem _ (List.mem_append_right _ (List.mem_append_right _ (List.mem_append_right _ (List.mem_append_right _ (h)))))) (by decide +kernel))
set_option maxHeartbeats 4000000 in
set_option maxRecDepth 100000 in
theorem k_X10_answersWith (l : Launch) (D : va_G) (ty : Nat → ClassId) (td mi sz : Nat) (X : Nat → Nat) (hn : Int32) (kn : Int32) (on : Int32) (cu : Int32) (pu : Int32) (gw : Int32) (su : Nat → Int64) (ob : Nat → Int32) (an : Int32) (ch : Int32) (cg : Int32) (fb : Int32) (mh : Int32) (ml : Int32) (ih : Int32) (lb : Int32) (ic : Int32) (nn : Int32) (kp : Int32) (se : Nat → Int32) (a1 : Int32) (TT : r_k_X10_answersWith) (hTT : TT = m_k_X10_answersWith on su ob nn se a1) : Met l yX10_answersWith vs_k_X10_answersWith { frames := 3, cells := 0, slots := 0, locals := 66 } (va_Pc [.ref (X 0), .int a1] (wq_P D ty td mi (wW_k_X10_answersWith ty X hn kn on cu pu gw su ob an ch cg fb mh ml ih lb ic nn kp se) sz)) (va_Qi (fun (r : Int32) (u : va_W) => (r = TT ∧ (u = (wW_k_X10_answersWith ty X hn kn on cu pu gw su ob an ch cg fb mh ml ih lb ic nn kp se)))) (wq_B D (va_A (wW_k_X10_answersWith ty X hn kn on cu pu gw su ob an ch cg fb mh ml ih lb ic nn kp se) sz)) (va_A (wW_k_X10_answersWith ty X hn kn on cu pu gw su ob an ch cg fb mh ml ih lb ic nn kp se) sz)) 0 0 (va_A (wW_k_X10_answersWith ty X hn kn on cu pu gw su ob an ch cg fb mh ml ih lb ic nn kp se) sz) := by
  refine Met.ofW (cc := cX10_answersWith) (maxL := 4) (ret := (some .int)) (by decide) rfl ?_
  intro p e s m args below meth c s₁ B hml hv
  obtain ⟨rfl, hsz, hP, hK, hD0, hE⟩ := hv
  have hx := B.exec
  have hb := B.bytes
  have hr := B.returns
  have hts := atoms_spec (ws := vs_k_X10_answersWith) B.pre
  have hown : s.vm.findClass RX10 = some m.cls := findClass_of_methodNamed B.named
  have hlocks := B.notSynchronized
  subst hsz
  have hD := hD0.self (sz := s.heap.size)
  generalize hAe : va_A (wW_k_X10_answersWith ty X hn kn on cu pu gw su ob an ch cg fb mh ml ih lb ic nn kp se) s.heap.size = A at hD hE ⊢
  have hA : ∀ q : Nat, s.heap.size ≤ q → A q := fun q h => by rw [← hAe]; exact Or.inr h
  have hS : va_S A s.heap s.heap [] := va_S.rf
  have hP : va_P D vwCl (wW_k_X10_answersWith ty X hn kn on cu pu gw su ob an ch cg fb mh ml ih lb ic nn kp se) s.heap := hP
  have hl := lv_entry ([.ref (X 0), .int a1]) (n := 4) (Nat.le_of_ble_eq_true rfl)
  rw [lg_entry_eq]
  generalize (lg_sl ([.ref (X 0), .int a1]) ++ List.replicate (4 - (lg_sl ([.ref (X 0), .int a1])).length) Slot.unset).toArray = ls at hl ⊢
  have hl : lv_has ls 4 [(0, .ref (X 0)), (1, .int a1)] := hl
  have END : ∀ (r : Int32), TT = r → ∀ (H : Heap) (locs : List Loc), va_P D vwCl (wW_k_X10_answersWith ty X hn kn on cu pu gw su ob an ch cg fb mh ml ih lb ic nn kp se) H → va_D A (wW_k_X10_answersWith ty X hn kn on cu pu gw su ob an ch cg fb mh ml ih lb ic nn kp se) → va_S A s.heap H locs → ∀ (ls : Array Slot) (pc : Nat), decode cX10_answersWith pc = .ok (.ireturn, 1) → W p l e (headSpec vs_k_X10_answersWith { frames := 3, cells := 0, slots := 0, locals := 66 }).room s m ([.ref (X 0), .int a1] : List Value).toArray below meth c H locs 0 0 (MQ below (va_Qi (fun (r : Int32) (u : va_W) => (r = TT ∧ (u = (wW_k_X10_answersWith ty X hn kn on cu pu gw su ob an ch cg fb mh ml ih lb ic nn kp se)))) (wq_B D A) A) ([.ref (X 0), .int a1] : List Value).toArray s 0 0 A) (F0 m pc ls [.int r]) := by
    intro r hT H locs hP hD hS ls pc hd
    have hM : TT = r := hT
    exact W.iret (v := r) hx hb hr (fun t ht hW => ⟨⟨r, (wW_k_X10_answersWith ty X hn kn on cu pu gw su ob an ch cg fb mh ml ih lb ic nn kp se), rfl, ⟨(by rw [hM]), rfl⟩, wq_B.of ht hP hD⟩, hS.F ht⟩) hS.2.2 hd
  have hT := hTT
  rw [m_k_X10_answersWith] at hT
  refine lv_iconst (v := 0) hx hb dX10_answersWith_0 (by decide) ?_
  refine lv_istore_n (lv' := [(2, .int 0), (0, .ref (X 0)), (1, .int a1)]) hx hb dX10_answersWith_1 rfl hl (by decide) rfl (fun ls hl => ?_)
  refine lv_iconst (v := 0) hx hb dX10_answersWith_2 (by decide) ?_
  refine lv_istore_n (lv' := [(3, .int 0), (2, .int 0), (0, .ref (X 0)), (1, .int a1)]) hx hb dX10_answersWith_3 rfl hl (by decide) rfl (fun ls hl => ?_)
  have L_4 : ∀ (n_4 : Nat) (v2_4 : Int32) (v3_4 : Int32), (2147483648 - v3_4.toInt).toNat < n_4 → TT = m_k_X10_answersWith_4 on su ob nn se a1 n_4 v2_4 v3_4 → 0 ≤ v3_4.toInt → ∀ (H : Heap) (locs : List Loc), va_P D vwCl (wW_k_X10_answersWith ty X hn kn on cu pu gw su ob an ch cg fb mh ml ih lb ic nn kp se) H → va_D A (wW_k_X10_answersWith ty X hn kn on cu pu gw su ob an ch cg fb mh ml ih lb ic nn kp se) → va_S A s.heap H locs → ∀ ls : Array Slot, lv_has ls 4 [(0, .ref (X 0)), (1, .int a1), (2, .int v2_4), (3, .int v3_4)] → W p l e (headSpec vs_k_X10_answersWith { frames := 3, cells := 0, slots := 0, locals := 66 }).room s m ([.ref (X 0), .int a1] : List Value).toArray below meth c H locs 0 0 (MQ below (va_Qi (fun (r : Int32) (u : va_W) => (r = TT ∧ (u = (wW_k_X10_answersWith ty X hn kn on cu pu gw su ob an ch cg fb mh ml ih lb ic nn kp se)))) (wq_B D A) A) ([.ref (X 0), .int a1] : List Value).toArray s 0 0 A) (F0 m 4 ls []) := by
    intro n_4
    induction n_4 with
    | zero => intro v2_4 v3_4 hu; exact absurd hu (Nat.not_lt_zero _)
    | succ n_4 ih_4 =>
      intro v2_4 v3_4 hu_4 hT hn_4 H locs hP hD hS ls hl
      rw [m_k_X10_answersWith_4_succ, m_k_X10_answersWith_4s] at hT
      refine lv_iload_n hx hb dX10_answersWith_4 rfl (lv_at hl 3 rfl) ?_
      refine lv_aload_n hx hb dX10_answersWith_5 rfl (lv_at hl 0 rfl) ?_
      refine va_get (D := D) (ci := 12) (v := .ref (X 45)) (C := RX10) (T := TX10) (N := 7) hx hb hts iv_k_X10_answersWith_X10 hown hK hP 0 rfl rfl 6 (by decide) (hts (.fieldLink RX10 56 "AnswerFold" "answers" "LAnswerFold$Answers;") (by decide +kernel)) (fun _ h9 => h9) rfl dX10_answersWith_6 ?_
      refine va_getN (D := D) (ci := 2) (v := .int nn) (C := RX0) (T := TX0) (N := 4) hx hb hts iv_k_X10_answersWith_X0 hown hK hP 6 rfl rfl 2 (by decide) (hE.at (.fieldLinkNest "AnswerFold" 280 "AnswerFold$Answers" "count" "I" "AnswerFold") (by decide +kernel)) (fun _ h9 => h9) rfl dX10_answersWith_9 ?_
      refine lv_icmp_ge (tgt := 43) hx hb dX10_answersWith_12 (by decide) (fun c_1 => ?_) (fun c_1 => ?_)
      · rw [if_pos c_1] at hT
        refine lv_iload_n hx hb dX10_answersWith_43 rfl (lv_at hl 2 rfl) ?_
        exact END v2_4 hT _ _ hP hD hS _ _ dX10_answersWith_44
      · rw [if_neg c_1] at hT
        refine lv_aload_n hx hb dX10_answersWith_15 rfl (lv_at hl 0 rfl) ?_
        refine va_get (D := D) (ci := 12) (v := .ref (X 20)) (C := RX10) (T := TX10) (N := 7) hx hb hts iv_k_X10_answersWith_X10 hown hK hP 0 rfl rfl 2 (by decide) (hts (.fieldLink RX10 30 "AnswerFold" "solver" "LAnswerFold$Solver;") (by decide +kernel)) (fun _ h9 => h9) rfl dX10_answersWith_16 ?_
        refine lv_aload_n hx hb dX10_answersWith_19 rfl (lv_at hl 0 rfl) ?_
        refine va_get (D := D) (ci := 12) (v := .ref (X 45)) (C := RX10) (T := TX10) (N := 7) hx hb hts iv_k_X10_answersWith_X10 hown hK hP 0 rfl rfl 6 (by decide) (hts (.fieldLink RX10 56 "AnswerFold" "answers" "LAnswerFold$Answers;") (by decide +kernel)) (fun _ h9 => h9) rfl dX10_answersWith_20 ?_
        refine lv_iload_n hx hb dX10_answersWith_23 rfl (lv_at hl 3 rfl) ?_
        obtain ⟨t_24, ht_24⟩ : ∃ t, t = m_k_X0_setAt se v3_4 := ⟨_, rfl⟩
        rw [lE_eq ht_24] at hT
        refine wq_iW (wc := (wW_k_X0_setAt ty (X 45) (X 46) (X 47) nn kp se)) (va_runV (As := [.int v3_4]) (rest := [.ref (X 20)]) ⟨hx, hb, hml, hown, hts⟩ (k_X0_setAt l D ty td mi H.size (X 45) (X 46) (X 47) nn kp se v3_4 t_24 ht_24) (cwV 1 hts gv_k_X10_answersWith_0 rfl rfl rfl (by decide +kernel) ⟨(Nat.le_of_ble_eq_true rfl), (Nat.le_of_ble_eq_true rfl)⟩) (wm_V (wm_preS hP hD hK hE hS hA [false, false, false, false, false, false, true, true] rfl) (va_recv (q0 := 6) (ci := 2) hK hP rfl rfl)) rfl rfl hl.1 rfl (lv_room (Nat.le_of_ble_eq_true rfl)) dX10_answersWith_24 ⟨(Nat.le_of_ble_eq_true rfl), (Nat.le_of_ble_eq_true rfl)⟩) hS hA hP hD [false, false, false, false, false, false, true, true] rfl (fun _ _ h => by rcases h with ⟨-, rfl⟩; rfl) (fun r u H locs hw hP hD hS => ?_)
        obtain ⟨hr0, rfl⟩ := hw
        subst r
        have hP : va_P D vwCl (wW_k_X10_answersWith ty X hn kn on cu pu gw su ob an ch cg fb mh ml ih lb ic nn kp se) H := hP
        have hD : va_D A (wW_k_X10_answersWith ty X hn kn on cu pu gw su ob an ch cg fb mh ml ih lb ic nn kp se) := hD
        refine W.widen (k := 0) (n := 0) (Nat.le_of_ble_eq_true rfl) (Nat.le_of_ble_eq_true rfl) ?_
        refine lv_iload_n hx hb dX10_answersWith_27 rfl (lv_at hl 1 rfl) ?_
        obtain ⟨t_28, ht_28⟩ : ∃ t, t = m_k_X9_isIn on su ob t_24 a1 := ⟨_, rfl⟩
        rw [lE_eq ht_28] at hT
        refine wq_iW (wc := (wW_k_X9_isIn ty X hn kn on cu pu gw su ob an ch cg fb mh ml ih lb ic)) (va_runV (As := [.int t_24, .int a1]) (rest := []) ⟨hx, hb, hml, hown, hts⟩ (k_X9_isIn l D ty td mi H.size X hn kn on cu pu gw su ob an ch cg fb mh ml ih lb ic t_24 a1 t_28 ht_28) (cwV 2 hts gv_k_X10_answersWith_1 rfl rfl rfl (by decide +kernel) ⟨(Nat.le_of_ble_eq_true rfl), (Nat.le_of_ble_eq_true rfl)⟩) (wm_V (wm_preS hP hD hK hE hS hA [false, true, true, true, true, true] rfl) (va_recv (q0 := 5) (ci := 11) hK hP rfl rfl)) rfl rfl hl.1 rfl (lv_room (Nat.le_of_ble_eq_true rfl)) dX10_answersWith_28 ⟨(Nat.le_of_ble_eq_true rfl), (Nat.le_of_ble_eq_true rfl)⟩) hS hA hP hD [false, true, true, true, true, true] rfl (fun _ _ h => by rcases h with ⟨-, -, rfl⟩; rfl) (fun r u H locs hw hP hD hS => ?_)
        obtain ⟨hr0, c_6, rfl⟩ := hw
        subst r
        have hP : va_P D vwCl (wW_k_X10_answersWith ty X hn kn on cu pu gw su ob an ch cg fb mh ml ih lb ic nn kp se) H := hP
        have hD : va_D A (wW_k_X10_answersWith ty X hn kn on cu pu gw su ob an ch cg fb mh ml ih lb ic nn kp se) := hD
        refine W.widen (k := 0) (n := 0) (Nat.le_of_ble_eq_true rfl) (Nat.le_of_ble_eq_true rfl) ?_
        have J_37 : ∀ (v2_37 : Int32), TT = m_k_X10_answersWith_37 (m_k_X10_answersWith_4 on su ob nn se a1 n_4) v3_4 v2_37 → ∀ (H : Heap) (locs : List Loc), va_P D vwCl (wW_k_X10_answersWith ty X hn kn on cu pu gw su ob an ch cg fb mh ml ih lb ic nn kp se) H → va_D A (wW_k_X10_answersWith ty X hn kn on cu pu gw su ob an ch cg fb mh ml ih lb ic nn kp se) → va_S A s.heap H locs → ∀ ls : Array Slot, lv_has ls 4 [(0, .ref (X 0)), (1, .int a1), (2, .int v2_37), (3, .int v3_4)] → W p l e (headSpec vs_k_X10_answersWith { frames := 3, cells := 0, slots := 0, locals := 66 }).room s m ([.ref (X 0), .int a1] : List Value).toArray below meth c H locs 0 0 (MQ below (va_Qi (fun (r : Int32) (u : va_W) => (r = TT ∧ (u = (wW_k_X10_answersWith ty X hn kn on cu pu gw su ob an ch cg fb mh ml ih lb ic nn kp se)))) (wq_B D A) A) ([.ref (X 0), .int a1] : List Value).toArray s 0 0 A) (F0 m 37 ls []) := by
          intro v2_37 hT  H locs hP hD hS ls hl
          rw [m_k_X10_answersWith_37] at hT
          refine lv_iinc (v := v3_4 + 1) (lv' := [(3, .int (v3_4 + 1)), (0, .ref (X 0)), (1, .int a1), (2, .int v2_37)]) hx hb dX10_answersWith_37 hl (k := 3) rfl (by rfl) (by decide) rfl (fun ls hl => ?_)
          refine lv_goto (tgt := 4) hx hb dX10_answersWith_40 (by decide) ?_
          exact ih_4 v2_37 (v3_4 + 1) (wi_up hu_4 (Int32.not_le.mp c_1)) hT (wi_inc hn_4 (Int32.not_le.mp c_1)) _ _ hP hD hS _ (lv_sub hl [1, 2, 3, 0] rfl)
        refine lv_if_eq (tgt := 37) hx hb dX10_answersWith_31 (by decide) (fun c_7 => ?_) (fun c_7 => ?_)
        · rw [if_pos c_7] at hT
          exact J_37 v2_4 hT _ _ hP hD hS _ (lv_sub hl [0, 1, 2, 3] rfl)
        · rw [if_neg c_7] at hT
          refine lv_iinc (v := v2_4 + 1) (lv' := [(2, .int (v2_4 + 1)), (0, .ref (X 0)), (1, .int a1), (3, .int v3_4)]) hx hb dX10_answersWith_34 hl (k := 2) rfl (by rfl) (by decide) rfl (fun ls hl => ?_)
          exact J_37 (v2_4 + 1) hT _ _ hP hD hS _ (lv_sub hl [1, 2, 0, 3] rfl)
  exact L_4 wF 0 0 (wF_up 0) hT (by decide) _ _ hP hD hS _ (lv_sub hl [2, 3, 1, 0] rfl)
theorem dX10_addPredicate_0 : decode cX10_addPredicate 0 = .ok (.iload_n 1, 1) := by decide +kernel
theorem dX10_addPredicate_1 : decode cX10_addPredicate 1 = .ok (.ifCond .lt 8, 3) := by decide +kernel
theorem dX10_addPredicate_4 : decode cX10_addPredicate 4 = .ok (.iload_n 1, 1) := by decide +kernel
theorem dX10_addPredicate_5 : decode cX10_addPredicate 5 = .ok (.iconst 2, 1) := by decide +kernel
theorem dX10_addPredicate_6 : decode cX10_addPredicate 6 = .ok (.if_icmp .le 13, 3) := by decide +kernel
theorem dX10_addPredicate_9 : decode cX10_addPredicate 9 = .ok (.new 60, 3) := by decide +kernel
theorem dX10_addPredicate_12 : decode cX10_addPredicate 12 = .ok (.dup, 1) := by decide +kernel
theorem dX10_addPredicate_13 : decode cX10_addPredicate 13 = .ok (.ldc 62, 2) := by decide +kernel
theorem dX10_addPredicate_15 : decode cX10_addPredicate 15 = .ok (.invokespecial 64, 3) := by decide +kernel
theorem dX10_addPredicate_18 : decode cX10_addPredicate 18 = .ok (.athrow, 1) := by decide +kernel
theorem dX10_addPredicate_19 : decode cX10_addPredicate 19 = .ok (.aload_n 0, 1) := by decide +kernel
theorem dX10_addPredicate_20 : decode cX10_addPredicate 20 = .ok (.getfield 12, 3) := by decide +kernel
theorem dX10_addPredicate_23 : decode cX10_addPredicate 23 = .ok (.getfield 67, 3) := by decide +kernel
theorem dX10_addPredicate_26 : decode cX10_addPredicate 26 = .ok (.bipush 6, 2) := by decide +kernel
theorem dX10_addPredicate_28 : decode cX10_addPredicate 28 = .ok (.if_icmp .lt 13, 3) := by decide +kernel
theorem dX10_addPredicate_31 : decode cX10_addPredicate 31 = .ok (.new 71, 3) := by decide +kernel
theorem dX10_addPredicate_34 : decode cX10_addPredicate 34 = .ok (.dup, 1) := by decide +kernel
theorem dX10_addPredicate_35 : decode cX10_addPredicate 35 = .ok (.ldc 73, 2) := by decide +kernel
theorem dX10_addPredicate_37 : decode cX10_addPredicate 37 = .ok (.invokespecial 75, 3) := by decide +kernel
theorem dX10_addPredicate_40 : decode cX10_addPredicate 40 = .ok (.athrow, 1) := by decide +kernel
theorem dX10_addPredicate_41 : decode cX10_addPredicate 41 = .ok (.aload_n 0, 1) := by decide +kernel
theorem dX10_addPredicate_42 : decode cX10_addPredicate 42 = .ok (.invokevirtual 76, 3) := by decide +kernel
theorem dX10_addPredicate_45 : decode cX10_addPredicate 45 = .ok (.aload_n 0, 1) := by decide +kernel
theorem dX10_addPredicate_46 : decode cX10_addPredicate 46 = .ok (.getfield 12, 3) := by decide +kernel
theorem dX10_addPredicate_49 : decode cX10_addPredicate 49 = .ok (.iload_n 1, 1) := by decide +kernel
theorem dX10_addPredicate_50 : decode cX10_addPredicate 50 = .ok (.invokevirtual 79, 3) := by decide +kernel
theorem dX10_addPredicate_53 : decode cX10_addPredicate 53 = .ok (.ireturn, 1) := by decide +kernel
def wW_k_X10_addPredicate (ty : Nat → ClassId) (X : Nat → Nat) (z9_0 : Int32) (z9_1 : Int32) (z9_2 : Int32) (z9_3 : Int32) (z9_4 : Nat → Int32) (z9_5 : Int32) (z9_6 : Int32) (z9_7 : Int32) (z9_8 : Int32) (z9_9 : Int32) (z9_10 : Int32) (z9_11 : Int32) (z9_12 : Int32) (z9_13 : Int32) (z9_14 : Int32) (z9_15 : Int32) (z9_16 : Int32) (z9_17 : Int32) (z9_18 : Int32) (z9_19 : Int32) (z9_20 : Int32) (z9_21 : Int32) : va_W := [((X 0), .inr (12, [.ref (X 1), .ref (X 8), .ref (X 20), .ref (X 39), .ref (X 41), .ref (X 43), .ref (X 45)])), ((X 1), .inr (8, [.ref (X 2), .int z9_0, .ref (X 3), .int z9_1, .ref (X 4), .ref (X 5), .int z9_2, .ref (X 6), .ref (X 7), .int z9_3])), ((X 2), .inl (ty 0, 6, .inl z9_4)), ((X 8), .inr (5, [.ref (X 1), .ref (X 9), .ref (X 10), .ref (X 12), .ref (X 14), .int z9_5, .ref (X 15), .ref (X 16), .ref (X 17), .int z9_6, .ref (X 18), .ref (X 19), .int z9_7, .int z9_8, .int z9_9, .int z9_10])), ((X 20), .inr (11, [.ref (X 1), .ref (X 8), .ref (X 21), .ref (X 28), .ref (X 35), .int z9_11, .ref (X 36), .ref (X 37), .ref (X 38), .int z9_12, .int z9_13, .int z9_14, .int z9_15, .int z9_16, .int z9_17, .int z9_18, .int z9_19])), ((X 45), .inr (2, [.ref (X 46), .ref (X 47), .int z9_20, .int z9_21]))]
def vs_k_X10_addPredicate : List Cond := .code yX10_addPredicate cX10_addPredicate 2 (some .int) :: ([.classLink RX10 60 "java/lang/IllegalArgumentException", .initialized "java/lang/IllegalArgumentException", .fieldLink RX10 12 "AnswerFold" "program" "LAnswerFold$Program;", .methodLink RX10 76 yX10_forgetGrounding, .instanceMethod yX10_forgetGrounding, .selects RX10 yX10_forgetGrounding yX10_forgetGrounding, .initialized RX10, .methodLink RX10 79 yX6_tellPredicate, .instanceMethod yX6_tellPredicate, .selects RX6 yX6_tellPredicate yX6_tellPredicate, .initialized RX6, .classLink RX10 71 "java/lang/IllegalStateException", .initialized "java/lang/IllegalStateException"] ++ ((vx_atS RX10 64 "java/lang/IllegalArgumentException" ["java/lang/RuntimeException", "java/lang/Exception"]).filter goodWord ++ (u_ws RX10 TX10 7 ++ (u_ws RX6 TX6 10 ++ (vs_k_X10_forgetGrounding ++ (vs_k_X6_tellPredicate ++ ((vx_atS RX10 75 "java/lang/IllegalStateException" ["java/lang/RuntimeException", "java/lang/Exception"]).filter goodWord)))))))
theorem iv_k_X10_addPredicate_X10 : ∀ w ∈ u_ws RX10 TX10 7, w ∈ vs_k_X10_addPredicate := (fun _ h => List.mem_cons_of_mem _ (List.mem_append_right _ (List.mem_append_right _ (List.mem_append_left _ h))))
theorem iv_k_X10_addPredicate_X6 : ∀ w ∈ u_ws RX6 TX6 10, w ∈ vs_k_X10_addPredicate := (fun _ h => List.mem_cons_of_mem _ (List.mem_append_right _ (List.mem_append_right _ (List.mem_append_right _ (List.mem_append_left _ h)))))
set_option maxRecDepth 20000 in
theorem gv_k_X10_addPredicate_0 : GoodIn vs_k_X10_addPredicate (wsV RX10 76 RX10 yX10_forgetGrounding vs_k_X10_forgetGrounding) := goodIn_app (goodIn_sub (by decide +kernel) (by decide +kernel)) (goodIn_sub (fun _ h => List.mem_cons_of_mem _ (List.mem_append_right _ (List.mem_append_right _ (List.mem_append_right _ (List.mem_append_right _ (List.mem_append_left _ h)))))) (by decide +kernel))
set_option maxRecDepth 20000 in
theorem gv_k_X10_addPredicate_1 : GoodIn vs_k_X10_addPredicate (wsV RX10 79 RX6 yX6_tellPredicate vs_k_X6_tellPredicate) := goodIn_app (goodIn_sub (by decide +kernel) (by decide +kernel)) (goodIn_sub (fun _ h => List.mem_cons_of_mem _ (List.mem_append_right _ (List.mem_append_right _ (List.mem_append_right _ (List.mem_append_right _ (List.mem_append_right _ (List.mem_append_left _ h))))))) (by decide +kernel))
theorem ix_k_X10_addPredicate_64 : ∀ w ∈ (vx_atS RX10 64 "java/lang/IllegalArgumentException" ["java/lang/RuntimeException", "java/lang/Exception"]).filter goodWord, w ∈ vs_k_X10_addPredicate := (fun _ h => List.mem_cons_of_mem _ (List.mem_append_right _ (List.mem_append_left _ h)))
theorem ix_k_X10_addPredicate_75 : ∀ w ∈ (vx_atS RX10 75 "java/lang/IllegalStateException" ["java/lang/RuntimeException", "java/lang/Exception"]).filter goodWord, w ∈ vs_k_X10_addPredicate := (fun _ h => List.mem_cons_of_mem _ (List.mem_append_right _ (List.mem_append_right _ (List.mem_append_right _ (List.mem_append_right _ (List.mem_append_right _ (List.mem_append_right _ (h))))))))
set_option maxHeartbeats 4000000 in
set_option maxRecDepth 100000 in
theorem k_X10_addPredicate (l : Launch) (hl9 : l.stackTraces = false) (D : va_G) (ty : Nat → ClassId) (td mi sz : Nat) (X : Nat → Nat) (pn : Int32) (rn : Int32) (tn : Int32) (en : Int32) (pl : Nat → Int32) (hn : Int32) (kn : Int32) (on : Int32) (cu : Int32) (pu : Int32) (gw : Int32) (an : Int32) (ch : Int32) (cg : Int32) (fb : Int32) (mh : Int32) (ml : Int32) (ih : Int32) (lb : Int32) (ic : Int32) (nn : Int32) (kp : Int32) (a1 : Int32) (TT : r_k_X10_addPredicate) (hTT : TT = m_k_X10_addPredicate pn pl cu ic kp a1) : vx_Met l yX10_addPredicate vs_k_X10_addPredicate { frames := 6, cells := 1, slots := 6, locals := 82 } (va_Pc [.ref (X 0), .int a1] (wq_P D ty td mi (wW_k_X10_addPredicate ty X pn rn tn en pl hn kn on cu pu gw an ch cg fb mh ml ih lb ic nn kp) sz)) (va_Qi (fun (r : Int32) (u : va_W) => (TT.1 = 0 ∧ r = TT.2.1 ∧ (u = (wW_k_X10_addPredicate ty X TT.2.2.1 rn tn en TT.2.2.2.1 hn kn on TT.2.2.2.2.2.2 pu gw an ch cg fb mh ml ih lb TT.2.2.2.2.1 nn TT.2.2.2.2.2.1)))) (wq_B D (va_A (wW_k_X10_addPredicate ty X pn rn tn en pl hn kn on cu pu gw an ch cg fb mh ml ih lb ic nn kp) sz)) (va_A (wW_k_X10_addPredicate ty X pn rn tn en pl hn kn on cu pu gw an ch cg fb mh ml ih lb ic nn kp) sz)) (vx_X (fun u : String × va_W => (TT.1 = 2 ∧ u = ("java/lang/IllegalArgumentException", (wW_k_X10_addPredicate ty X TT.2.2.1 rn tn en TT.2.2.2.1 hn kn on TT.2.2.2.2.2.2 pu gw an ch cg fb mh ml ih lb TT.2.2.2.2.1 nn TT.2.2.2.2.2.1))) ∨ (TT.1 = 3 ∧ u = ("java/lang/IllegalStateException", (wW_k_X10_addPredicate ty X TT.2.2.1 rn tn en TT.2.2.2.1 hn kn on TT.2.2.2.2.2.2 pu gw an ch cg fb mh ml ih lb TT.2.2.2.2.1 nn TT.2.2.2.2.2.1)))) (wq_BX D (va_A (wW_k_X10_addPredicate ty X pn rn tn en pl hn kn on cu pu gw an ch cg fb mh ml ih lb ic nn kp) sz)) (va_A (wW_k_X10_addPredicate ty X pn rn tn en pl hn kn on cu pu gw an ch cg fb mh ml ih lb ic nn kp) sz)) 1 6 (va_A (wW_k_X10_addPredicate ty X pn rn tn en pl hn kn on cu pu gw an ch cg fb mh ml ih lb ic nn kp) sz) := by
  refine vx_ofW (cc := cX10_addPredicate) (maxL := 2) (ret := (some .int)) (by decide) rfl ?_
  intro p e s m args below meth c s₁ B hml hEx hv
  obtain ⟨rfl, hsz, hP, hK, hD0, hE⟩ := hv
  have hx := B.exec
  have hb := B.bytes
  have hr := B.returns
  have hts := atoms_spec (ws := vs_k_X10_addPredicate) B.pre
  have hown : s.vm.findClass RX10 = some m.cls := findClass_of_methodNamed B.named
  have hlocks := B.notSynchronized
  subst hsz
  have hD := hD0.self (sz := s.heap.size)
  generalize hAe : va_A (wW_k_X10_addPredicate ty X pn rn tn en pl hn kn on cu pu gw an ch cg fb mh ml ih lb ic nn kp) s.heap.size = A at hD hE ⊢
  have hA : ∀ q : Nat, s.heap.size ≤ q → A q := fun q h => by rw [← hAe]; exact Or.inr h
  have hS : va_S A s.heap s.heap [] := va_S.rf
  have hP : va_P D vwCl (wW_k_X10_addPredicate ty X pn rn tn en pl hn kn on cu pu gw an ch cg fb mh ml ih lb ic nn kp) s.heap := hP
  have hl := lv_entry ([.ref (X 0), .int a1]) (n := 2) (Nat.le_of_ble_eq_true rfl)
  rw [lg_entry_eq]
  generalize (lg_sl ([.ref (X 0), .int a1]) ++ List.replicate (2 - (lg_sl ([.ref (X 0), .int a1])).length) Slot.unset).toArray = ls at hl ⊢
  have hl : lv_has ls 2 [(0, .ref (X 0)), (1, .int a1)] := hl
  have END : ∀ (r : Int32) (w9_0 : Int32) (w9_1 : Nat → Int32) (w9_2 : Int32) (w9_3 : Int32) (w9_4 : Int32), TT = (0, r, w9_0, w9_1, w9_2, w9_3, w9_4) → ∀ (H : Heap) (locs : List Loc), va_P D vwCl (wW_k_X10_addPredicate ty X w9_0 rn tn en w9_1 hn kn on w9_4 pu gw an ch cg fb mh ml ih lb w9_2 nn w9_3) H → va_D A (wW_k_X10_addPredicate ty X w9_0 rn tn en w9_1 hn kn on w9_4 pu gw an ch cg fb mh ml ih lb w9_2 nn w9_3) → va_S A s.heap H locs → ∀ (ls : Array Slot) (pc : Nat), decode cX10_addPredicate pc = .ok (.ireturn, 1) → W p l e (headSpec vs_k_X10_addPredicate { frames := 6, cells := 1, slots := 6, locals := 82 }).room s m ([.ref (X 0), .int a1] : List Value).toArray below meth c H locs 1 6 (vx_MQ below (va_Qi (fun (r : Int32) (u : va_W) => (TT.1 = 0 ∧ r = TT.2.1 ∧ (u = (wW_k_X10_addPredicate ty X TT.2.2.1 rn tn en TT.2.2.2.1 hn kn on TT.2.2.2.2.2.2 pu gw an ch cg fb mh ml ih lb TT.2.2.2.2.1 nn TT.2.2.2.2.2.1)))) (wq_B D A) A) (vx_X (fun u : String × va_W => (TT.1 = 2 ∧ u = ("java/lang/IllegalArgumentException", (wW_k_X10_addPredicate ty X TT.2.2.1 rn tn en TT.2.2.2.1 hn kn on TT.2.2.2.2.2.2 pu gw an ch cg fb mh ml ih lb TT.2.2.2.2.1 nn TT.2.2.2.2.2.1))) ∨ (TT.1 = 3 ∧ u = ("java/lang/IllegalStateException", (wW_k_X10_addPredicate ty X TT.2.2.1 rn tn en TT.2.2.2.1 hn kn on TT.2.2.2.2.2.2 pu gw an ch cg fb mh ml ih lb TT.2.2.2.2.1 nn TT.2.2.2.2.2.1)))) (wq_BX D A) A) ([.ref (X 0), .int a1] : List Value).toArray s 1 6 A) (F0 m pc ls [.int r]) := by
    intro r w9_0 w9_1 w9_2 w9_3 w9_4 hT H locs hP hD hS ls pc hd
    have hM : TT = (0, r, w9_0, w9_1, w9_2, w9_3, w9_4) := hT
    refine vx_ret ?_
    exact W.iret (v := r) hx hb hr (fun t ht hW => ⟨⟨r, (wW_k_X10_addPredicate ty X w9_0 rn tn en w9_1 hn kn on w9_4 pu gw an ch cg fb mh ml ih lb w9_2 nn w9_3), rfl, ⟨(by rw [hM]), (by rw [hM]), (by rw [hM])⟩, wq_B.of ht hP hD⟩, hS.F ht⟩) hS.2.2 hd
  have hT := hTT
  rw [m_k_X10_addPredicate] at hT
  refine lv_iload_n hx hb dX10_addPredicate_0 rfl (lv_at hl 1 rfl) ?_
  have J_9 : ∀ (_ : Unit), TT = m_k_X10_addPredicate_9 pn pl cu ic kp → ∀ (H : Heap) (locs : List Loc), va_P D vwCl (wW_k_X10_addPredicate ty X pn rn tn en pl hn kn on cu pu gw an ch cg fb mh ml ih lb ic nn kp) H → va_D A (wW_k_X10_addPredicate ty X pn rn tn en pl hn kn on cu pu gw an ch cg fb mh ml ih lb ic nn kp) → va_S A s.heap H locs → ∀ ls : Array Slot, lv_has ls 2 [] → W p l e (headSpec vs_k_X10_addPredicate { frames := 6, cells := 1, slots := 6, locals := 82 }).room s m ([.ref (X 0), .int a1] : List Value).toArray below meth c H locs 0 0 (vx_MQ below (va_Qi (fun (r : Int32) (u : va_W) => (TT.1 = 0 ∧ r = TT.2.1 ∧ (u = (wW_k_X10_addPredicate ty X TT.2.2.1 rn tn en TT.2.2.2.1 hn kn on TT.2.2.2.2.2.2 pu gw an ch cg fb mh ml ih lb TT.2.2.2.2.1 nn TT.2.2.2.2.2.1)))) (wq_B D A) A) (vx_X (fun u : String × va_W => (TT.1 = 2 ∧ u = ("java/lang/IllegalArgumentException", (wW_k_X10_addPredicate ty X TT.2.2.1 rn tn en TT.2.2.2.1 hn kn on TT.2.2.2.2.2.2 pu gw an ch cg fb mh ml ih lb TT.2.2.2.2.1 nn TT.2.2.2.2.2.1))) ∨ (TT.1 = 3 ∧ u = ("java/lang/IllegalStateException", (wW_k_X10_addPredicate ty X TT.2.2.1 rn tn en TT.2.2.2.1 hn kn on TT.2.2.2.2.2.2 pu gw an ch cg fb mh ml ih lb TT.2.2.2.2.1 nn TT.2.2.2.2.2.1)))) (wq_BX D A) A) ([.ref (X 0), .int a1] : List Value).toArray s 1 6 A) (F0 m 9 ls []) := by
    intro _ hT  H locs hP hD hS ls hl
    rw [m_k_X10_addPredicate_9] at hT
    obtain ⟨sa, hsa⟩ := hE.st 62 "places are 0 to 2" (by decide +kernel)
    exact vx_throwS (own := RX10) (cls := "java/lang/IllegalArgumentException") (text := "places are 0 to 2") (names := ["java/lang/RuntimeException", "java/lang/Exception"]) (ik := 60) (is := 62) (ic := 64) (sa := sa) (A := A) hx hb hl9 hown (by decide +kernel) (by decide +kernel) (hts (.classLink RX10 60 "java/lang/IllegalArgumentException") (by decide +kernel)) (hts (.initialized "java/lang/IllegalArgumentException") (by decide +kernel)) hsa (wq_hat hE hts ix_k_X10_addPredicate_64 (by decide +kernel) (by decide +kernel)) (by decide +kernel) hE.zu hE.zs hS (hl.1.trans hml.symm) dX10_addPredicate_9 dX10_addPredicate_12 dX10_addPredicate_13 dX10_addPredicate_15 dX10_addPredicate_18 (fun x hx => (hEx x hx).elim) (Nat.le_of_ble_eq_true rfl) (Nat.le_of_ble_eq_true rfl) (Nat.le_of_ble_eq_true rfl) (Nat.le_of_ble_eq_true rfl) hlocks (fun t ha hz hk => wq_thrW (W := (wW_k_X10_addPredicate ty X pn rn tn en pl hn kn on cu pu gw an ch cg fb mh ml ih lb ic nn kp)) hS hP hD (by exact (Or.inl ⟨(by rw [hT]), (by first | rw [hT] | rfl)⟩)) hz hk) hS.2.2 (Nat.le_of_ble_eq_true rfl) (Nat.le_of_ble_eq_true rfl)
  refine lv_if_lt (tgt := 9) hx hb dX10_addPredicate_1 (by decide) (fun c_1 => ?_) (fun c_1 => ?_)
  · rw [if_pos c_1] at hT
    exact J_9 () hT _ _ hP hD hS _ (lv_sub hl [] rfl)
  · rw [if_neg c_1] at hT
    refine lv_iload_n hx hb dX10_addPredicate_4 rfl (lv_at hl 1 rfl) ?_
    refine lv_iconst (v := 2) hx hb dX10_addPredicate_5 (by decide) ?_
    refine lv_icmp_le (tgt := 19) hx hb dX10_addPredicate_6 (by decide) (fun c_2 => ?_) (fun c_2 => ?_)
    · rw [if_pos c_2] at hT
      refine lv_aload_n hx hb dX10_addPredicate_19 rfl (lv_at hl 0 rfl) ?_
      refine va_get (D := D) (ci := 12) (v := .ref (X 1)) (C := RX10) (T := TX10) (N := 7) hx hb hts iv_k_X10_addPredicate_X10 hown hK hP 0 rfl rfl 0 (by decide) (hts (.fieldLink RX10 12 "AnswerFold" "program" "LAnswerFold$Program;") (by decide +kernel)) (fun _ h9 => h9) rfl dX10_addPredicate_20 ?_
      refine va_getN (D := D) (ci := 8) (v := .int pn) (C := RX6) (T := TX6) (N := 10) hx hb hts iv_k_X10_addPredicate_X6 hown hK hP 1 rfl rfl 1 (by decide) (hE.at (.fieldLinkNest "AnswerFold" 67 "AnswerFold$Program" "predicateCount" "I" "AnswerFold") (by decide +kernel)) (fun _ h9 => h9) rfl dX10_addPredicate_23 ?_
      refine lv_bipush (v := 6) hx hb dX10_addPredicate_26 (by decide) ?_
      refine lv_icmp_lt (tgt := 41) hx hb dX10_addPredicate_28 (by decide) (fun c_3 => ?_) (fun c_3 => ?_)
      · rw [if_pos c_3] at hT
        refine lv_aload_n hx hb dX10_addPredicate_41 rfl (lv_at hl 0 rfl) ?_
        obtain ⟨t_42, ht_42⟩ : ∃ t, t = m_k_X10_forgetGrounding := ⟨_, rfl⟩
        rw [lE_eq ht_42] at hT
        refine wq_vW (wc := (wW_k_X10_forgetGrounding ty X hn kn on cu pu gw an ch cg fb mh ml ih lb ic nn kp)) (va_runV (As := []) (rest := []) ⟨hx, hb, hml, hown, hts⟩ (k_X10_forgetGrounding l D ty td mi s.heap.size X hn kn on cu pu gw an ch cg fb mh ml ih lb ic nn kp t_42 ht_42) (cwV 0 hts gv_k_X10_addPredicate_0 rfl rfl rfl (by decide +kernel) ⟨(Nat.le_of_ble_eq_true rfl), (Nat.le_of_ble_eq_true rfl)⟩) (wm_V (wm_preS hP hD hK hE hS hA [true, false, false, true, true, true] rfl) (va_recv (q0 := 0) (ci := 12) hK hP rfl rfl)) rfl rfl hl.1 rfl (lv_room (Nat.le_of_ble_eq_true rfl)) dX10_addPredicate_42 ⟨(Nat.le_of_ble_eq_true rfl), (Nat.le_of_ble_eq_true rfl)⟩) hS hA hP hD [true, false, false, true, true, true] rfl (fun _ h => by rcases h with rfl; rfl) (fun u H locs hw hP hD hS => ?_)
        obtain rfl := hw
        have hP : va_P D vwCl (wW_k_X10_addPredicate ty X pn rn tn en pl hn kn on t_42.2.2 pu gw an ch cg fb mh ml ih lb t_42.1 nn t_42.2.1) H := hP
        have hD : va_D A (wW_k_X10_addPredicate ty X pn rn tn en pl hn kn on t_42.2.2 pu gw an ch cg fb mh ml ih lb t_42.1 nn t_42.2.1) := hD
        refine W.widen (k := 0) (n := 0) (Nat.le_of_ble_eq_true rfl) (Nat.le_of_ble_eq_true rfl) ?_
        refine lv_aload_n hx hb dX10_addPredicate_45 rfl (lv_at hl 0 rfl) ?_
        refine va_get (D := D) (ci := 12) (v := .ref (X 1)) (C := RX10) (T := TX10) (N := 7) hx hb hts iv_k_X10_addPredicate_X10 hown hK hP 0 rfl rfl 0 (by decide) (hts (.fieldLink RX10 12 "AnswerFold" "program" "LAnswerFold$Program;") (by decide +kernel)) (fun _ h9 => h9) rfl dX10_addPredicate_46 ?_
        refine lv_iload_n hx hb dX10_addPredicate_49 rfl (lv_at hl 1 rfl) ?_
        obtain ⟨t_50, ht_50⟩ : ∃ t, t = m_k_X6_tellPredicate pn pl a1 := ⟨_, rfl⟩
        rw [lE_eq ht_50] at hT
        refine wq_iW (wc := (wW_k_X6_tellPredicate ty X pn rn tn en pl)) (va_runV (As := [.int a1]) (rest := []) ⟨hx, hb, hml, hown, hts⟩ (k_X6_tellPredicate l D ty td mi H.size X pn rn tn en pl a1 t_50 ht_50) (cwV 1 hts gv_k_X10_addPredicate_1 rfl rfl rfl (by decide +kernel) ⟨(Nat.le_of_ble_eq_true rfl), (Nat.le_of_ble_eq_true rfl)⟩) (wm_V (wm_preS hP hD hK hE hS hA [false, true, true] rfl) (va_recv (q0 := 1) (ci := 8) hK hP rfl rfl)) rfl rfl hl.1 rfl (lv_room (Nat.le_of_ble_eq_true rfl)) dX10_addPredicate_50 ⟨(Nat.le_of_ble_eq_true rfl), (Nat.le_of_ble_eq_true rfl)⟩) hS hA hP hD [false, true, true] rfl (fun _ _ h => by rcases h with ⟨-, rfl⟩; rfl) (fun r u H locs hw hP hD hS => ?_)
        obtain ⟨rfl, rfl⟩ := hw
        have hP : va_P D vwCl (wW_k_X10_addPredicate ty X t_50.2.1 rn tn en t_50.2.2 hn kn on t_42.2.2 pu gw an ch cg fb mh ml ih lb t_42.1 nn t_42.2.1) H := hP
        have hD : va_D A (wW_k_X10_addPredicate ty X t_50.2.1 rn tn en t_50.2.2 hn kn on t_42.2.2 pu gw an ch cg fb mh ml ih lb t_42.1 nn t_42.2.1) := hD
        refine W.widen (k := 0) (n := 0) (Nat.le_of_ble_eq_true rfl) (Nat.le_of_ble_eq_true rfl) ?_
        refine W.widen (k := 1) (n := 6) (Nat.le_of_ble_eq_true rfl) (Nat.le_of_ble_eq_true rfl) ?_
        exact END t_50.1 t_50.2.1 t_50.2.2 t_42.1 t_42.2.1 t_42.2.2 hT _ _ hP hD hS _ _ dX10_addPredicate_53
      · rw [if_neg c_3] at hT
        obtain ⟨sa, hsa⟩ := hE.st 73 "there are 6 predicates" (by decide +kernel)
        exact vx_throwS (own := RX10) (cls := "java/lang/IllegalStateException") (text := "there are 6 predicates") (names := ["java/lang/RuntimeException", "java/lang/Exception"]) (ik := 71) (is := 73) (ic := 75) (sa := sa) (A := A) hx hb hl9 hown (by decide +kernel) (by decide +kernel) (hts (.classLink RX10 71 "java/lang/IllegalStateException") (by decide +kernel)) (hts (.initialized "java/lang/IllegalStateException") (by decide +kernel)) hsa (wq_hat hE hts ix_k_X10_addPredicate_75 (by decide +kernel) (by decide +kernel)) (by decide +kernel) hE.zu hE.zs hS (hl.1.trans hml.symm) dX10_addPredicate_31 dX10_addPredicate_34 dX10_addPredicate_35 dX10_addPredicate_37 dX10_addPredicate_40 (fun x hx => (hEx x hx).elim) (Nat.le_of_ble_eq_true rfl) (Nat.le_of_ble_eq_true rfl) (Nat.le_of_ble_eq_true rfl) (Nat.le_of_ble_eq_true rfl) hlocks (fun t ha hz hk => wq_thrW (W := (wW_k_X10_addPredicate ty X pn rn tn en pl hn kn on cu pu gw an ch cg fb mh ml ih lb ic nn kp)) hS hP hD (by exact (Or.inr ⟨(by rw [hT]), (by first | rw [hT] | rfl)⟩)) hz hk) hS.2.2 (Nat.le_of_ble_eq_true rfl) (Nat.le_of_ble_eq_true rfl)
    · rw [if_neg c_2] at hT
      exact J_9 () hT _ _ hP hD hS _ (lv_sub hl [] rfl)
theorem dX10_addExternal_0 : decode cX10_addExternal 0 = .ok (.aload_n 0, 1) := by decide +kernel
theorem dX10_addExternal_1 : decode cX10_addExternal 1 = .ok (.iload_n 1, 1) := by decide +kernel
theorem dX10_addExternal_2 : decode cX10_addExternal 2 = .ok (.iload_n 2, 1) := by decide +kernel
theorem dX10_addExternal_3 : decode cX10_addExternal 3 = .ok (.iload_n 3, 1) := by decide +kernel
theorem dX10_addExternal_4 : decode cX10_addExternal 4 = .ok (.invokevirtual 206, 3) := by decide +kernel
theorem dX10_addExternal_7 : decode cX10_addExternal 7 = .ok (.istore 4, 2) := by decide +kernel
theorem dX10_addExternal_9 : decode cX10_addExternal 9 = .ok (.aload_n 0, 1) := by decide +kernel
theorem dX10_addExternal_10 : decode cX10_addExternal 10 = .ok (.getfield 12, 3) := by decide +kernel
theorem dX10_addExternal_13 : decode cX10_addExternal 13 = .ok (.getfield 210, 3) := by decide +kernel
theorem dX10_addExternal_16 : decode cX10_addExternal 16 = .ok (.bipush 6, 2) := by decide +kernel
theorem dX10_addExternal_18 : decode cX10_addExternal 18 = .ok (.if_icmp .ge 16, 3) := by decide +kernel
theorem dX10_addExternal_21 : decode cX10_addExternal 21 = .ok (.aload_n 0, 1) := by decide +kernel
theorem dX10_addExternal_22 : decode cX10_addExternal 22 = .ok (.getfield 12, 3) := by decide +kernel
theorem dX10_addExternal_25 : decode cX10_addExternal 25 = .ok (.iload 4, 2) := by decide +kernel
theorem dX10_addExternal_27 : decode cX10_addExternal 27 = .ok (.invokevirtual 213, 3) := by decide +kernel
theorem dX10_addExternal_30 : decode cX10_addExternal 30 = .ok (.iconst (-1), 1) := by decide +kernel
theorem dX10_addExternal_31 : decode cX10_addExternal 31 = .ok (.if_icmp .eq 13, 3) := by decide +kernel
theorem dX10_addExternal_34 : decode cX10_addExternal 34 = .ok (.new 71, 3) := by decide +kernel
theorem dX10_addExternal_37 : decode cX10_addExternal 37 = .ok (.dup, 1) := by decide +kernel
theorem dX10_addExternal_38 : decode cX10_addExternal 38 = .ok (.ldc 216, 2) := by decide +kernel
theorem dX10_addExternal_40 : decode cX10_addExternal 40 = .ok (.invokespecial 75, 3) := by decide +kernel
theorem dX10_addExternal_43 : decode cX10_addExternal 43 = .ok (.athrow, 1) := by decide +kernel
theorem dX10_addExternal_44 : decode cX10_addExternal 44 = .ok (.aload_n 0, 1) := by decide +kernel
theorem dX10_addExternal_45 : decode cX10_addExternal 45 = .ok (.invokevirtual 76, 3) := by decide +kernel
theorem dX10_addExternal_48 : decode cX10_addExternal 48 = .ok (.aload_n 0, 1) := by decide +kernel
theorem dX10_addExternal_49 : decode cX10_addExternal 49 = .ok (.getfield 12, 3) := by decide +kernel
theorem dX10_addExternal_52 : decode cX10_addExternal 52 = .ok (.iload 4, 2) := by decide +kernel
theorem dX10_addExternal_54 : decode cX10_addExternal 54 = .ok (.invokevirtual 218, 3) := by decide +kernel
theorem dX10_addExternal_57 : decode cX10_addExternal 57 = .ok (.ireturn, 1) := by decide +kernel
def wW_k_X10_addExternal (ty : Nat → ClassId) (X : Nat → Nat) (z9_0 : Int32) (z9_1 : Int32) (z9_2 : Int32) (z9_3 : Int32) (z9_4 : Nat → Int32) (z9_5 : Nat → Int32) (z9_6 : Nat → Int32) (z9_7 : Int32) (z9_8 : Int32) (z9_9 : Int32) (z9_10 : Int32) (z9_11 : Int32) (z9_12 : Int32) (z9_13 : Int32) (z9_14 : Int32) (z9_15 : Int32) (z9_16 : Int32) (z9_17 : Int32) (z9_18 : Int32) (z9_19 : Int32) (z9_20 : Int32) (z9_21 : Int32) (z9_22 : Int32) (z9_23 : Int32) : va_W := [((X 0), .inr (12, [.ref (X 1), .ref (X 8), .ref (X 20), .ref (X 39), .ref (X 41), .ref (X 43), .ref (X 45)])), ((X 1), .inr (8, [.ref (X 2), .int z9_0, .ref (X 3), .int z9_1, .ref (X 4), .ref (X 5), .int z9_2, .ref (X 6), .ref (X 7), .int z9_3])), ((X 2), .inl (ty 0, 6, .inl z9_4)), ((X 6), .inl (ty 0, 6, .inl z9_5)), ((X 7), .inl (ty 2, 6, .inl z9_6)), ((X 8), .inr (5, [.ref (X 1), .ref (X 9), .ref (X 10), .ref (X 12), .ref (X 14), .int z9_7, .ref (X 15), .ref (X 16), .ref (X 17), .int z9_8, .ref (X 18), .ref (X 19), .int z9_9, .int z9_10, .int z9_11, .int z9_12])), ((X 20), .inr (11, [.ref (X 1), .ref (X 8), .ref (X 21), .ref (X 28), .ref (X 35), .int z9_13, .ref (X 36), .ref (X 37), .ref (X 38), .int z9_14, .int z9_15, .int z9_16, .int z9_17, .int z9_18, .int z9_19, .int z9_20, .int z9_21])), ((X 45), .inr (2, [.ref (X 46), .ref (X 47), .int z9_22, .int z9_23]))]
def vs_k_X10_addExternal : List Cond := .code yX10_addExternal cX10_addExternal 5 (some .int) :: ([.methodLink RX10 206 yX10_checkedAtom, .instanceMethod yX10_checkedAtom, .selects RX10 yX10_checkedAtom yX10_checkedAtom, .initialized RX10, .fieldLink RX10 12 "AnswerFold" "program" "LAnswerFold$Program;", .classLink RX10 71 "java/lang/IllegalStateException", .initialized "java/lang/IllegalStateException", .methodLink RX10 213 yX6_externalOf, .instanceMethod yX6_externalOf, .selects RX6 yX6_externalOf yX6_externalOf, .initialized RX6, .methodLink RX10 76 yX10_forgetGrounding, .instanceMethod yX10_forgetGrounding, .selects RX10 yX10_forgetGrounding yX10_forgetGrounding, .methodLink RX10 218 yX6_tellExternal, .instanceMethod yX6_tellExternal, .selects RX6 yX6_tellExternal yX6_tellExternal] ++ (vs_k_X10_checkedAtom ++ (u_ws RX10 TX10 7 ++ (u_ws RX6 TX6 10 ++ ((vx_atS RX10 75 "java/lang/IllegalStateException" ["java/lang/RuntimeException", "java/lang/Exception"]).filter goodWord ++ (vs_k_X6_externalOf ++ (vs_k_X10_forgetGrounding ++ (vs_k_X6_tellExternal))))))))
theorem iv_k_X10_addExternal_X10 : ∀ w ∈ u_ws RX10 TX10 7, w ∈ vs_k_X10_addExternal := (fun _ h => List.mem_cons_of_mem _ (List.mem_append_right _ (List.mem_append_right _ (List.mem_append_left _ h))))
theorem iv_k_X10_addExternal_X6 : ∀ w ∈ u_ws RX6 TX6 10, w ∈ vs_k_X10_addExternal := (fun _ h => List.mem_cons_of_mem _ (List.mem_append_right _ (List.mem_append_right _ (List.mem_append_right _ (List.mem_append_left _ h)))))
set_option maxRecDepth 20000 in
theorem gv_k_X10_addExternal_0 : GoodIn vs_k_X10_addExternal (wsV RX10 206 RX10 yX10_checkedAtom vs_k_X10_checkedAtom) := goodIn_app (goodIn_sub (by decide +kernel) (by decide +kernel)) (goodIn_sub (fun _ h => List.mem_cons_of_mem _ (List.mem_append_right _ (List.mem_append_left _ h))) (by decide +kernel))
set_option maxRecDepth 20000 in
theorem gv_k_X10_addExternal_1 : GoodIn vs_k_X10_addExternal (wsV RX10 213 RX6 yX6_externalOf vs_k_X6_externalOf) := goodIn_app (goodIn_sub (by decide +kernel) (by decide +kernel)) (goodIn_sub (fun _ h => List.mem_cons_of_mem _ (List.mem_append_right _ (List.mem_append_right _ (List.mem_append_right _ (List.mem_append_right _ (List.mem_append_right _ (List.mem_append_left _ h))))))) (by decide +kernel))
set_option maxRecDepth 20000 in
theorem gv_k_X10_addExternal_2 : GoodIn vs_k_X10_addExternal (wsV RX10 76 RX10 yX10_forgetGrounding vs_k_X10_forgetGrounding) := goodIn_app (goodIn_sub (by decide +kernel) (by decide +kernel)) (goodIn_sub (fun _ h => List.mem_cons_of_mem _ (List.mem_append_right _ (List.mem_append_right _ (List.mem_append_right _ (List.mem_append_right _ (List.mem_append_right _ (List.mem_append_right _ (List.mem_append_left _ h)))))))) (by decide +kernel))
set_option maxRecDepth 20000 in
theorem gv_k_X10_addExternal_3 : GoodIn vs_k_X10_addExternal (wsV RX10 218 RX6 yX6_tellExternal vs_k_X6_tellExternal) := goodIn_app (goodIn_sub (by decide +kernel) (by decide +kernel)) (goodIn_sub (fun _ h => List.mem_cons_of_mem _ (List.mem_append_right _ (List.mem_append_right _ (List.mem_append_right _ (List.mem_append_right _ (List.mem_append_right _ (List.mem_append_right _ (List.mem_append_right _ (h))))))))) (by decide +kernel))
theorem ix_k_X10_addExternal_75 : ∀ w ∈ (vx_atS RX10 75 "java/lang/IllegalStateException" ["java/lang/RuntimeException", "java/lang/Exception"]).filter goodWord, w ∈ vs_k_X10_addExternal := (fun _ h => List.mem_cons_of_mem _ (List.mem_append_right _ (List.mem_append_right _ (List.mem_append_right _ (List.mem_append_right _ (List.mem_append_left _ h))))))
set_option maxHeartbeats 4000000 in
set_option maxRecDepth 100000 in
theorem k_X10_addExternal (l : Launch) (hl9 : l.stackTraces = false) (D : va_G) (ty : Nat → ClassId) (td mi sz : Nat) (X : Nat → Nat) (pn : Int32) (rn : Int32) (tn : Int32) (en : Int32) (pl : Nat → Int32) (ea : Nat → Int32) (es : Nat → Int32) (hn : Int32) (kn : Int32) (on : Int32) (cu : Int32) (pu : Int32) (gw : Int32) (an : Int32) (ch : Int32) (cg : Int32) (fb : Int32) (mh : Int32) (ml : Int32) (ih : Int32) (lb : Int32) (ic : Int32) (nn : Int32) (kp : Int32) (a1 : Int32) (a2 : Int32) (a3 : Int32) (TT : r_k_X10_addExternal) (hTT : TT = m_k_X10_addExternal pn en pl ea es cu ic kp a1 a2 a3) : vx_Met l yX10_addExternal vs_k_X10_addExternal { frames := 7, cells := 2, slots := 12, locals := 106 } (va_Pc [.ref (X 0), .int a1, .int a2, .int a3] (wq_P D ty td mi (wW_k_X10_addExternal ty X pn rn tn en pl ea es hn kn on cu pu gw an ch cg fb mh ml ih lb ic nn kp) sz)) (va_Qi (fun (r : Int32) (u : va_W) => (TT.1 = 0 ∧ r = TT.2.1 ∧ (u = (wW_k_X10_addExternal ty X pn rn tn TT.2.2.1 pl TT.2.2.2.2.2.1 TT.2.2.2.2.2.2.1 hn kn on TT.2.2.2.2.2.2.2 pu gw an ch cg fb mh ml ih lb TT.2.2.2.1 nn TT.2.2.2.2.1)))) (wq_B D (va_A (wW_k_X10_addExternal ty X pn rn tn en pl ea es hn kn on cu pu gw an ch cg fb mh ml ih lb ic nn kp) sz)) (va_A (wW_k_X10_addExternal ty X pn rn tn en pl ea es hn kn on cu pu gw an ch cg fb mh ml ih lb ic nn kp) sz)) (vx_X (fun u : String × va_W => (TT.1 = 1 ∧ u = ("java/lang/IndexOutOfBoundsException", (wW_k_X10_addExternal ty X pn rn tn TT.2.2.1 pl TT.2.2.2.2.2.1 TT.2.2.2.2.2.2.1 hn kn on TT.2.2.2.2.2.2.2 pu gw an ch cg fb mh ml ih lb TT.2.2.2.1 nn TT.2.2.2.2.1))) ∨ (TT.1 = 2 ∧ u = ("java/lang/IllegalArgumentException", (wW_k_X10_addExternal ty X pn rn tn TT.2.2.1 pl TT.2.2.2.2.2.1 TT.2.2.2.2.2.2.1 hn kn on TT.2.2.2.2.2.2.2 pu gw an ch cg fb mh ml ih lb TT.2.2.2.1 nn TT.2.2.2.2.1))) ∨ (TT.1 = 3 ∧ u = ("java/lang/IllegalStateException", (wW_k_X10_addExternal ty X pn rn tn TT.2.2.1 pl TT.2.2.2.2.2.1 TT.2.2.2.2.2.2.1 hn kn on TT.2.2.2.2.2.2.2 pu gw an ch cg fb mh ml ih lb TT.2.2.2.1 nn TT.2.2.2.2.1)))) (wq_BX D (va_A (wW_k_X10_addExternal ty X pn rn tn en pl ea es hn kn on cu pu gw an ch cg fb mh ml ih lb ic nn kp) sz)) (va_A (wW_k_X10_addExternal ty X pn rn tn en pl ea es hn kn on cu pu gw an ch cg fb mh ml ih lb ic nn kp) sz)) 2 12 (va_A (wW_k_X10_addExternal ty X pn rn tn en pl ea es hn kn on cu pu gw an ch cg fb mh ml ih lb ic nn kp) sz) := by
  refine vx_ofW (cc := cX10_addExternal) (maxL := 5) (ret := (some .int)) (by decide) rfl ?_
  intro p e s m args below meth c s₁ B hml hEx hv
  obtain ⟨rfl, hsz, hP, hK, hD0, hE⟩ := hv
  have hx := B.exec
  have hb := B.bytes
  have hr := B.returns
  have hts := atoms_spec (ws := vs_k_X10_addExternal) B.pre
  have hown : s.vm.findClass RX10 = some m.cls := findClass_of_methodNamed B.named
  have hlocks := B.notSynchronized
  subst hsz
  have hD := hD0.self (sz := s.heap.size)
  generalize hAe : va_A (wW_k_X10_addExternal ty X pn rn tn en pl ea es hn kn on cu pu gw an ch cg fb mh ml ih lb ic nn kp) s.heap.size = A at hD hE ⊢
  have hA : ∀ q : Nat, s.heap.size ≤ q → A q := fun q h => by rw [← hAe]; exact Or.inr h
  have hS : va_S A s.heap s.heap [] := va_S.rf
  have hP : va_P D vwCl (wW_k_X10_addExternal ty X pn rn tn en pl ea es hn kn on cu pu gw an ch cg fb mh ml ih lb ic nn kp) s.heap := hP
  have hl := lv_entry ([.ref (X 0), .int a1, .int a2, .int a3]) (n := 5) (Nat.le_of_ble_eq_true rfl)
  rw [lg_entry_eq]
  generalize (lg_sl ([.ref (X 0), .int a1, .int a2, .int a3]) ++ List.replicate (5 - (lg_sl ([.ref (X 0), .int a1, .int a2, .int a3])).length) Slot.unset).toArray = ls at hl ⊢
  have hl : lv_has ls 5 [(0, .ref (X 0)), (1, .int a1), (2, .int a2), (3, .int a3)] := hl
  have END : ∀ (r : Int32) (w9_0 : Int32) (w9_1 : Int32) (w9_2 : Int32) (w9_3 : Nat → Int32) (w9_4 : Nat → Int32) (w9_5 : Int32), TT = (0, r, w9_0, w9_1, w9_2, w9_3, w9_4, w9_5) → ∀ (H : Heap) (locs : List Loc), va_P D vwCl (wW_k_X10_addExternal ty X pn rn tn w9_0 pl w9_3 w9_4 hn kn on w9_5 pu gw an ch cg fb mh ml ih lb w9_1 nn w9_2) H → va_D A (wW_k_X10_addExternal ty X pn rn tn w9_0 pl w9_3 w9_4 hn kn on w9_5 pu gw an ch cg fb mh ml ih lb w9_1 nn w9_2) → va_S A s.heap H locs → ∀ (ls : Array Slot) (pc : Nat), decode cX10_addExternal pc = .ok (.ireturn, 1) → W p l e (headSpec vs_k_X10_addExternal { frames := 7, cells := 2, slots := 12, locals := 106 }).room s m ([.ref (X 0), .int a1, .int a2, .int a3] : List Value).toArray below meth c H locs 2 12 (vx_MQ below (va_Qi (fun (r : Int32) (u : va_W) => (TT.1 = 0 ∧ r = TT.2.1 ∧ (u = (wW_k_X10_addExternal ty X pn rn tn TT.2.2.1 pl TT.2.2.2.2.2.1 TT.2.2.2.2.2.2.1 hn kn on TT.2.2.2.2.2.2.2 pu gw an ch cg fb mh ml ih lb TT.2.2.2.1 nn TT.2.2.2.2.1)))) (wq_B D A) A) (vx_X (fun u : String × va_W => (TT.1 = 1 ∧ u = ("java/lang/IndexOutOfBoundsException", (wW_k_X10_addExternal ty X pn rn tn TT.2.2.1 pl TT.2.2.2.2.2.1 TT.2.2.2.2.2.2.1 hn kn on TT.2.2.2.2.2.2.2 pu gw an ch cg fb mh ml ih lb TT.2.2.2.1 nn TT.2.2.2.2.1))) ∨ (TT.1 = 2 ∧ u = ("java/lang/IllegalArgumentException", (wW_k_X10_addExternal ty X pn rn tn TT.2.2.1 pl TT.2.2.2.2.2.1 TT.2.2.2.2.2.2.1 hn kn on TT.2.2.2.2.2.2.2 pu gw an ch cg fb mh ml ih lb TT.2.2.2.1 nn TT.2.2.2.2.1))) ∨ (TT.1 = 3 ∧ u = ("java/lang/IllegalStateException", (wW_k_X10_addExternal ty X pn rn tn TT.2.2.1 pl TT.2.2.2.2.2.1 TT.2.2.2.2.2.2.1 hn kn on TT.2.2.2.2.2.2.2 pu gw an ch cg fb mh ml ih lb TT.2.2.2.1 nn TT.2.2.2.2.1)))) (wq_BX D A) A) ([.ref (X 0), .int a1, .int a2, .int a3] : List Value).toArray s 2 12 A) (F0 m pc ls [.int r]) := by
    intro r w9_0 w9_1 w9_2 w9_3 w9_4 w9_5 hT H locs hP hD hS ls pc hd
    have hM : TT = (0, r, w9_0, w9_1, w9_2, w9_3, w9_4, w9_5) := hT
    refine vx_ret ?_
    exact W.iret (v := r) hx hb hr (fun t ht hW => ⟨⟨r, (wW_k_X10_addExternal ty X pn rn tn w9_0 pl w9_3 w9_4 hn kn on w9_5 pu gw an ch cg fb mh ml ih lb w9_1 nn w9_2), rfl, ⟨(by rw [hM]), (by rw [hM]), (by rw [hM])⟩, wq_B.of ht hP hD⟩, hS.F ht⟩) hS.2.2 hd
  have hT := hTT
  rw [m_k_X10_addExternal] at hT
  refine lv_aload_n hx hb dX10_addExternal_0 rfl (lv_at hl 0 rfl) ?_
  refine lv_iload_n hx hb dX10_addExternal_1 rfl (lv_at hl 1 rfl) ?_
  refine lv_iload_n hx hb dX10_addExternal_2 rfl (lv_at hl 2 rfl) ?_
  refine lv_iload_n hx hb dX10_addExternal_3 rfl (lv_at hl 3 rfl) ?_
  obtain ⟨t_4, ht_4⟩ : ∃ t, t = m_k_X10_checkedAtom pn pl a1 a2 a3 := ⟨_, rfl⟩
  rw [lE_eq ht_4] at hT
  refine wq_xiW (wc := (wW_k_X10_checkedAtom ty X pn rn tn en pl)) (vx_runV (As := [.int a1, .int a2, .int a3]) (rest := []) ⟨hx, hb, hml, hown, hts⟩ (k_X10_checkedAtom l hl9 D ty td mi s.heap.size X pn rn tn en pl a1 a2 a3 t_4 ht_4) (cwV 3 hts gv_k_X10_addExternal_0 rfl rfl rfl (by decide +kernel) ⟨(Nat.le_of_ble_eq_true rfl), (Nat.le_of_ble_eq_true rfl)⟩) (wm_V (wm_preS hP hD hK hE hS hA [true, true, true] rfl) (va_recv (q0 := 0) (ci := 12) hK hP rfl rfl)) rfl rfl hl.1 rfl (lv_room (Nat.le_of_ble_eq_true rfl)) dX10_addExternal_4 ⟨(Nat.le_of_ble_eq_true rfl), (Nat.le_of_ble_eq_true rfl)⟩) hS hA hP hD [true, true, true] rfl (fun _ _ h => by rcases h with ⟨-, -, rfl⟩; rfl) (fun _ _ h => by rcases h with ⟨-, h⟩ | ⟨-, h⟩ <;> (cases h; rfl)) (fun E9 u H locs q9 ce hw hP hD hS hce hcv hcl => ?_) (fun r u H locs hw hP hD hS => ?_)
  · rcases hw with ⟨c_1, hEq⟩ | ⟨c_2, hEq⟩
    · cases hEq
      rw [if_neg (show ¬ t_4.1 = 0 by rw [c_1]; decide)] at hT
      rw [if_pos c_1] at hT
      have hP : va_P D vwCl (wW_k_X10_addExternal ty X pn rn tn en pl ea es hn kn on cu pu gw an ch cg fb mh ml ih lb ic nn kp) H := hP
      have hD : va_D A (wW_k_X10_addExternal ty X pn rn tn en pl ea es hn kn on cu pu gw an ch cg fb mh ml ih lb ic nn kp) := hD
      refine vx_widen (k := 2) (n := 12) (Nat.le_of_ble_eq_true rfl) (Nat.le_of_ble_eq_true rfl) ?_
      exact vx_out (E := "java/lang/IndexOutOfBoundsException") (fun x hx => (hEx x hx).elim) hlocks hce hcv hcl (fun t ht ha => wq_thrW0 (W := (wW_k_X10_addExternal ty X pn rn tn en pl ea es hn kn on cu pu gw an ch cg fb mh ml ih lb ic nn kp)) hS hP hD (by exact (Or.inl ⟨(by rw [hT]), (by first | rw [hT] | rfl)⟩)) ht) hS.2.2 (Nat.le_refl _) (Nat.le_refl _)
    · cases hEq
      rw [if_neg (show ¬ t_4.1 = 0 by rw [c_2]; decide)] at hT
      rw [if_neg (show ¬ t_4.1 = 1 by rw [c_2]; decide)] at hT
      have hP : va_P D vwCl (wW_k_X10_addExternal ty X pn rn tn en pl ea es hn kn on cu pu gw an ch cg fb mh ml ih lb ic nn kp) H := hP
      have hD : va_D A (wW_k_X10_addExternal ty X pn rn tn en pl ea es hn kn on cu pu gw an ch cg fb mh ml ih lb ic nn kp) := hD
      refine vx_widen (k := 2) (n := 12) (Nat.le_of_ble_eq_true rfl) (Nat.le_of_ble_eq_true rfl) ?_
      exact vx_out (E := "java/lang/IllegalArgumentException") (fun x hx => (hEx x hx).elim) hlocks hce hcv hcl (fun t ht ha => wq_thrW0 (W := (wW_k_X10_addExternal ty X pn rn tn en pl ea es hn kn on cu pu gw an ch cg fb mh ml ih lb ic nn kp)) hS hP hD (by exact (Or.inr (Or.inl ⟨(by rw [hT]), (by first | rw [hT] | rfl)⟩))) ht) hS.2.2 (Nat.le_refl _) (Nat.le_refl _)
  · obtain ⟨c_3, rfl, rfl⟩ := hw
    rw [if_pos c_3] at hT
    have hP : va_P D vwCl (wW_k_X10_addExternal ty X pn rn tn en pl ea es hn kn on cu pu gw an ch cg fb mh ml ih lb ic nn kp) H := hP
    have hD : va_D A (wW_k_X10_addExternal ty X pn rn tn en pl ea es hn kn on cu pu gw an ch cg fb mh ml ih lb ic nn kp) := hD
    refine W.widen (k := 1) (n := 6) (Nat.le_of_ble_eq_true rfl) (Nat.le_of_ble_eq_true rfl) ?_
    refine lv_istore (lv' := [(4, .int t_4.2), (0, .ref (X 0)), (1, .int a1), (2, .int a2), (3, .int a3)]) hx hb dX10_addExternal_7 hl (by decide) rfl (fun ls hl => ?_)
    refine lv_aload_n hx hb dX10_addExternal_9 rfl (lv_at hl 1 rfl) ?_
    refine va_get (D := D) (ci := 12) (v := .ref (X 1)) (C := RX10) (T := TX10) (N := 7) hx hb hts iv_k_X10_addExternal_X10 hown hK hP 0 rfl rfl 0 (by decide) (hts (.fieldLink RX10 12 "AnswerFold" "program" "LAnswerFold$Program;") (by decide +kernel)) (fun _ h9 => h9) rfl dX10_addExternal_10 ?_
    refine va_getN (D := D) (ci := 8) (v := .int en) (C := RX6) (T := TX6) (N := 10) hx hb hts iv_k_X10_addExternal_X6 hown hK hP 1 rfl rfl 9 (by decide) (hE.at (.fieldLinkNest "AnswerFold" 210 "AnswerFold$Program" "externalCount" "I" "AnswerFold") (by decide +kernel)) (fun _ h9 => h9) rfl dX10_addExternal_13 ?_
    refine lv_bipush (v := 6) hx hb dX10_addExternal_16 (by decide) ?_
    have J_34 : ∀ (_ : Unit), TT = m_k_X10_addExternal_34 en ea es cu ic kp → ∀ (H : Heap) (locs : List Loc), va_P D vwCl (wW_k_X10_addExternal ty X pn rn tn en pl ea es hn kn on cu pu gw an ch cg fb mh ml ih lb ic nn kp) H → va_D A (wW_k_X10_addExternal ty X pn rn tn en pl ea es hn kn on cu pu gw an ch cg fb mh ml ih lb ic nn kp) → va_S A s.heap H locs → ∀ ls : Array Slot, lv_has ls 5 [] → W p l e (headSpec vs_k_X10_addExternal { frames := 7, cells := 2, slots := 12, locals := 106 }).room s m ([.ref (X 0), .int a1, .int a2, .int a3] : List Value).toArray below meth c H locs 1 6 (vx_MQ below (va_Qi (fun (r : Int32) (u : va_W) => (TT.1 = 0 ∧ r = TT.2.1 ∧ (u = (wW_k_X10_addExternal ty X pn rn tn TT.2.2.1 pl TT.2.2.2.2.2.1 TT.2.2.2.2.2.2.1 hn kn on TT.2.2.2.2.2.2.2 pu gw an ch cg fb mh ml ih lb TT.2.2.2.1 nn TT.2.2.2.2.1)))) (wq_B D A) A) (vx_X (fun u : String × va_W => (TT.1 = 1 ∧ u = ("java/lang/IndexOutOfBoundsException", (wW_k_X10_addExternal ty X pn rn tn TT.2.2.1 pl TT.2.2.2.2.2.1 TT.2.2.2.2.2.2.1 hn kn on TT.2.2.2.2.2.2.2 pu gw an ch cg fb mh ml ih lb TT.2.2.2.1 nn TT.2.2.2.2.1))) ∨ (TT.1 = 2 ∧ u = ("java/lang/IllegalArgumentException", (wW_k_X10_addExternal ty X pn rn tn TT.2.2.1 pl TT.2.2.2.2.2.1 TT.2.2.2.2.2.2.1 hn kn on TT.2.2.2.2.2.2.2 pu gw an ch cg fb mh ml ih lb TT.2.2.2.1 nn TT.2.2.2.2.1))) ∨ (TT.1 = 3 ∧ u = ("java/lang/IllegalStateException", (wW_k_X10_addExternal ty X pn rn tn TT.2.2.1 pl TT.2.2.2.2.2.1 TT.2.2.2.2.2.2.1 hn kn on TT.2.2.2.2.2.2.2 pu gw an ch cg fb mh ml ih lb TT.2.2.2.1 nn TT.2.2.2.2.1)))) (wq_BX D A) A) ([.ref (X 0), .int a1, .int a2, .int a3] : List Value).toArray s 2 12 A) (F0 m 34 ls []) := by
      intro _ hT  H locs hP hD hS ls hl
      rw [m_k_X10_addExternal_34] at hT
      obtain ⟨sa, hsa⟩ := hE.st 216 "6 externals, or it is one" (by decide +kernel)
      exact vx_throwS (own := RX10) (cls := "java/lang/IllegalStateException") (text := "6 externals, or it is one") (names := ["java/lang/RuntimeException", "java/lang/Exception"]) (ik := 71) (is := 216) (ic := 75) (sa := sa) (A := A) hx hb hl9 hown (by decide +kernel) (by decide +kernel) (hts (.classLink RX10 71 "java/lang/IllegalStateException") (by decide +kernel)) (hts (.initialized "java/lang/IllegalStateException") (by decide +kernel)) hsa (wq_hat hE hts ix_k_X10_addExternal_75 (by decide +kernel) (by decide +kernel)) (by decide +kernel) hE.zu hE.zs hS (hl.1.trans hml.symm) dX10_addExternal_34 dX10_addExternal_37 dX10_addExternal_38 dX10_addExternal_40 dX10_addExternal_43 (fun x hx => (hEx x hx).elim) (Nat.le_of_ble_eq_true rfl) (Nat.le_of_ble_eq_true rfl) (Nat.le_of_ble_eq_true rfl) (Nat.le_of_ble_eq_true rfl) hlocks (fun t ha hz hk => wq_thrW (W := (wW_k_X10_addExternal ty X pn rn tn en pl ea es hn kn on cu pu gw an ch cg fb mh ml ih lb ic nn kp)) hS hP hD (by exact (Or.inr (Or.inr ⟨(by rw [hT]), (by first | rw [hT] | rfl)⟩))) hz hk) hS.2.2 (Nat.le_of_ble_eq_true rfl) (Nat.le_of_ble_eq_true rfl)
    refine lv_icmp_ge (tgt := 34) hx hb dX10_addExternal_18 (by decide) (fun c_5 => ?_) (fun c_5 => ?_)
    · rw [if_pos c_5] at hT
      exact J_34 () hT _ _ hP hD hS _ (lv_sub hl [] rfl)
    · rw [if_neg c_5] at hT
      refine lv_aload_n hx hb dX10_addExternal_21 rfl (lv_at hl 1 rfl) ?_
      refine va_get (D := D) (ci := 12) (v := .ref (X 1)) (C := RX10) (T := TX10) (N := 7) hx hb hts iv_k_X10_addExternal_X10 hown hK hP 0 rfl rfl 0 (by decide) (hts (.fieldLink RX10 12 "AnswerFold" "program" "LAnswerFold$Program;") (by decide +kernel)) (fun _ h9 => h9) rfl dX10_addExternal_22 ?_
      refine lv_iload hx hb dX10_addExternal_25 (lv_at hl 0 rfl) ?_
      obtain ⟨t_27, ht_27⟩ : ∃ t, t = m_k_X6_externalOf en ea t_4.2 := ⟨_, rfl⟩
      rw [lE_eq ht_27] at hT
      refine wq_iW (wc := (wW_k_X6_externalOf ty X pn rn tn en ea)) (va_runV (As := [.int t_4.2]) (rest := []) ⟨hx, hb, hml, hown, hts⟩ (k_X6_externalOf l D ty td mi H.size X pn rn tn en ea t_4.2 t_27 ht_27) (cwV 1 hts gv_k_X10_addExternal_1 rfl rfl rfl (by decide +kernel) ⟨(Nat.le_of_ble_eq_true rfl), (Nat.le_of_ble_eq_true rfl)⟩) (wm_V (wm_preS hP hD hK hE hS hA [false, true, false, true] rfl) (va_recv (q0 := 1) (ci := 8) hK hP rfl rfl)) rfl rfl hl.1 rfl (lv_room (Nat.le_of_ble_eq_true rfl)) dX10_addExternal_27 ⟨(Nat.le_of_ble_eq_true rfl), (Nat.le_of_ble_eq_true rfl)⟩) hS hA hP hD [false, true, false, true] rfl (fun _ _ h => by rcases h with ⟨-, rfl⟩; rfl) (fun r u H locs hw hP hD hS => ?_)
      obtain ⟨hr0, rfl⟩ := hw
      subst r
      have hP : va_P D vwCl (wW_k_X10_addExternal ty X pn rn tn en pl ea es hn kn on cu pu gw an ch cg fb mh ml ih lb ic nn kp) H := hP
      have hD : va_D A (wW_k_X10_addExternal ty X pn rn tn en pl ea es hn kn on cu pu gw an ch cg fb mh ml ih lb ic nn kp) := hD
      refine W.widen (k := 1) (n := 6) (Nat.le_of_ble_eq_true rfl) (Nat.le_of_ble_eq_true rfl) ?_
      refine lv_iconst (v := (-1)) hx hb dX10_addExternal_30 (by decide) ?_
      refine lv_icmp_eq (tgt := 44) hx hb dX10_addExternal_31 (by decide) (fun c_8 => ?_) (fun c_8 => ?_)
      · rw [if_pos c_8] at hT
        refine lv_aload_n hx hb dX10_addExternal_44 rfl (lv_at hl 1 rfl) ?_
        obtain ⟨t_45, ht_45⟩ : ∃ t, t = m_k_X10_forgetGrounding := ⟨_, rfl⟩
        rw [lE_eq ht_45] at hT
        refine wq_vW (wc := (wW_k_X10_forgetGrounding ty X hn kn on cu pu gw an ch cg fb mh ml ih lb ic nn kp)) (va_runV (As := []) (rest := []) ⟨hx, hb, hml, hown, hts⟩ (k_X10_forgetGrounding l D ty td mi H.size X hn kn on cu pu gw an ch cg fb mh ml ih lb ic nn kp t_45 ht_45) (cwV 0 hts gv_k_X10_addExternal_2 rfl rfl rfl (by decide +kernel) ⟨(Nat.le_of_ble_eq_true rfl), (Nat.le_of_ble_eq_true rfl)⟩) (wm_V (wm_preS hP hD hK hE hS hA [true, false, false, false, false, true, true, true] rfl) (va_recv (q0 := 0) (ci := 12) hK hP rfl rfl)) rfl rfl hl.1 rfl (lv_room (Nat.le_of_ble_eq_true rfl)) dX10_addExternal_45 ⟨(Nat.le_of_ble_eq_true rfl), (Nat.le_of_ble_eq_true rfl)⟩) hS hA hP hD [true, false, false, false, false, true, true, true] rfl (fun _ h => by rcases h with rfl; rfl) (fun u H locs hw hP hD hS => ?_)
        obtain rfl := hw
        have hP : va_P D vwCl (wW_k_X10_addExternal ty X pn rn tn en pl ea es hn kn on t_45.2.2 pu gw an ch cg fb mh ml ih lb t_45.1 nn t_45.2.1) H := hP
        have hD : va_D A (wW_k_X10_addExternal ty X pn rn tn en pl ea es hn kn on t_45.2.2 pu gw an ch cg fb mh ml ih lb t_45.1 nn t_45.2.1) := hD
        refine W.widen (k := 1) (n := 6) (Nat.le_of_ble_eq_true rfl) (Nat.le_of_ble_eq_true rfl) ?_
        refine lv_aload_n hx hb dX10_addExternal_48 rfl (lv_at hl 1 rfl) ?_
        refine va_get (D := D) (ci := 12) (v := .ref (X 1)) (C := RX10) (T := TX10) (N := 7) hx hb hts iv_k_X10_addExternal_X10 hown hK hP 0 rfl rfl 0 (by decide) (hts (.fieldLink RX10 12 "AnswerFold" "program" "LAnswerFold$Program;") (by decide +kernel)) (fun _ h9 => h9) rfl dX10_addExternal_49 ?_
        refine lv_iload hx hb dX10_addExternal_52 (lv_at hl 0 rfl) ?_
        obtain ⟨t_54, ht_54⟩ : ∃ t, t = m_k_X6_tellExternal en ea es t_4.2 := ⟨_, rfl⟩
        rw [lE_eq ht_54] at hT
        refine wq_iW (wc := (wW_k_X6_tellExternal ty X pn rn tn en ea es)) (va_runV (As := [.int t_4.2]) (rest := []) ⟨hx, hb, hml, hown, hts⟩ (k_X6_tellExternal l D ty td mi H.size X pn rn tn en ea es t_4.2 t_54 ht_54) (cwV 1 hts gv_k_X10_addExternal_3 rfl rfl rfl (by decide +kernel) ⟨(Nat.le_of_ble_eq_true rfl), (Nat.le_of_ble_eq_true rfl)⟩) (wm_V (wm_preS hP hD hK hE hS hA [false, true, false, true, true] rfl) (va_recv (q0 := 1) (ci := 8) hK hP rfl rfl)) rfl rfl hl.1 rfl (lv_room (Nat.le_of_ble_eq_true rfl)) dX10_addExternal_54 ⟨(Nat.le_of_ble_eq_true rfl), (Nat.le_of_ble_eq_true rfl)⟩) hS hA hP hD [false, true, false, true, true] rfl (fun _ _ h => by rcases h with ⟨-, rfl⟩; rfl) (fun r u H locs hw hP hD hS => ?_)
        obtain ⟨rfl, rfl⟩ := hw
        have hP : va_P D vwCl (wW_k_X10_addExternal ty X pn rn tn t_54.2.1 pl t_54.2.2.1 t_54.2.2.2 hn kn on t_45.2.2 pu gw an ch cg fb mh ml ih lb t_45.1 nn t_45.2.1) H := hP
        have hD : va_D A (wW_k_X10_addExternal ty X pn rn tn t_54.2.1 pl t_54.2.2.1 t_54.2.2.2 hn kn on t_45.2.2 pu gw an ch cg fb mh ml ih lb t_45.1 nn t_45.2.1) := hD
        refine W.widen (k := 1) (n := 6) (Nat.le_of_ble_eq_true rfl) (Nat.le_of_ble_eq_true rfl) ?_
        refine W.widen (k := 2) (n := 12) (Nat.le_of_ble_eq_true rfl) (Nat.le_of_ble_eq_true rfl) ?_
        exact END t_54.1 t_54.2.1 t_45.1 t_45.2.1 t_54.2.2.1 t_54.2.2.2 t_45.2.2 hT _ _ hP hD hS _ _ dX10_addExternal_57
      · rw [if_neg c_8] at hT
        exact J_34 () hT _ _ hP hD hS _ (lv_sub hl [] rfl)
theorem dX10_assume_0 : decode cX10_assume 0 = .ok (.aload_n 0, 1) := by decide +kernel
theorem dX10_assume_1 : decode cX10_assume 1 = .ok (.iload_n 1, 1) := by decide +kernel
theorem dX10_assume_2 : decode cX10_assume 2 = .ok (.iload_n 2, 1) := by decide +kernel
theorem dX10_assume_3 : decode cX10_assume 3 = .ok (.iload_n 3, 1) := by decide +kernel
theorem dX10_assume_4 : decode cX10_assume 4 = .ok (.invokevirtual 206, 3) := by decide +kernel
theorem dX10_assume_7 : decode cX10_assume 7 = .ok (.istore 5, 2) := by decide +kernel
theorem dX10_assume_9 : decode cX10_assume 9 = .ok (.aload_n 0, 1) := by decide +kernel
theorem dX10_assume_10 : decode cX10_assume 10 = .ok (.getfield 56, 3) := by decide +kernel
theorem dX10_assume_13 : decode cX10_assume 13 = .ok (.iconst 0, 1) := by decide +kernel
theorem dX10_assume_14 : decode cX10_assume 14 = .ok (.putfield 235, 3) := by decide +kernel
theorem dX10_assume_17 : decode cX10_assume 17 = .ok (.iload 4, 2) := by decide +kernel
theorem dX10_assume_19 : decode cX10_assume 19 = .ok (.ifCond .eq 25, 3) := by decide +kernel
theorem dX10_assume_22 : decode cX10_assume 22 = .ok (.aload_n 0, 1) := by decide +kernel
theorem dX10_assume_23 : decode cX10_assume 23 = .ok (.getfield 50, 3) := by decide +kernel
theorem dX10_assume_26 : decode cX10_assume 26 = .ok (.iload 5, 2) := by decide +kernel
theorem dX10_assume_28 : decode cX10_assume 28 = .ok (.invokevirtual 239, 3) := by decide +kernel
theorem dX10_assume_31 : decode cX10_assume 31 = .ok (.aload_n 0, 1) := by decide +kernel
theorem dX10_assume_32 : decode cX10_assume 32 = .ok (.getfield 46, 3) := by decide +kernel
theorem dX10_assume_35 : decode cX10_assume 35 = .ok (.iload 5, 2) := by decide +kernel
theorem dX10_assume_37 : decode cX10_assume 37 = .ok (.invokevirtual 242, 3) := by decide +kernel
theorem dX10_assume_40 : decode cX10_assume 40 = .ok (.pop, 1) := by decide +kernel
theorem dX10_assume_41 : decode cX10_assume 41 = .ok (.goto 22, 3) := by decide +kernel
theorem dX10_assume_44 : decode cX10_assume 44 = .ok (.aload_n 0, 1) := by decide +kernel
theorem dX10_assume_45 : decode cX10_assume 45 = .ok (.getfield 46, 3) := by decide +kernel
theorem dX10_assume_48 : decode cX10_assume 48 = .ok (.iload 5, 2) := by decide +kernel
theorem dX10_assume_50 : decode cX10_assume 50 = .ok (.invokevirtual 239, 3) := by decide +kernel
theorem dX10_assume_53 : decode cX10_assume 53 = .ok (.aload_n 0, 1) := by decide +kernel
theorem dX10_assume_54 : decode cX10_assume 54 = .ok (.getfield 50, 3) := by decide +kernel
theorem dX10_assume_57 : decode cX10_assume 57 = .ok (.iload 5, 2) := by decide +kernel
theorem dX10_assume_59 : decode cX10_assume 59 = .ok (.invokevirtual 242, 3) := by decide +kernel
theorem dX10_assume_62 : decode cX10_assume 62 = .ok (.pop, 1) := by decide +kernel
theorem dX10_assume_63 : decode cX10_assume 63 = .ok (.aload_n 0, 1) := by decide +kernel
theorem dX10_assume_64 : decode cX10_assume 64 = .ok (.getfield 46, 3) := by decide +kernel
theorem dX10_assume_67 : decode cX10_assume 67 = .ok (.invokevirtual 245, 3) := by decide +kernel
theorem dX10_assume_70 : decode cX10_assume 70 = .ok (.aload_n 0, 1) := by decide +kernel
theorem dX10_assume_71 : decode cX10_assume 71 = .ok (.getfield 50, 3) := by decide +kernel
theorem dX10_assume_74 : decode cX10_assume 74 = .ok (.invokevirtual 245, 3) := by decide +kernel
theorem dX10_assume_77 : decode cX10_assume 77 = .ok (.iadd, 1) := by decide +kernel
theorem dX10_assume_78 : decode cX10_assume 78 = .ok (.ireturn, 1) := by decide +kernel
