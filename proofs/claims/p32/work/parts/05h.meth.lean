theorem dX9_fullSet_0 : decode cX9_fullSet 0 = .ok (.iconst 1, 1) := by decide +kernel
theorem dX9_fullSet_1 : decode cX9_fullSet 1 = .ok (.bipush 12, 2) := by decide +kernel
theorem dX9_fullSet_3 : decode cX9_fullSet 3 = .ok (.aload_n 0, 1) := by decide +kernel
theorem dX9_fullSet_4 : decode cX9_fullSet 4 = .ok (.getfield 38, 3) := by decide +kernel
theorem dX9_fullSet_7 : decode cX9_fullSet 7 = .ok (.getfield 65, 3) := by decide +kernel
theorem dX9_fullSet_10 : decode cX9_fullSet 10 = .ok (.invokestatic 209, 3) := by decide +kernel
theorem dX9_fullSet_13 : decode cX9_fullSet 13 = .ok (.ishl, 1) := by decide +kernel
theorem dX9_fullSet_14 : decode cX9_fullSet 14 = .ok (.iconst 1, 1) := by decide +kernel
theorem dX9_fullSet_15 : decode cX9_fullSet 15 = .ok (.isub, 1) := by decide +kernel
theorem dX9_fullSet_16 : decode cX9_fullSet 16 = .ok (.ireturn, 1) := by decide +kernel
def wW_k_X9_fullSet (ty : Nat → ClassId) (X : Nat → Nat) (z9_0 : Int32) (z9_1 : Int32) (z9_2 : Int32) (z9_3 : Int32) (z9_4 : Int32) (z9_5 : Int32) (z9_6 : Int32) (z9_7 : Int32) (z9_8 : Int32) (z9_9 : Int32) (z9_10 : Int32) (z9_11 : Int32) (z9_12 : Int32) (z9_13 : Int32) (z9_14 : Int32) : va_W := [((X 8), .inr (5, [.ref (X 1), .ref (X 9), .ref (X 10), .ref (X 12), .ref (X 14), .int z9_0, .ref (X 15), .ref (X 16), .ref (X 17), .int z9_1, .ref (X 18), .ref (X 19), .int z9_2, .int z9_3, .int z9_4, .int z9_5])), ((X 20), .inr (11, [.ref (X 1), .ref (X 8), .ref (X 21), .ref (X 28), .ref (X 35), .int z9_6, .ref (X 36), .ref (X 37), .ref (X 38), .int z9_7, .int z9_8, .int z9_9, .int z9_10, .int z9_11, .int z9_12, .int z9_13, .int z9_14]))]
abbrev r_k_X9_fullSet : Type := Int32
def m_k_X9_fullSet (on : Int32) : r_k_X9_fullSet :=
  (((1 : Int32) <<< ((if on < (12 : Int32) then on else (12 : Int32)) &&& 31)) - 1)
def vs_k_X9_fullSet : List Cond := .code yX9_fullSet cX9_fullSet 1 (some .int) :: ([.fieldLink RX9 38 "AnswerFold$Solver" "grounding" "LAnswerFold$Grounding;", .methodLink RX9 209 Lib.Math.min.name, .static Lib.Math.min.name, .initialized "java/lang/Math", .code Lib.Math.min.name Lib.Math.min.code 2 (some .int)] ++ (u_ws RX9 TX9 17 ++ (u_ws RX3 TX3 16)))
theorem iv_k_X9_fullSet_X3 : ∀ w ∈ u_ws RX3 TX3 16, w ∈ vs_k_X9_fullSet := (fun _ h => List.mem_cons_of_mem _ (List.mem_append_right _ (List.mem_append_right _ (h))))
theorem iv_k_X9_fullSet_X9 : ∀ w ∈ u_ws RX9 TX9 17, w ∈ vs_k_X9_fullSet := (fun _ h => List.mem_cons_of_mem _ (List.mem_append_right _ (List.mem_append_left _ h)))
set_option maxHeartbeats 4000000 in
set_option maxRecDepth 100000 in
theorem k_X9_fullSet (l : Launch) (D : va_G) (ty : Nat → ClassId) (td mi sz : Nat) (X : Nat → Nat) (hn : Int32) (kn : Int32) (on : Int32) (cu : Int32) (pu : Int32) (gw : Int32) (an : Int32) (ch : Int32) (cg : Int32) (fb : Int32) (mh : Int32) (ml : Int32) (ih : Int32) (lb : Int32) (ic : Int32) (TT : r_k_X9_fullSet) (hTT : TT = m_k_X9_fullSet on) : Met l yX9_fullSet vs_k_X9_fullSet { frames := 1, cells := 0, slots := 0, locals := 14 } (va_Pc [.ref (X 20)] (wq_P D ty td mi (wW_k_X9_fullSet ty X hn kn on cu pu gw an ch cg fb mh ml ih lb ic) sz)) (va_Qi (fun (r : Int32) (u : va_W) => (r = TT ∧ (u = (wW_k_X9_fullSet ty X hn kn on cu pu gw an ch cg fb mh ml ih lb ic)))) (wq_B D (va_A (wW_k_X9_fullSet ty X hn kn on cu pu gw an ch cg fb mh ml ih lb ic) sz)) (va_A (wW_k_X9_fullSet ty X hn kn on cu pu gw an ch cg fb mh ml ih lb ic) sz)) 0 0 (va_A (wW_k_X9_fullSet ty X hn kn on cu pu gw an ch cg fb mh ml ih lb ic) sz) := by
  refine Met.ofW (cc := cX9_fullSet) (maxL := 1) (ret := (some .int)) (by decide) rfl ?_
  intro p e s m args below meth c s₁ B hml hv
  obtain ⟨rfl, hsz, hP, hK, hD0, hE⟩ := hv
  have hx := B.exec
  have hb := B.bytes
  have hr := B.returns
  have hts := atoms_spec (ws := vs_k_X9_fullSet) B.pre
  have hown : s.vm.findClass RX9 = some m.cls := findClass_of_methodNamed B.named
  have hlocks := B.notSynchronized
  subst hsz
  have hD := hD0.self (sz := s.heap.size)
  generalize hAe : va_A (wW_k_X9_fullSet ty X hn kn on cu pu gw an ch cg fb mh ml ih lb ic) s.heap.size = A at hD hE ⊢
  have hA : ∀ q : Nat, s.heap.size ≤ q → A q := fun q h => by rw [← hAe]; exact Or.inr h
  have hS : va_S A s.heap s.heap [] := va_S.rf
  have hP : va_P D vwCl (wW_k_X9_fullSet ty X hn kn on cu pu gw an ch cg fb mh ml ih lb ic) s.heap := hP
  have hl := lv_entry ([.ref (X 20)]) (n := 1) (Nat.le_of_ble_eq_true rfl)
  rw [lg_entry_eq]
  generalize (lg_sl ([.ref (X 20)]) ++ List.replicate (1 - (lg_sl ([.ref (X 20)])).length) Slot.unset).toArray = ls at hl ⊢
  have hl : lv_has ls 1 [(0, .ref (X 20))] := hl
  have END : ∀ (r : Int32), TT = r → ∀ (H : Heap) (locs : List Loc), va_P D vwCl (wW_k_X9_fullSet ty X hn kn on cu pu gw an ch cg fb mh ml ih lb ic) H → va_D A (wW_k_X9_fullSet ty X hn kn on cu pu gw an ch cg fb mh ml ih lb ic) → va_S A s.heap H locs → ∀ (ls : Array Slot) (pc : Nat), decode cX9_fullSet pc = .ok (.ireturn, 1) → W p l e (headSpec vs_k_X9_fullSet { frames := 1, cells := 0, slots := 0, locals := 14 }).room s m ([.ref (X 20)] : List Value).toArray below meth c H locs 0 0 (MQ below (va_Qi (fun (r : Int32) (u : va_W) => (r = TT ∧ (u = (wW_k_X9_fullSet ty X hn kn on cu pu gw an ch cg fb mh ml ih lb ic)))) (wq_B D A) A) ([.ref (X 20)] : List Value).toArray s 0 0 A) (F0 m pc ls [.int r]) := by
    intro r hT H locs hP hD hS ls pc hd
    have hM : TT = r := hT
    exact W.iret (v := r) hx hb hr (fun t ht hW => ⟨⟨r, (wW_k_X9_fullSet ty X hn kn on cu pu gw an ch cg fb mh ml ih lb ic), rfl, ⟨(by rw [hM]), rfl⟩, wq_B.of ht hP hD⟩, hS.F ht⟩) hS.2.2 hd
  have hT := hTT
  rw [m_k_X9_fullSet] at hT
  refine lv_iconst (v := 1) hx hb dX9_fullSet_0 (by decide) ?_
  refine lv_bipush (v := 12) hx hb dX9_fullSet_1 (by decide) ?_
  refine lv_aload_n hx hb dX9_fullSet_3 rfl (lv_at hl 0 rfl) ?_
  refine va_get (D := D) (ci := 11) (v := .ref (X 8)) (C := RX9) (T := TX9) (N := 17) hx hb hts iv_k_X9_fullSet_X9 hown hK hP 1 rfl rfl 1 (by decide) (hts (.fieldLink RX9 38 "AnswerFold$Solver" "grounding" "LAnswerFold$Grounding;") (by decide +kernel)) (fun _ h9 => h9) rfl dX9_fullSet_4 ?_
  refine va_getN (D := D) (ci := 5) (v := .int on) (C := RX3) (T := TX3) (N := 16) hx hb hts iv_k_X9_fullSet_X3 hown hK hP 0 rfl rfl 12 (by decide) (hE.at (.fieldLinkNest "AnswerFold$Solver" 65 "AnswerFold$Grounding" "openCount" "I" "AnswerFold") (by decide +kernel)) (fun _ h9 => h9) rfl dX9_fullSet_7 ?_
  refine va_mmin hx hb (hml.trans hl.1.symm) hown (hts (.methodLink RX9 209 Lib.Math.min.name) (by decide +kernel)) (hts (.static Lib.Math.min.name) (by decide +kernel)) (hts (.initialized "java/lang/Math") (by decide +kernel)) (hts (.code Lib.Math.min.name Lib.Math.min.code 2 (some .int)) (by decide +kernel)) (Nat.le_of_ble_eq_true rfl) (Nat.le_of_ble_eq_true rfl) (Nat.le_of_ble_eq_true rfl) (Nat.le_of_ble_eq_true rfl) dX9_fullSet_10 ?_
  refine lv_ishl hx hb dX9_fullSet_13 ?_
  refine lv_iconst (v := 1) hx hb dX9_fullSet_14 (by decide) ?_
  refine lv_isub hx hb dX9_fullSet_15 ?_
  exact END (((1 : Int32) <<< ((if on < (12 : Int32) then on else (12 : Int32)) &&& 31)) - 1) hT _ _ hP hD hS _ _ dX9_fullSet_16
theorem dX9_fits_0 : decode cX9_fits 0 = .ok (.aload_n 0, 1) := by decide +kernel
theorem dX9_fits_1 : decode cX9_fits 1 = .ok (.getfield 188, 3) := by decide +kernel
theorem dX9_fits_4 : decode cX9_fits 4 = .ok (.ifCond .ne 29, 3) := by decide +kernel
theorem dX9_fits_7 : decode cX9_fits 7 = .ok (.iload_n 1, 1) := by decide +kernel
theorem dX9_fits_8 : decode cX9_fits 8 = .ok (.aload_n 0, 1) := by decide +kernel
theorem dX9_fits_9 : decode cX9_fits 9 = .ok (.getfield 182, 3) := by decide +kernel
theorem dX9_fits_12 : decode cX9_fits 12 = .ok (.iand, 1) := by decide +kernel
theorem dX9_fits_13 : decode cX9_fits 13 = .ok (.aload_n 0, 1) := by decide +kernel
theorem dX9_fits_14 : decode cX9_fits 14 = .ok (.getfield 182, 3) := by decide +kernel
theorem dX9_fits_17 : decode cX9_fits 17 = .ok (.if_icmp .ne 16, 3) := by decide +kernel
theorem dX9_fits_20 : decode cX9_fits 20 = .ok (.iload_n 1, 1) := by decide +kernel
theorem dX9_fits_21 : decode cX9_fits 21 = .ok (.aload_n 0, 1) := by decide +kernel
theorem dX9_fits_22 : decode cX9_fits 22 = .ok (.getfield 185, 3) := by decide +kernel
theorem dX9_fits_25 : decode cX9_fits 25 = .ok (.iand, 1) := by decide +kernel
theorem dX9_fits_26 : decode cX9_fits 26 = .ok (.ifCond .ne 7, 3) := by decide +kernel
theorem dX9_fits_29 : decode cX9_fits 29 = .ok (.iconst 1, 1) := by decide +kernel
theorem dX9_fits_30 : decode cX9_fits 30 = .ok (.goto 4, 3) := by decide +kernel
theorem dX9_fits_33 : decode cX9_fits 33 = .ok (.iconst 0, 1) := by decide +kernel
theorem dX9_fits_34 : decode cX9_fits 34 = .ok (.ireturn, 1) := by decide +kernel
def wW_k_X9_fits (ty : Nat → ClassId) (X : Nat → Nat) (z9_0 : Int32) (z9_1 : Int32) (z9_2 : Int32) (z9_3 : Int32) (z9_4 : Int32) (z9_5 : Int32) (z9_6 : Int32) (z9_7 : Int32) (z9_8 : Int32) : va_W := [((X 20), .inr (11, [.ref (X 1), .ref (X 8), .ref (X 21), .ref (X 28), .ref (X 35), .int z9_0, .ref (X 36), .ref (X 37), .ref (X 38), .int z9_1, .int z9_2, .int z9_3, .int z9_4, .int z9_5, .int z9_6, .int z9_7, .int z9_8]))]
abbrev r_k_X9_fits : Type := Int32
def m_k_X9_fits (mh : Int32) (ml : Int32) (ih : Int32) (a1 : Int32) : r_k_X9_fits :=
  if ih = 0 then
    if (a1 &&& mh) = mh then
      if (a1 &&& ml) = 0 then
        1
      else
        0
    else
      0
  else
    0
def vs_k_X9_fits : List Cond := .code yX9_fits cX9_fits 2 (some .boolean) :: ([.fieldLink RX9 188 "AnswerFold$Solver" "isHopeless" "Z", .fieldLink RX9 182 "AnswerFold$Solver" "mustHave" "I", .fieldLink RX9 185 "AnswerFold$Solver" "mustLack" "I"] ++ (u_ws RX9 TX9 17))
theorem iv_k_X9_fits_X9 : ∀ w ∈ u_ws RX9 TX9 17, w ∈ vs_k_X9_fits := (fun _ h => List.mem_cons_of_mem _ (List.mem_append_right _ (h)))
set_option maxHeartbeats 4000000 in
set_option maxRecDepth 100000 in
theorem k_X9_fits (l : Launch) (D : va_G) (ty : Nat → ClassId) (td mi sz : Nat) (X : Nat → Nat) (an : Int32) (ch : Int32) (cg : Int32) (fb : Int32) (mh : Int32) (ml : Int32) (ih : Int32) (lb : Int32) (ic : Int32) (a1 : Int32) (TT : r_k_X9_fits) (hTT : TT = m_k_X9_fits mh ml ih a1) : Met l yX9_fits vs_k_X9_fits { frames := 0, cells := 0, slots := 0, locals := 0 } (va_Pc [.ref (X 20), .int a1] (wq_P D ty td mi (wW_k_X9_fits ty X an ch cg fb mh ml ih lb ic) sz)) (va_Qi (fun (r : Int32) (u : va_W) => (r = TT ∧ (TT = 0 ∨ TT = 1) ∧ (u = (wW_k_X9_fits ty X an ch cg fb mh ml ih lb ic)))) (wq_B D (va_A (wW_k_X9_fits ty X an ch cg fb mh ml ih lb ic) sz)) (va_A (wW_k_X9_fits ty X an ch cg fb mh ml ih lb ic) sz)) 0 0 (va_A (wW_k_X9_fits ty X an ch cg fb mh ml ih lb ic) sz) := by
  refine Met.ofW (cc := cX9_fits) (maxL := 2) (ret := (some .boolean)) (by decide) rfl ?_
  intro p e s m args below meth c s₁ B hml hv
  obtain ⟨rfl, hsz, hP, hK, hD0, hE⟩ := hv
  have hx := B.exec
  have hb := B.bytes
  have hr := B.returns
  have hts := atoms_spec (ws := vs_k_X9_fits) B.pre
  have hown : s.vm.findClass RX9 = some m.cls := findClass_of_methodNamed B.named
  have hlocks := B.notSynchronized
  subst hsz
  have hD := hD0.self (sz := s.heap.size)
  generalize hAe : va_A (wW_k_X9_fits ty X an ch cg fb mh ml ih lb ic) s.heap.size = A at hD hE ⊢
  have hA : ∀ q : Nat, s.heap.size ≤ q → A q := fun q h => by rw [← hAe]; exact Or.inr h
  have hS : va_S A s.heap s.heap [] := va_S.rf
  have hP : va_P D vwCl (wW_k_X9_fits ty X an ch cg fb mh ml ih lb ic) s.heap := hP
  have hl := lv_entry ([.ref (X 20), .int a1]) (n := 2) (Nat.le_of_ble_eq_true rfl)
  rw [lg_entry_eq]
  generalize (lg_sl ([.ref (X 20), .int a1]) ++ List.replicate (2 - (lg_sl ([.ref (X 20), .int a1])).length) Slot.unset).toArray = ls at hl ⊢
  have hl : lv_has ls 2 [(0, .ref (X 20)), (1, .int a1)] := hl
  have END : ∀ (r : Int32), TT = r → (r = 0 ∨ r = 1) → ∀ (H : Heap) (locs : List Loc), va_P D vwCl (wW_k_X9_fits ty X an ch cg fb mh ml ih lb ic) H → va_D A (wW_k_X9_fits ty X an ch cg fb mh ml ih lb ic) → va_S A s.heap H locs → ∀ (ls : Array Slot) (pc : Nat), decode cX9_fits pc = .ok (.ireturn, 1) → W p l e (headSpec vs_k_X9_fits { frames := 0, cells := 0, slots := 0, locals := 0 }).room s m ([.ref (X 20), .int a1] : List Value).toArray below meth c H locs 0 0 (MQ below (va_Qi (fun (r : Int32) (u : va_W) => (r = TT ∧ (TT = 0 ∨ TT = 1) ∧ (u = (wW_k_X9_fits ty X an ch cg fb mh ml ih lb ic)))) (wq_B D A) A) ([.ref (X 20), .int a1] : List Value).toArray s 0 0 A) (F0 m pc ls [.int r]) := by
    intro r hT hb01 H locs hP hD hS ls pc hd
    have hM : TT = r := hT
    exact W.zret (v := r) hx hb hr (wz_nar hb01) (fun t ht hW => ⟨⟨r, (wW_k_X9_fits ty X an ch cg fb mh ml ih lb ic), rfl, ⟨(by rw [hM]), (by rw [hM]; exact hb01), rfl⟩, wq_B.of ht hP hD⟩, hS.F ht⟩) hS.2.2 hd
  have hT := hTT
  rw [m_k_X9_fits] at hT
  refine lv_aload_n hx hb dX9_fits_0 rfl (lv_at hl 0 rfl) ?_
  refine va_get (D := D) (ci := 11) (v := .int ih) (C := RX9) (T := TX9) (N := 17) hx hb hts iv_k_X9_fits_X9 hown hK hP 0 rfl rfl 14 (by decide) (hts (.fieldLink RX9 188 "AnswerFold$Solver" "isHopeless" "Z") (by decide +kernel)) (fun _ h9 => h9) rfl dX9_fits_1 ?_
  refine lv_if_ne (tgt := 33) hx hb dX9_fits_4 (by decide) (fun c_1 => ?_) (fun c_1 => ?_)
  · rw [if_neg c_1] at hT
    refine lv_iconst (v := 0) hx hb dX9_fits_33 (by decide) ?_
    exact END 0 hT (by decide) _ _ hP hD hS _ _ dX9_fits_34
  · rw [if_pos c_1] at hT
    refine lv_iload_n hx hb dX9_fits_7 rfl (lv_at hl 1 rfl) ?_
    refine lv_aload_n hx hb dX9_fits_8 rfl (lv_at hl 0 rfl) ?_
    refine va_get (D := D) (ci := 11) (v := .int mh) (C := RX9) (T := TX9) (N := 17) hx hb hts iv_k_X9_fits_X9 hown hK hP 0 rfl rfl 12 (by decide) (hts (.fieldLink RX9 182 "AnswerFold$Solver" "mustHave" "I") (by decide +kernel)) (fun _ h9 => h9) rfl dX9_fits_9 ?_
    refine lv_iand hx hb dX9_fits_12 ?_
    refine lv_aload_n hx hb dX9_fits_13 rfl (lv_at hl 0 rfl) ?_
    refine va_get (D := D) (ci := 11) (v := .int mh) (C := RX9) (T := TX9) (N := 17) hx hb hts iv_k_X9_fits_X9 hown hK hP 0 rfl rfl 12 (by decide) (hts (.fieldLink RX9 182 "AnswerFold$Solver" "mustHave" "I") (by decide +kernel)) (fun _ h9 => h9) rfl dX9_fits_14 ?_
    refine lv_icmp_ne (tgt := 33) hx hb dX9_fits_17 (by decide) (fun c_2 => ?_) (fun c_2 => ?_)
    · rw [if_neg c_2] at hT
      refine lv_iconst (v := 0) hx hb dX9_fits_33 (by decide) ?_
      exact END 0 hT (by decide) _ _ hP hD hS _ _ dX9_fits_34
    · rw [if_pos c_2] at hT
      refine lv_iload_n hx hb dX9_fits_20 rfl (lv_at hl 1 rfl) ?_
      refine lv_aload_n hx hb dX9_fits_21 rfl (lv_at hl 0 rfl) ?_
      refine va_get (D := D) (ci := 11) (v := .int ml) (C := RX9) (T := TX9) (N := 17) hx hb hts iv_k_X9_fits_X9 hown hK hP 0 rfl rfl 13 (by decide) (hts (.fieldLink RX9 185 "AnswerFold$Solver" "mustLack" "I") (by decide +kernel)) (fun _ h9 => h9) rfl dX9_fits_22 ?_
      refine lv_iand hx hb dX9_fits_25 ?_
      refine lv_if_ne (tgt := 33) hx hb dX9_fits_26 (by decide) (fun c_3 => ?_) (fun c_3 => ?_)
      · rw [if_neg c_3] at hT
        refine lv_iconst (v := 0) hx hb dX9_fits_33 (by decide) ?_
        exact END 0 hT (by decide) _ _ hP hD hS _ _ dX9_fits_34
      · rw [if_pos c_3] at hT
        refine lv_iconst (v := 1) hx hb dX9_fits_29 (by decide) ?_
        refine lv_goto (tgt := 34) hx hb dX9_fits_30 (by decide) ?_
        exact END 1 hT (by decide) _ _ hP hD hS _ _ dX9_fits_34
theorem dX9_countHolds_0 : decode cX9_countHolds 0 = .ok (.aload_n 1, 1) := by decide +kernel
theorem dX9_countHolds_1 : decode cX9_countHolds 1 = .ok (.getfield 260, 3) := by decide +kernel
theorem dX9_countHolds_4 : decode cX9_countHolds 4 = .ok (.istore_n 3, 1) := by decide +kernel
theorem dX9_countHolds_5 : decode cX9_countHolds 5 = .ok (.iload_n 3, 1) := by decide +kernel
theorem dX9_countHolds_6 : decode cX9_countHolds 6 = .ok (.ifCond .lt 9, 3) := by decide +kernel
theorem dX9_countHolds_9 : decode cX9_countHolds 9 = .ok (.iload_n 3, 1) := by decide +kernel
theorem dX9_countHolds_10 : decode cX9_countHolds 10 = .ok (.bipush 6, 2) := by decide +kernel
theorem dX9_countHolds_12 : decode cX9_countHolds 12 = .ok (.if_icmp .lt 5, 3) := by decide +kernel
theorem dX9_countHolds_15 : decode cX9_countHolds 15 = .ok (.iconst 0, 1) := by decide +kernel
theorem dX9_countHolds_16 : decode cX9_countHolds 16 = .ok (.ireturn, 1) := by decide +kernel
theorem dX9_countHolds_17 : decode cX9_countHolds 17 = .ok (.aload_n 0, 1) := by decide +kernel
theorem dX9_countHolds_18 : decode cX9_countHolds 18 = .ok (.getfield 28, 3) := by decide +kernel
theorem dX9_countHolds_21 : decode cX9_countHolds 21 = .ok (.iload_n 3, 1) := by decide +kernel
theorem dX9_countHolds_22 : decode cX9_countHolds 22 = .ok (.iaload, 1) := by decide +kernel
theorem dX9_countHolds_23 : decode cX9_countHolds 23 = .ok (.iload_n 2, 1) := by decide +kernel
theorem dX9_countHolds_24 : decode cX9_countHolds 24 = .ok (.aload_n 0, 1) := by decide +kernel
theorem dX9_countHolds_25 : decode cX9_countHolds 25 = .ok (.getfield 25, 3) := by decide +kernel
theorem dX9_countHolds_28 : decode cX9_countHolds 28 = .ok (.iload_n 3, 1) := by decide +kernel
theorem dX9_countHolds_29 : decode cX9_countHolds 29 = .ok (.iaload, 1) := by decide +kernel
theorem dX9_countHolds_30 : decode cX9_countHolds 30 = .ok (.iand, 1) := by decide +kernel
theorem dX9_countHolds_31 : decode cX9_countHolds 31 = .ok (.invokestatic 204, 3) := by decide +kernel
theorem dX9_countHolds_34 : decode cX9_countHolds 34 = .ok (.iadd, 1) := by decide +kernel
theorem dX9_countHolds_35 : decode cX9_countHolds 35 = .ok (.istore 4, 2) := by decide +kernel
theorem dX9_countHolds_37 : decode cX9_countHolds 37 = .ok (.aload_n 1, 1) := by decide +kernel
theorem dX9_countHolds_38 : decode cX9_countHolds 38 = .ok (.getfield 139, 3) := by decide +kernel
theorem dX9_countHolds_41 : decode cX9_countHolds 41 = .ok (.bipush 103, 2) := by decide +kernel
theorem dX9_countHolds_43 : decode cX9_countHolds 43 = .ok (.if_icmp .ne 20, 3) := by decide +kernel
theorem dX9_countHolds_46 : decode cX9_countHolds 46 = .ok (.iload 4, 2) := by decide +kernel
theorem dX9_countHolds_48 : decode cX9_countHolds 48 = .ok (.aload_n 1, 1) := by decide +kernel
theorem dX9_countHolds_49 : decode cX9_countHolds 49 = .ok (.getfield 263, 3) := by decide +kernel
theorem dX9_countHolds_52 : decode cX9_countHolds 52 = .ok (.if_icmp .lt 7, 3) := by decide +kernel
theorem dX9_countHolds_55 : decode cX9_countHolds 55 = .ok (.iconst 1, 1) := by decide +kernel
theorem dX9_countHolds_56 : decode cX9_countHolds 56 = .ok (.goto 21, 3) := by decide +kernel
theorem dX9_countHolds_59 : decode cX9_countHolds 59 = .ok (.iconst 0, 1) := by decide +kernel
theorem dX9_countHolds_60 : decode cX9_countHolds 60 = .ok (.goto 17, 3) := by decide +kernel
theorem dX9_countHolds_63 : decode cX9_countHolds 63 = .ok (.iload 4, 2) := by decide +kernel
theorem dX9_countHolds_65 : decode cX9_countHolds 65 = .ok (.aload_n 1, 1) := by decide +kernel
theorem dX9_countHolds_66 : decode cX9_countHolds 66 = .ok (.getfield 263, 3) := by decide +kernel
theorem dX9_countHolds_69 : decode cX9_countHolds 69 = .ok (.if_icmp .gt 7, 3) := by decide +kernel
theorem dX9_countHolds_72 : decode cX9_countHolds 72 = .ok (.iconst 1, 1) := by decide +kernel
theorem dX9_countHolds_73 : decode cX9_countHolds 73 = .ok (.goto 4, 3) := by decide +kernel
theorem dX9_countHolds_76 : decode cX9_countHolds 76 = .ok (.iconst 0, 1) := by decide +kernel
theorem dX9_countHolds_77 : decode cX9_countHolds 77 = .ok (.ireturn, 1) := by decide +kernel
def wW_k_X9_countHolds (ty : Nat → ClassId) (X : Nat → Nat) (z9_0 : Int32) (z9_1 : Int32) (z9_2 : Int32) (z9_3 : Int32) (z9_4 : Int32) (z9_5 : Int32) (z9_6 : Int32) (z9_7 : Int32) (z9_8 : Int32) (z9_9 : Nat → Int32) (z9_10 : Nat → Int32) : va_W := [((X 20), .inr (11, [.ref (X 1), .ref (X 8), .ref (X 21), .ref (X 28), .ref (X 35), .int z9_0, .ref (X 36), .ref (X 37), .ref (X 38), .int z9_1, .int z9_2, .int z9_3, .int z9_4, .int z9_5, .int z9_6, .int z9_7, .int z9_8])), ((X 36), .inl (ty 0, 6, .inl z9_9)), ((X 37), .inl (ty 0, 6, .inl z9_10))]
abbrev r_k_X9_countHolds : Type := Int32
def m_k_X9_countHolds (pp : pT) (obi : Nat → Int32) (sc : Nat → Int32) (a0 : Nat) (a1 : Int32) : r_k_X9_countHolds :=
  if (pI pp a0 1) < 0 then
    0
  else
    if (pI pp a0 1) < 6 then
      lE (m_k_J6_bitCount_0f7a4 (a1 &&& (obi (pI pp a0 1).toNatClampNeg))) (fun t_31 =>
        if (pI pp a0 0) = 103 then
          if ((sc (pI pp a0 1).toNatClampNeg) + t_31) < (pI pp a0 2) then
            0
          else
            1
        else
          if (pI pp a0 2) < ((sc (pI pp a0 1).toNatClampNeg) + t_31) then
            0
          else
            1)
    else
      0
def vs_k_X9_countHolds : List Cond := .code yX9_countHolds cX9_countHolds 5 (some .boolean) :: ([.fieldLink RX9 28 "AnswerFold$Solver" "sureCounts" "[I", .fieldLink RX9 25 "AnswerFold$Solver" "openBits" "[I", .methodLink RX9 204 yJ6_bitCount_0f7a4, .static yJ6_bitCount_0f7a4, .initialized RJ6] ++ (u_ws RX4 TX4 8 ++ (u_ws RX9 TX9 17 ++ (vs_k_J6_bitCount_0f7a4))))
theorem iv_k_X9_countHolds_X4 : ∀ w ∈ u_ws RX4 TX4 8, w ∈ vs_k_X9_countHolds := (fun _ h => List.mem_cons_of_mem _ (List.mem_append_right _ (List.mem_append_left _ h)))
theorem iv_k_X9_countHolds_X9 : ∀ w ∈ u_ws RX9 TX9 17, w ∈ vs_k_X9_countHolds := (fun _ h => List.mem_cons_of_mem _ (List.mem_append_right _ (List.mem_append_right _ (List.mem_append_left _ h))))
set_option maxRecDepth 20000 in
theorem gv_k_X9_countHolds_0 : GoodIn vs_k_X9_countHolds (va_wsS RX9 204 yJ6_bitCount_0f7a4 vs_k_J6_bitCount_0f7a4) := goodIn_app (goodIn_sub (by decide +kernel) (by decide +kernel)) (goodIn_sub (fun _ h => List.mem_cons_of_mem _ (List.mem_append_right _ (List.mem_append_right _ (List.mem_append_right _ (h))))) (by decide +kernel))
set_option maxHeartbeats 4000000 in
set_option maxRecDepth 100000 in
theorem k_X9_countHolds (l : Launch) (D : va_G) (ty : Nat → ClassId) (td mi sz : Nat) (pp : pT) (X : Nat → Nat) (an : Int32) (ch : Int32) (cg : Int32) (fb : Int32) (mh : Int32) (ml : Int32) (ih : Int32) (lb : Int32) (ic : Int32) (obi : Nat → Int32) (sc : Nat → Int32) (a0 : Nat) (a1 : Int32) (hok : pOK pp) (hm_a0 : a0 ∈ pLA pp) (TT : r_k_X9_countHolds) (hTT : TT = m_k_X9_countHolds pp obi sc a0 a1) : Met l yX9_countHolds vs_k_X9_countHolds { frames := 1, cells := 0, slots := 0, locals := 20 } (va_Pc [.ref (X 20), .ref a0, .int a1] (wq_P D ty td mi ((wW_k_X9_countHolds ty X an ch cg fb mh ml ih lb ic obi sc) ++ pw ty pp) sz)) (va_Qi (fun (r : Int32) (u : va_W) => (r = TT ∧ (TT = 0 ∨ TT = 1) ∧ (u = ((wW_k_X9_countHolds ty X an ch cg fb mh ml ih lb ic obi sc) ++ pw ty pp)))) (wq_B D (va_A ((wW_k_X9_countHolds ty X an ch cg fb mh ml ih lb ic obi sc) ++ pw ty pp) sz)) (va_A ((wW_k_X9_countHolds ty X an ch cg fb mh ml ih lb ic obi sc) ++ pw ty pp) sz)) 0 0 (va_A ((wW_k_X9_countHolds ty X an ch cg fb mh ml ih lb ic obi sc) ++ pw ty pp) sz) := by
  refine Met.ofW (cc := cX9_countHolds) (maxL := 5) (ret := (some .boolean)) (by decide) rfl ?_
  intro p e s m args below meth c s₁ B hml hv
  obtain ⟨rfl, hsz, hP, hK, hD0, hE⟩ := hv
  have hx := B.exec
  have hb := B.bytes
  have hr := B.returns
  have hts := atoms_spec (ws := vs_k_X9_countHolds) B.pre
  have hown : s.vm.findClass RX9 = some m.cls := findClass_of_methodNamed B.named
  have hlocks := B.notSynchronized
  subst hsz
  have hD := hD0.self (sz := s.heap.size)
  generalize hAe : va_A ((wW_k_X9_countHolds ty X an ch cg fb mh ml ih lb ic obi sc) ++ pw ty pp) s.heap.size = A at hD hE ⊢
  have hA : ∀ q : Nat, s.heap.size ≤ q → A q := fun q h => by rw [← hAe]; exact Or.inr h
  have hS : va_S A s.heap s.heap [] := va_S.rf
  have hP : va_P D vwCl ((wW_k_X9_countHolds ty X an ch cg fb mh ml ih lb ic obi sc) ++ pw ty pp) s.heap := hP
  have hl := lv_entry ([.ref (X 20), .ref a0, .int a1]) (n := 5) (Nat.le_of_ble_eq_true rfl)
  rw [lg_entry_eq]
  generalize (lg_sl ([.ref (X 20), .ref a0, .int a1]) ++ List.replicate (5 - (lg_sl ([.ref (X 20), .ref a0, .int a1])).length) Slot.unset).toArray = ls at hl ⊢
  have hl : lv_has ls 5 [(0, .ref (X 20)), (1, .ref a0), (2, .int a1)] := hl
  have END : ∀ (r : Int32), TT = r → (r = 0 ∨ r = 1) → ∀ (H : Heap) (locs : List Loc), va_P D vwCl ((wW_k_X9_countHolds ty X an ch cg fb mh ml ih lb ic obi sc) ++ pw ty pp) H → va_D A ((wW_k_X9_countHolds ty X an ch cg fb mh ml ih lb ic obi sc) ++ pw ty pp) → va_S A s.heap H locs → ∀ (ls : Array Slot) (pc : Nat), decode cX9_countHolds pc = .ok (.ireturn, 1) → W p l e (headSpec vs_k_X9_countHolds { frames := 1, cells := 0, slots := 0, locals := 20 }).room s m ([.ref (X 20), .ref a0, .int a1] : List Value).toArray below meth c H locs 0 0 (MQ below (va_Qi (fun (r : Int32) (u : va_W) => (r = TT ∧ (TT = 0 ∨ TT = 1) ∧ (u = ((wW_k_X9_countHolds ty X an ch cg fb mh ml ih lb ic obi sc) ++ pw ty pp)))) (wq_B D A) A) ([.ref (X 20), .ref a0, .int a1] : List Value).toArray s 0 0 A) (F0 m pc ls [.int r]) := by
    intro r hT hb01 H locs hP hD hS ls pc hd
    have hM : TT = r := hT
    exact W.zret (v := r) hx hb hr (wz_nar hb01) (fun t ht hW => ⟨⟨r, ((wW_k_X9_countHolds ty X an ch cg fb mh ml ih lb ic obi sc) ++ pw ty pp), rfl, ⟨(by rw [hM]), (by rw [hM]; exact hb01), rfl⟩, wq_B.of ht hP hD⟩, hS.F ht⟩) hS.2.2 hd
  have hT := hTT
  rw [m_k_X9_countHolds] at hT
  refine lv_aload_n hx hb dX9_countHolds_0 rfl (lv_at hl 1 rfl) ?_
  obtain ⟨k_1, hk_1⟩ := List.getElem?_of_mem (pw_lit (ty := ty) (p := pp) (L := [((X 20), .inr (11, [.ref (X 1), .ref (X 8), .ref (X 21), .ref (X 28), .ref (X 35), .int an, .ref (X 36), .ref (X 37), .ref (X 38), .int ch, .int cg, .int fb, .int mh, .int ml, .int ih, .int lb, .int ic])), ((X 36), .inl (ty 0, 6, .inl obi)), ((X 37), .inl (ty 0, 6, .inl sc))]) hm_a0)
  refine va_getN (D := D) (ci := 6) (v := .int (pI pp a0 1)) (C := RX4) (T := TX4) (N := 8) hx hb hts iv_k_X9_countHolds_X4 hown hK hP k_1 hk_1 rfl 1 (by decide) (hE.at (.fieldLinkNest "AnswerFold$Solver" 260 "AnswerFold$Literal" "predicate" "I" "AnswerFold") (by decide +kernel)) (fun _ h9 => h9) rfl dX9_countHolds_1 ?_
  refine lv_istore_n (lv' := [(3, .int (pI pp a0 1)), (0, .ref (X 20)), (1, .ref a0), (2, .int a1)]) hx hb dX9_countHolds_4 rfl hl (by decide) rfl (fun ls hl => ?_)
  refine lv_iload_n hx hb dX9_countHolds_5 rfl (lv_at hl 0 rfl) ?_
  refine lv_if_lt (tgt := 15) hx hb dX9_countHolds_6 (by decide) (fun c_2 => ?_) (fun c_2 => ?_)
  · rw [if_pos c_2] at hT
    refine lv_iconst (v := 0) hx hb dX9_countHolds_15 (by decide) ?_
    exact END 0 hT (by decide) _ _ hP hD hS _ _ dX9_countHolds_16
  · rw [if_neg c_2] at hT
    refine lv_iload_n hx hb dX9_countHolds_9 rfl (lv_at hl 0 rfl) ?_
    refine lv_bipush (v := 6) hx hb dX9_countHolds_10 (by decide) ?_
    refine lv_icmp_lt (tgt := 17) hx hb dX9_countHolds_12 (by decide) (fun c_3 => ?_) (fun c_3 => ?_)
    · rw [if_pos c_3] at hT
      refine lv_aload_n hx hb dX9_countHolds_17 rfl (lv_at hl 1 rfl) ?_
      refine va_get (D := D) (ci := 11) (v := .ref (X 37)) (C := RX9) (T := TX9) (N := 17) hx hb hts iv_k_X9_countHolds_X9 hown hK hP 0 rfl rfl 7 (by decide) (hts (.fieldLink RX9 28 "AnswerFold$Solver" "sureCounts" "[I") (by decide +kernel)) (fun _ h9 => h9) rfl dX9_countHolds_18 ?_
      refine lv_iload_n hx hb dX9_countHolds_21 rfl (lv_at hl 0 rfl) ?_
      refine va_iald (D := D) hx hb hK hP 2 0 rfl rfl (wi_in (wi_lo c_2) (wi_hi (Int32.not_le.mpr c_3) (by decide))) dX9_countHolds_22 ?_
      refine lv_iload_n hx hb dX9_countHolds_23 rfl (lv_at hl 3 rfl) ?_
      refine lv_aload_n hx hb dX9_countHolds_24 rfl (lv_at hl 1 rfl) ?_
      refine va_get (D := D) (ci := 11) (v := .ref (X 36)) (C := RX9) (T := TX9) (N := 17) hx hb hts iv_k_X9_countHolds_X9 hown hK hP 0 rfl rfl 6 (by decide) (hts (.fieldLink RX9 25 "AnswerFold$Solver" "openBits" "[I") (by decide +kernel)) (fun _ h9 => h9) rfl dX9_countHolds_25 ?_
      refine lv_iload_n hx hb dX9_countHolds_28 rfl (lv_at hl 0 rfl) ?_
      refine va_iald (D := D) hx hb hK hP 1 0 rfl rfl (wi_in (wi_lo c_2) (wi_hi (Int32.not_le.mpr c_3) (by decide))) dX9_countHolds_29 ?_
      refine lv_iand hx hb dX9_countHolds_30 ?_
      obtain ⟨t_31, ht_31⟩ : ∃ t, t = m_k_J6_bitCount_0f7a4 (a1 &&& (obi (pI pp a0 1).toNatClampNeg)) := ⟨_, rfl⟩
      rw [lE_eq ht_31] at hT
      refine wq_iQW (wc := []) (pl := pw ty pp) (va_runS (As := [.int (a1 &&& (obi (pI pp a0 1).toNatClampNeg))]) (rest := [.int (sc (pI pp a0 1).toNatClampNeg)]) ⟨hx, hb, hml, hown, hts⟩ (k_J6_bitCount_0f7a4 l D ty td mi s.heap.size (a1 &&& (obi (pI pp a0 1).toNatClampNeg)) t_31 ht_31) (va_cwS 1 hts gv_k_X9_countHolds_0 rfl rfl rfl (by decide +kernel) ⟨(Nat.le_of_ble_eq_true rfl), (Nat.le_of_ble_eq_true rfl)⟩) (wm_preS (vP_left hP) (vD_left hD) hK hE hS hA [] rfl) rfl rfl hl.1 rfl (lv_room (Nat.le_of_ble_eq_true rfl)) dX9_countHolds_31 ⟨(Nat.le_of_ble_eq_true rfl), (Nat.le_of_ble_eq_true rfl)⟩) hS hA hP hD [] rfl (fun _ _ h => by rcases h with ⟨-, rfl⟩; rfl) (fun r u H locs hw hP hD hS => ?_)
      obtain ⟨hr0, rfl⟩ := hw
      subst r
      have hP : va_P D vwCl ((wW_k_X9_countHolds ty X an ch cg fb mh ml ih lb ic obi sc) ++ pw ty pp) H := hP
      have hD : va_D A ((wW_k_X9_countHolds ty X an ch cg fb mh ml ih lb ic obi sc) ++ pw ty pp) := hD
      refine W.widen (k := 0) (n := 0) (Nat.le_of_ble_eq_true rfl) (Nat.le_of_ble_eq_true rfl) ?_
      refine lv_iadd hx hb dX9_countHolds_34 ?_
      refine lv_istore (lv' := [(4, .int ((sc (pI pp a0 1).toNatClampNeg) + t_31)), (3, .int (pI pp a0 1)), (0, .ref (X 20)), (1, .ref a0), (2, .int a1)]) hx hb dX9_countHolds_35 hl (by decide) rfl (fun ls hl => ?_)
      refine lv_aload_n hx hb dX9_countHolds_37 rfl (lv_at hl 3 rfl) ?_
      obtain ⟨k_6, hk_6⟩ := List.getElem?_of_mem (pw_lit (ty := ty) (p := pp) (L := [((X 20), .inr (11, [.ref (X 1), .ref (X 8), .ref (X 21), .ref (X 28), .ref (X 35), .int an, .ref (X 36), .ref (X 37), .ref (X 38), .int ch, .int cg, .int fb, .int mh, .int ml, .int ih, .int lb, .int ic])), ((X 36), .inl (ty 0, 6, .inl obi)), ((X 37), .inl (ty 0, 6, .inl sc))]) hm_a0)
      refine va_getN (D := D) (ci := 6) (v := .int (pI pp a0 0)) (C := RX4) (T := TX4) (N := 8) hx hb hts iv_k_X9_countHolds_X4 hown hK hP k_6 hk_6 rfl 0 (by decide) (hE.at (.fieldLinkNest "AnswerFold$Solver" 139 "AnswerFold$Literal" "kind" "C" "AnswerFold") (by decide +kernel)) (fun _ h9 => h9) rfl dX9_countHolds_38 ?_
      refine lv_bipush (v := 103) hx hb dX9_countHolds_41 (by decide) ?_
      refine lv_icmp_ne (tgt := 63) hx hb dX9_countHolds_43 (by decide) (fun c_7 => ?_) (fun c_7 => ?_)
      · rw [if_neg c_7] at hT
        refine lv_iload hx hb dX9_countHolds_63 (lv_at hl 0 rfl) ?_
        refine lv_aload_n hx hb dX9_countHolds_65 rfl (lv_at hl 3 rfl) ?_
        obtain ⟨k_8, hk_8⟩ := List.getElem?_of_mem (pw_lit (ty := ty) (p := pp) (L := [((X 20), .inr (11, [.ref (X 1), .ref (X 8), .ref (X 21), .ref (X 28), .ref (X 35), .int an, .ref (X 36), .ref (X 37), .ref (X 38), .int ch, .int cg, .int fb, .int mh, .int ml, .int ih, .int lb, .int ic])), ((X 36), .inl (ty 0, 6, .inl obi)), ((X 37), .inl (ty 0, 6, .inl sc))]) hm_a0)
        refine va_getN (D := D) (ci := 6) (v := .int (pI pp a0 2)) (C := RX4) (T := TX4) (N := 8) hx hb hts iv_k_X9_countHolds_X4 hown hK hP k_8 hk_8 rfl 2 (by decide) (hE.at (.fieldLinkNest "AnswerFold$Solver" 263 "AnswerFold$Literal" "bound" "I" "AnswerFold") (by decide +kernel)) (fun _ h9 => h9) rfl dX9_countHolds_66 ?_
        refine lv_icmp_gt (tgt := 76) hx hb dX9_countHolds_69 (by decide) (fun c_9 => ?_) (fun c_9 => ?_)
        · rw [if_pos c_9] at hT
          refine lv_iconst (v := 0) hx hb dX9_countHolds_76 (by decide) ?_
          exact END 0 hT (by decide) _ _ hP hD hS _ _ dX9_countHolds_77
        · rw [if_neg c_9] at hT
          refine lv_iconst (v := 1) hx hb dX9_countHolds_72 (by decide) ?_
          refine lv_goto (tgt := 77) hx hb dX9_countHolds_73 (by decide) ?_
          exact END 1 hT (by decide) _ _ hP hD hS _ _ dX9_countHolds_77
      · rw [if_pos c_7] at hT
        refine lv_iload hx hb dX9_countHolds_46 (lv_at hl 0 rfl) ?_
        refine lv_aload_n hx hb dX9_countHolds_48 rfl (lv_at hl 3 rfl) ?_
        obtain ⟨k_10, hk_10⟩ := List.getElem?_of_mem (pw_lit (ty := ty) (p := pp) (L := [((X 20), .inr (11, [.ref (X 1), .ref (X 8), .ref (X 21), .ref (X 28), .ref (X 35), .int an, .ref (X 36), .ref (X 37), .ref (X 38), .int ch, .int cg, .int fb, .int mh, .int ml, .int ih, .int lb, .int ic])), ((X 36), .inl (ty 0, 6, .inl obi)), ((X 37), .inl (ty 0, 6, .inl sc))]) hm_a0)
        refine va_getN (D := D) (ci := 6) (v := .int (pI pp a0 2)) (C := RX4) (T := TX4) (N := 8) hx hb hts iv_k_X9_countHolds_X4 hown hK hP k_10 hk_10 rfl 2 (by decide) (hE.at (.fieldLinkNest "AnswerFold$Solver" 263 "AnswerFold$Literal" "bound" "I" "AnswerFold") (by decide +kernel)) (fun _ h9 => h9) rfl dX9_countHolds_49 ?_
        refine lv_icmp_lt (tgt := 59) hx hb dX9_countHolds_52 (by decide) (fun c_11 => ?_) (fun c_11 => ?_)
        · rw [if_pos c_11] at hT
          refine lv_iconst (v := 0) hx hb dX9_countHolds_59 (by decide) ?_
          refine lv_goto (tgt := 77) hx hb dX9_countHolds_60 (by decide) ?_
          exact END 0 hT (by decide) _ _ hP hD hS _ _ dX9_countHolds_77
        · rw [if_neg c_11] at hT
          refine lv_iconst (v := 1) hx hb dX9_countHolds_55 (by decide) ?_
          refine lv_goto (tgt := 77) hx hb dX9_countHolds_56 (by decide) ?_
          exact END 1 hT (by decide) _ _ hP hD hS _ _ dX9_countHolds_77
    · rw [if_neg c_3] at hT
      refine lv_iconst (v := 0) hx hb dX9_countHolds_15 (by decide) ?_
      exact END 0 hT (by decide) _ _ hP hD hS _ _ dX9_countHolds_16
theorem dX9_isChoice_0 : decode cX9_isChoice 0 = .ok (.aload_n 0, 1) := by decide +kernel
theorem dX9_isChoice_1 : decode cX9_isChoice 1 = .ok (.getfield 12, 3) := by decide +kernel
theorem dX9_isChoice_4 : decode cX9_isChoice 4 = .ok (.iload_n 1, 1) := by decide +kernel
theorem dX9_isChoice_5 : decode cX9_isChoice 5 = .ok (.invokevirtual 285, 3) := by decide +kernel
theorem dX9_isChoice_8 : decode cX9_isChoice 8 = .ok (.istore_n 2, 1) := by decide +kernel
theorem dX9_isChoice_9 : decode cX9_isChoice 9 = .ok (.iload_n 2, 1) := by decide +kernel
theorem dX9_isChoice_10 : decode cX9_isChoice 10 = .ok (.ifCond .lt 18, 3) := by decide +kernel
theorem dX9_isChoice_13 : decode cX9_isChoice 13 = .ok (.aload_n 0, 1) := by decide +kernel
theorem dX9_isChoice_14 : decode cX9_isChoice 14 = .ok (.getfield 106, 3) := by decide +kernel
theorem dX9_isChoice_17 : decode cX9_isChoice 17 = .ok (.iload_n 2, 1) := by decide +kernel
theorem dX9_isChoice_18 : decode cX9_isChoice 18 = .ok (.ishr, 1) := by decide +kernel
theorem dX9_isChoice_19 : decode cX9_isChoice 19 = .ok (.iconst 1, 1) := by decide +kernel
theorem dX9_isChoice_20 : decode cX9_isChoice 20 = .ok (.iand, 1) := by decide +kernel
theorem dX9_isChoice_21 : decode cX9_isChoice 21 = .ok (.ifCond .eq 7, 3) := by decide +kernel
theorem dX9_isChoice_24 : decode cX9_isChoice 24 = .ok (.iconst 1, 1) := by decide +kernel
theorem dX9_isChoice_25 : decode cX9_isChoice 25 = .ok (.goto 4, 3) := by decide +kernel
theorem dX9_isChoice_28 : decode cX9_isChoice 28 = .ok (.iconst 0, 1) := by decide +kernel
theorem dX9_isChoice_29 : decode cX9_isChoice 29 = .ok (.ireturn, 1) := by decide +kernel
def wW_k_X9_isChoice (ty : Nat → ClassId) (X : Nat → Nat) (z9_0 : Int32) (z9_1 : Int32) (z9_2 : Int32) (z9_3 : Int32) (z9_4 : Int32) (z9_5 : Int32) (z9_6 : Int32) (z9_7 : Int32) (z9_8 : Int32) (z9_9 : Int32) (z9_10 : Nat → Int32) : va_W := [((X 20), .inr (11, [.ref (X 1), .ref (X 8), .ref (X 21), .ref (X 28), .ref (X 35), .int z9_0, .ref (X 36), .ref (X 37), .ref (X 38), .int z9_1, .int z9_2, .int z9_3, .int z9_4, .int z9_5, .int z9_6, .int z9_7, .int z9_8])), ((X 21), .inr (9, [.ref (X 22), .ref (X 23), .ref (X 24), .ref (X 25), .ref (X 26), .ref (X 27), .int z9_9])), ((X 22), .inl (ty 0, 300, .inl z9_10))]
abbrev r_k_X9_isChoice : Type := Int32
def m_k_X9_isChoice (ch : Int32) (c1 : Nat → Int32) (a1 : Int32) : r_k_X9_isChoice :=
  lE (m_k_X7_ruleAt c1 a1) (fun t_5 =>
    if t_5 < 0 then
      0
    else
      if ((ch >>> (t_5 &&& 31)) &&& 1) = 0 then
        0
      else
        1)
def vs_k_X9_isChoice : List Cond := .code yX9_isChoice cX9_isChoice 3 (some .boolean) :: ([.fieldLink RX9 12 "AnswerFold$Solver" "checks" "LAnswerFold$Rows;", .methodLink RX9 285 yX7_ruleAt, .instanceMethod yX7_ruleAt, .selects RX7 yX7_ruleAt yX7_ruleAt, .initialized RX7, .fieldLink RX9 106 "AnswerFold$Solver" "choices" "I"] ++ (u_ws RX9 TX9 17 ++ (vs_k_X7_ruleAt)))
theorem iv_k_X9_isChoice_X9 : ∀ w ∈ u_ws RX9 TX9 17, w ∈ vs_k_X9_isChoice := (fun _ h => List.mem_cons_of_mem _ (List.mem_append_right _ (List.mem_append_left _ h)))
set_option maxRecDepth 20000 in
theorem gv_k_X9_isChoice_0 : GoodIn vs_k_X9_isChoice (wsV RX9 285 RX7 yX7_ruleAt vs_k_X7_ruleAt) := goodIn_app (goodIn_sub (by decide +kernel) (by decide +kernel)) (goodIn_sub (fun _ h => List.mem_cons_of_mem _ (List.mem_append_right _ (List.mem_append_right _ (h)))) (by decide +kernel))
set_option maxHeartbeats 4000000 in
set_option maxRecDepth 100000 in
theorem k_X9_isChoice (l : Launch) (D : va_G) (ty : Nat → ClassId) (td mi sz : Nat) (X : Nat → Nat) (an : Int32) (ch : Int32) (cg : Int32) (fb : Int32) (mh : Int32) (ml : Int32) (ih : Int32) (lb : Int32) (ic : Int32) (cn : Int32) (c1 : Nat → Int32) (a1 : Int32) (TT : r_k_X9_isChoice) (hTT : TT = m_k_X9_isChoice ch c1 a1) : Met l yX9_isChoice vs_k_X9_isChoice { frames := 1, cells := 0, slots := 0, locals := 21 } (va_Pc [.ref (X 20), .int a1] (wq_P D ty td mi (wW_k_X9_isChoice ty X an ch cg fb mh ml ih lb ic cn c1) sz)) (va_Qi (fun (r : Int32) (u : va_W) => (r = TT ∧ (TT = 0 ∨ TT = 1) ∧ (u = (wW_k_X9_isChoice ty X an ch cg fb mh ml ih lb ic cn c1)))) (wq_B D (va_A (wW_k_X9_isChoice ty X an ch cg fb mh ml ih lb ic cn c1) sz)) (va_A (wW_k_X9_isChoice ty X an ch cg fb mh ml ih lb ic cn c1) sz)) 0 0 (va_A (wW_k_X9_isChoice ty X an ch cg fb mh ml ih lb ic cn c1) sz) := by
  refine Met.ofW (cc := cX9_isChoice) (maxL := 3) (ret := (some .boolean)) (by decide) rfl ?_
  intro p e s m args below meth c s₁ B hml hv
  obtain ⟨rfl, hsz, hP, hK, hD0, hE⟩ := hv
  have hx := B.exec
  have hb := B.bytes
  have hr := B.returns
  have hts := atoms_spec (ws := vs_k_X9_isChoice) B.pre
  have hown : s.vm.findClass RX9 = some m.cls := findClass_of_methodNamed B.named
  have hlocks := B.notSynchronized
  subst hsz
  have hD := hD0.self (sz := s.heap.size)
  generalize hAe : va_A (wW_k_X9_isChoice ty X an ch cg fb mh ml ih lb ic cn c1) s.heap.size = A at hD hE ⊢
  have hA : ∀ q : Nat, s.heap.size ≤ q → A q := fun q h => by rw [← hAe]; exact Or.inr h
  have hS : va_S A s.heap s.heap [] := va_S.rf
  have hP : va_P D vwCl (wW_k_X9_isChoice ty X an ch cg fb mh ml ih lb ic cn c1) s.heap := hP
  have hl := lv_entry ([.ref (X 20), .int a1]) (n := 3) (Nat.le_of_ble_eq_true rfl)
  rw [lg_entry_eq]
  generalize (lg_sl ([.ref (X 20), .int a1]) ++ List.replicate (3 - (lg_sl ([.ref (X 20), .int a1])).length) Slot.unset).toArray = ls at hl ⊢
  have hl : lv_has ls 3 [(0, .ref (X 20)), (1, .int a1)] := hl
  have END : ∀ (r : Int32), TT = r → (r = 0 ∨ r = 1) → ∀ (H : Heap) (locs : List Loc), va_P D vwCl (wW_k_X9_isChoice ty X an ch cg fb mh ml ih lb ic cn c1) H → va_D A (wW_k_X9_isChoice ty X an ch cg fb mh ml ih lb ic cn c1) → va_S A s.heap H locs → ∀ (ls : Array Slot) (pc : Nat), decode cX9_isChoice pc = .ok (.ireturn, 1) → W p l e (headSpec vs_k_X9_isChoice { frames := 1, cells := 0, slots := 0, locals := 21 }).room s m ([.ref (X 20), .int a1] : List Value).toArray below meth c H locs 0 0 (MQ below (va_Qi (fun (r : Int32) (u : va_W) => (r = TT ∧ (TT = 0 ∨ TT = 1) ∧ (u = (wW_k_X9_isChoice ty X an ch cg fb mh ml ih lb ic cn c1)))) (wq_B D A) A) ([.ref (X 20), .int a1] : List Value).toArray s 0 0 A) (F0 m pc ls [.int r]) := by
    intro r hT hb01 H locs hP hD hS ls pc hd
    have hM : TT = r := hT
    exact W.zret (v := r) hx hb hr (wz_nar hb01) (fun t ht hW => ⟨⟨r, (wW_k_X9_isChoice ty X an ch cg fb mh ml ih lb ic cn c1), rfl, ⟨(by rw [hM]), (by rw [hM]; exact hb01), rfl⟩, wq_B.of ht hP hD⟩, hS.F ht⟩) hS.2.2 hd
  have hT := hTT
  rw [m_k_X9_isChoice] at hT
  refine lv_aload_n hx hb dX9_isChoice_0 rfl (lv_at hl 0 rfl) ?_
  refine va_get (D := D) (ci := 11) (v := .ref (X 21)) (C := RX9) (T := TX9) (N := 17) hx hb hts iv_k_X9_isChoice_X9 hown hK hP 0 rfl rfl 2 (by decide) (hts (.fieldLink RX9 12 "AnswerFold$Solver" "checks" "LAnswerFold$Rows;") (by decide +kernel)) (fun _ h9 => h9) rfl dX9_isChoice_1 ?_
  refine lv_iload_n hx hb dX9_isChoice_4 rfl (lv_at hl 1 rfl) ?_
  obtain ⟨t_5, ht_5⟩ : ∃ t, t = m_k_X7_ruleAt c1 a1 := ⟨_, rfl⟩
  rw [lE_eq ht_5] at hT
  refine wq_iW (wc := (wW_k_X7_ruleAt ty (X 21) (X 22) (X 23) (X 24) (X 25) (X 26) (X 27) cn c1)) (va_runV (As := [.int a1]) (rest := []) ⟨hx, hb, hml, hown, hts⟩ (k_X7_ruleAt l D ty td mi s.heap.size (X 21) (X 22) (X 23) (X 24) (X 25) (X 26) (X 27) cn c1 a1 t_5 ht_5) (cwV 1 hts gv_k_X9_isChoice_0 rfl rfl rfl (by decide +kernel) ⟨(Nat.le_of_ble_eq_true rfl), (Nat.le_of_ble_eq_true rfl)⟩) (wm_V (wm_preS hP hD hK hE hS hA [false, true, true] rfl) (va_recv (q0 := 1) (ci := 9) hK hP rfl rfl)) rfl rfl hl.1 rfl (lv_room (Nat.le_of_ble_eq_true rfl)) dX9_isChoice_5 ⟨(Nat.le_of_ble_eq_true rfl), (Nat.le_of_ble_eq_true rfl)⟩) hS hA hP hD [false, true, true] rfl (fun _ _ h => by rcases h with ⟨-, rfl⟩; rfl) (fun r u H locs hw hP hD hS => ?_)
  obtain ⟨hr0, rfl⟩ := hw
  subst r
  have hP : va_P D vwCl (wW_k_X9_isChoice ty X an ch cg fb mh ml ih lb ic cn c1) H := hP
  have hD : va_D A (wW_k_X9_isChoice ty X an ch cg fb mh ml ih lb ic cn c1) := hD
  refine W.widen (k := 0) (n := 0) (Nat.le_of_ble_eq_true rfl) (Nat.le_of_ble_eq_true rfl) ?_
  refine lv_istore_n (lv' := [(2, .int t_5), (0, .ref (X 20)), (1, .int a1)]) hx hb dX9_isChoice_8 rfl hl (by decide) rfl (fun ls hl => ?_)
  refine lv_iload_n hx hb dX9_isChoice_9 rfl (lv_at hl 0 rfl) ?_
  refine lv_if_lt (tgt := 28) hx hb dX9_isChoice_10 (by decide) (fun c_3 => ?_) (fun c_3 => ?_)
  · rw [if_pos c_3] at hT
    refine lv_iconst (v := 0) hx hb dX9_isChoice_28 (by decide) ?_
    exact END 0 hT (by decide) _ _ hP hD hS _ _ dX9_isChoice_29
  · rw [if_neg c_3] at hT
    refine lv_aload_n hx hb dX9_isChoice_13 rfl (lv_at hl 1 rfl) ?_
    refine va_get (D := D) (ci := 11) (v := .int ch) (C := RX9) (T := TX9) (N := 17) hx hb hts iv_k_X9_isChoice_X9 hown hK hP 0 rfl rfl 9 (by decide) (hts (.fieldLink RX9 106 "AnswerFold$Solver" "choices" "I") (by decide +kernel)) (fun _ h9 => h9) rfl dX9_isChoice_14 ?_
    refine lv_iload_n hx hb dX9_isChoice_17 rfl (lv_at hl 0 rfl) ?_
    refine lv_ishr hx hb dX9_isChoice_18 ?_
    refine lv_iconst (v := 1) hx hb dX9_isChoice_19 (by decide) ?_
    refine lv_iand hx hb dX9_isChoice_20 ?_
    refine lv_if_eq (tgt := 28) hx hb dX9_isChoice_21 (by decide) (fun c_4 => ?_) (fun c_4 => ?_)
    · rw [if_pos c_4] at hT
      refine lv_iconst (v := 0) hx hb dX9_isChoice_28 (by decide) ?_
      exact END 0 hT (by decide) _ _ hP hD hS _ _ dX9_isChoice_29
    · rw [if_neg c_4] at hT
      refine lv_iconst (v := 1) hx hb dX9_isChoice_24 (by decide) ?_
      refine lv_goto (tgt := 29) hx hb dX9_isChoice_25 (by decide) ?_
      exact END 1 hT (by decide) _ _ hP hD hS _ _ dX9_isChoice_29
theorem dX9_countsHold_0 : decode cX9_countsHold 0 = .ok (.aload_n 1, 1) := by decide +kernel
theorem dX9_countsHold_1 : decode cX9_countsHold 1 = .ok (.ifnonnull 5, 3) := by decide +kernel
theorem dX9_countsHold_4 : decode cX9_countsHold 4 = .ok (.iconst 0, 1) := by decide +kernel
theorem dX9_countsHold_5 : decode cX9_countsHold 5 = .ok (.ireturn, 1) := by decide +kernel
theorem dX9_countsHold_6 : decode cX9_countsHold 6 = .ok (.iconst 0, 1) := by decide +kernel
theorem dX9_countsHold_7 : decode cX9_countsHold 7 = .ok (.istore_n 3, 1) := by decide +kernel
theorem dX9_countsHold_8 : decode cX9_countsHold 8 = .ok (.iload_n 3, 1) := by decide +kernel
theorem dX9_countsHold_9 : decode cX9_countsHold 9 = .ok (.aload_n 1, 1) := by decide +kernel
theorem dX9_countsHold_10 : decode cX9_countsHold 10 = .ok (.getfield 132, 3) := by decide +kernel
theorem dX9_countsHold_13 : decode cX9_countsHold 13 = .ok (.if_icmp .ge 41, 3) := by decide +kernel
theorem dX9_countsHold_16 : decode cX9_countsHold 16 = .ok (.aload_n 1, 1) := by decide +kernel
theorem dX9_countsHold_17 : decode cX9_countsHold 17 = .ok (.iload_n 3, 1) := by decide +kernel
theorem dX9_countsHold_18 : decode cX9_countsHold 18 = .ok (.invokevirtual 135, 3) := by decide +kernel
theorem dX9_countsHold_21 : decode cX9_countsHold 21 = .ok (.astore 4, 2) := by decide +kernel
theorem dX9_countsHold_23 : decode cX9_countsHold 23 = .ok (.aload 4, 2) := by decide +kernel
theorem dX9_countsHold_25 : decode cX9_countsHold 25 = .ok (.ifnull 23, 3) := by decide +kernel
theorem dX9_countsHold_28 : decode cX9_countsHold 28 = .ok (.aload 4, 2) := by decide +kernel
theorem dX9_countsHold_30 : decode cX9_countsHold 30 = .ok (.invokevirtual 253, 3) := by decide +kernel
theorem dX9_countsHold_33 : decode cX9_countsHold 33 = .ok (.ifCond .eq 15, 3) := by decide +kernel
theorem dX9_countsHold_36 : decode cX9_countsHold 36 = .ok (.aload_n 0, 1) := by decide +kernel
theorem dX9_countsHold_37 : decode cX9_countsHold 37 = .ok (.aload 4, 2) := by decide +kernel
theorem dX9_countsHold_39 : decode cX9_countsHold 39 = .ok (.iload_n 2, 1) := by decide +kernel
theorem dX9_countsHold_40 : decode cX9_countsHold 40 = .ok (.invokevirtual 256, 3) := by decide +kernel
theorem dX9_countsHold_43 : decode cX9_countsHold 43 = .ok (.ifCond .ne 5, 3) := by decide +kernel
theorem dX9_countsHold_46 : decode cX9_countsHold 46 = .ok (.iconst 0, 1) := by decide +kernel
theorem dX9_countsHold_47 : decode cX9_countsHold 47 = .ok (.ireturn, 1) := by decide +kernel
theorem dX9_countsHold_48 : decode cX9_countsHold 48 = .ok (.iinc 3 1, 3) := by decide +kernel
theorem dX9_countsHold_51 : decode cX9_countsHold 51 = .ok (.goto (-43), 3) := by decide +kernel
theorem dX9_countsHold_54 : decode cX9_countsHold 54 = .ok (.iconst 1, 1) := by decide +kernel
theorem dX9_countsHold_55 : decode cX9_countsHold 55 = .ok (.ireturn, 1) := by decide +kernel
def wW_k_X9_countsHold (ty : Nat → ClassId) (X : Nat → Nat) (z9_0 : Int32) (z9_1 : Int32) (z9_2 : Int32) (z9_3 : Int32) (z9_4 : Int32) (z9_5 : Int32) (z9_6 : Int32) (z9_7 : Int32) (z9_8 : Int32) (z9_9 : Nat → Int32) (z9_10 : Nat → Int32) : va_W := [((X 20), .inr (11, [.ref (X 1), .ref (X 8), .ref (X 21), .ref (X 28), .ref (X 35), .int z9_0, .ref (X 36), .ref (X 37), .ref (X 38), .int z9_1, .int z9_2, .int z9_3, .int z9_4, .int z9_5, .int z9_6, .int z9_7, .int z9_8])), ((X 36), .inl (ty 0, 6, .inl z9_9)), ((X 37), .inl (ty 0, 6, .inl z9_10))]
abbrev r_k_X9_countsHold : Type := Int32
def m_k_X9_countsHold_48 (rec_8 : Int32 → r_k_X9_countsHold) (v3_8 : Int32) : r_k_X9_countsHold :=
  rec_8 (v3_8 + 1)
def m_k_X9_countsHold_8s (pp : pT) (obi : Nat → Int32) (sc : Nat → Int32) (a0 : Nat) (a1 : Int32) (rec_8 : Int32 → r_k_X9_countsHold) (v3_8 : Int32) : r_k_X9_countsHold :=
  if (pI pp a0 10) ≤ v3_8 then
    1
  else
    lE (m_k_X8_conditionAt pp a0 v3_8) (fun t_18 =>
      oE (t_18) (
        m_k_X9_countsHold_48 rec_8 v3_8) (fun o_18 =>
        lE (m_k_X4_isCount pp o_18) (fun t_30 =>
          if t_30 = 0 then
            m_k_X9_countsHold_48 rec_8 v3_8
          else
            lE (m_k_X9_countHolds pp obi sc o_18 a1) (fun t_40 =>
              if t_40 = 0 then
                0
              else
                m_k_X9_countsHold_48 rec_8 v3_8))))
def m_k_X9_countsHold_8 (pp : pT) (obi : Nat → Int32) (sc : Nat → Int32) (a0 : Nat) (a1 : Int32) : Nat → Int32 → r_k_X9_countsHold
  | 0, _ => (0)
  | n + 1, v3_8 => m_k_X9_countsHold_8s pp obi sc a0 a1 (fun v3_8 => m_k_X9_countsHold_8 pp obi sc a0 a1 n v3_8) v3_8
theorem m_k_X9_countsHold_8_succ (pp : pT) (obi : Nat → Int32) (sc : Nat → Int32) (a0 : Nat) (a1 : Int32) (n : Nat) (v3_8 : Int32) : m_k_X9_countsHold_8 pp obi sc a0 a1 (n + 1) v3_8 = m_k_X9_countsHold_8s pp obi sc a0 a1 (m_k_X9_countsHold_8 pp obi sc a0 a1 n) v3_8 := rfl
def m_k_X9_countsHold (pp : pT) (obi : Nat → Int32) (sc : Nat → Int32) (a0 : Nat) (a1 : Int32) : r_k_X9_countsHold :=
  m_k_X9_countsHold_8 pp obi sc a0 a1 wF 0
def vs_k_X9_countsHold : List Cond := .code yX9_countsHold cX9_countsHold 5 (some .boolean) :: ([.methodLink RX9 135 yX8_conditionAt, .instanceMethod yX8_conditionAt, .selects RX8 yX8_conditionAt yX8_conditionAt, .initialized RX8, .methodLink RX9 253 yX4_isCount, .instanceMethod yX4_isCount, .selects RX4 yX4_isCount yX4_isCount, .initialized RX4, .methodLink RX9 256 yX9_countHolds, .instanceMethod yX9_countHolds, .selects RX9 yX9_countHolds yX9_countHolds, .initialized RX9] ++ (u_ws RX8 TX8 11 ++ (vs_k_X8_conditionAt ++ (vs_k_X4_isCount ++ (vs_k_X9_countHolds)))))
theorem iv_k_X9_countsHold_X8 : ∀ w ∈ u_ws RX8 TX8 11, w ∈ vs_k_X9_countsHold := (fun _ h => List.mem_cons_of_mem _ (List.mem_append_right _ (List.mem_append_left _ h)))
set_option maxRecDepth 20000 in
theorem gv_k_X9_countsHold_0 : GoodIn vs_k_X9_countsHold (wsV RX9 135 RX8 yX8_conditionAt vs_k_X8_conditionAt) := goodIn_app (goodIn_sub (by decide +kernel) (by decide +kernel)) (goodIn_sub (fun _ h => List.mem_cons_of_mem _ (List.mem_append_right _ (List.mem_append_right _ (List.mem_append_left _ h)))) (by decide +kernel))
set_option maxRecDepth 20000 in
theorem gv_k_X9_countsHold_1 : GoodIn vs_k_X9_countsHold (wsV RX9 253 RX4 yX4_isCount vs_k_X4_isCount) := goodIn_app (goodIn_sub (by decide +kernel) (by decide +kernel)) (goodIn_sub (fun _ h => List.mem_cons_of_mem _ (List.mem_append_right _ (List.mem_append_right _ (List.mem_append_right _ (List.mem_append_left _ h))))) (by decide +kernel))
set_option maxRecDepth 20000 in
theorem gv_k_X9_countsHold_2 : GoodIn vs_k_X9_countsHold (wsV RX9 256 RX9 yX9_countHolds vs_k_X9_countHolds) := goodIn_app (goodIn_sub (by decide +kernel) (by decide +kernel)) (goodIn_sub (fun _ h => List.mem_cons_of_mem _ (List.mem_append_right _ (List.mem_append_right _ (List.mem_append_right _ (List.mem_append_right _ (h)))))) (by decide +kernel))
set_option maxHeartbeats 4000000 in
set_option maxRecDepth 100000 in
theorem k_X9_countsHold (l : Launch) (D : va_G) (ty : Nat → ClassId) (td mi sz : Nat) (pp : pT) (X : Nat → Nat) (an : Int32) (ch : Int32) (cg : Int32) (fb : Int32) (mh : Int32) (ml : Int32) (ih : Int32) (lb : Int32) (ic : Int32) (obi : Nat → Int32) (sc : Nat → Int32) (a0 : Nat) (a1 : Int32) (hok : pOK pp) (hm_a0 : a0 ∈ pRA pp) (TT : r_k_X9_countsHold) (hTT : TT = m_k_X9_countsHold pp obi sc a0 a1) : Met l yX9_countsHold vs_k_X9_countsHold { frames := 2, cells := 0, slots := 0, locals := 44 } (va_Pc [.ref (X 20), .ref a0, .int a1] (wq_P D ty td mi ((wW_k_X9_countsHold ty X an ch cg fb mh ml ih lb ic obi sc) ++ pw ty pp) sz)) (va_Qi (fun (r : Int32) (u : va_W) => (r = TT ∧ (TT = 0 ∨ TT = 1) ∧ (u = ((wW_k_X9_countsHold ty X an ch cg fb mh ml ih lb ic obi sc) ++ pw ty pp)))) (wq_B D (va_A ((wW_k_X9_countsHold ty X an ch cg fb mh ml ih lb ic obi sc) ++ pw ty pp) sz)) (va_A ((wW_k_X9_countsHold ty X an ch cg fb mh ml ih lb ic obi sc) ++ pw ty pp) sz)) 0 0 (va_A ((wW_k_X9_countsHold ty X an ch cg fb mh ml ih lb ic obi sc) ++ pw ty pp) sz) := by
  refine Met.ofW (cc := cX9_countsHold) (maxL := 5) (ret := (some .boolean)) (by decide) rfl ?_
  intro p e s m args below meth c s₁ B hml hv
  obtain ⟨rfl, hsz, hP, hK, hD0, hE⟩ := hv
  have hx := B.exec
  have hb := B.bytes
  have hr := B.returns
  have hts := atoms_spec (ws := vs_k_X9_countsHold) B.pre
  have hown : s.vm.findClass RX9 = some m.cls := findClass_of_methodNamed B.named
  have hlocks := B.notSynchronized
  subst hsz
  have hD := hD0.self (sz := s.heap.size)
  generalize hAe : va_A ((wW_k_X9_countsHold ty X an ch cg fb mh ml ih lb ic obi sc) ++ pw ty pp) s.heap.size = A at hD hE ⊢
  have hA : ∀ q : Nat, s.heap.size ≤ q → A q := fun q h => by rw [← hAe]; exact Or.inr h
  have hS : va_S A s.heap s.heap [] := va_S.rf
  have hP : va_P D vwCl ((wW_k_X9_countsHold ty X an ch cg fb mh ml ih lb ic obi sc) ++ pw ty pp) s.heap := hP
  have hl := lv_entry ([.ref (X 20), .ref a0, .int a1]) (n := 5) (Nat.le_of_ble_eq_true rfl)
  rw [lg_entry_eq]
  generalize (lg_sl ([.ref (X 20), .ref a0, .int a1]) ++ List.replicate (5 - (lg_sl ([.ref (X 20), .ref a0, .int a1])).length) Slot.unset).toArray = ls at hl ⊢
  have hl : lv_has ls 5 [(0, .ref (X 20)), (1, .ref a0), (2, .int a1)] := hl
  have END : ∀ (r : Int32), TT = r → (r = 0 ∨ r = 1) → ∀ (H : Heap) (locs : List Loc), va_P D vwCl ((wW_k_X9_countsHold ty X an ch cg fb mh ml ih lb ic obi sc) ++ pw ty pp) H → va_D A ((wW_k_X9_countsHold ty X an ch cg fb mh ml ih lb ic obi sc) ++ pw ty pp) → va_S A s.heap H locs → ∀ (ls : Array Slot) (pc : Nat), decode cX9_countsHold pc = .ok (.ireturn, 1) → W p l e (headSpec vs_k_X9_countsHold { frames := 2, cells := 0, slots := 0, locals := 44 }).room s m ([.ref (X 20), .ref a0, .int a1] : List Value).toArray below meth c H locs 0 0 (MQ below (va_Qi (fun (r : Int32) (u : va_W) => (r = TT ∧ (TT = 0 ∨ TT = 1) ∧ (u = ((wW_k_X9_countsHold ty X an ch cg fb mh ml ih lb ic obi sc) ++ pw ty pp)))) (wq_B D A) A) ([.ref (X 20), .ref a0, .int a1] : List Value).toArray s 0 0 A) (F0 m pc ls [.int r]) := by
    intro r hT hb01 H locs hP hD hS ls pc hd
    have hM : TT = r := hT
    exact W.zret (v := r) hx hb hr (wz_nar hb01) (fun t ht hW => ⟨⟨r, ((wW_k_X9_countsHold ty X an ch cg fb mh ml ih lb ic obi sc) ++ pw ty pp), rfl, ⟨(by rw [hM]), (by rw [hM]; exact hb01), rfl⟩, wq_B.of ht hP hD⟩, hS.F ht⟩) hS.2.2 hd
  have hT := hTT
  rw [m_k_X9_countsHold] at hT
  refine lv_aload_n hx hb dX9_countsHold_0 rfl (lv_at hl 1 rfl) ?_
  refine lv_ifnonnull (tgt := 6) hx hb dX9_countsHold_1 (by decide) ?_
  refine lv_iconst (v := 0) hx hb dX9_countsHold_6 (by decide) ?_
  refine lv_istore_n (lv' := [(3, .int 0), (0, .ref (X 20)), (1, .ref a0), (2, .int a1)]) hx hb dX9_countsHold_7 rfl hl (by decide) rfl (fun ls hl => ?_)
  have L_8 : ∀ (n_8 : Nat) (v3_8 : Int32), (2147483648 - v3_8.toInt).toNat < n_8 → TT = m_k_X9_countsHold_8 pp obi sc a0 a1 n_8 v3_8 → 0 ≤ v3_8.toInt → ∀ (H : Heap) (locs : List Loc), va_P D vwCl ((wW_k_X9_countsHold ty X an ch cg fb mh ml ih lb ic obi sc) ++ pw ty pp) H → va_D A ((wW_k_X9_countsHold ty X an ch cg fb mh ml ih lb ic obi sc) ++ pw ty pp) → va_S A s.heap H locs → ∀ ls : Array Slot, lv_has ls 5 [(0, .ref (X 20)), (1, .ref a0), (2, .int a1), (3, .int v3_8)] → W p l e (headSpec vs_k_X9_countsHold { frames := 2, cells := 0, slots := 0, locals := 44 }).room s m ([.ref (X 20), .ref a0, .int a1] : List Value).toArray below meth c H locs 0 0 (MQ below (va_Qi (fun (r : Int32) (u : va_W) => (r = TT ∧ (TT = 0 ∨ TT = 1) ∧ (u = ((wW_k_X9_countsHold ty X an ch cg fb mh ml ih lb ic obi sc) ++ pw ty pp)))) (wq_B D A) A) ([.ref (X 20), .ref a0, .int a1] : List Value).toArray s 0 0 A) (F0 m 8 ls []) := by
    intro n_8
    induction n_8 with
    | zero => intro v3_8 hu; exact absurd hu (Nat.not_lt_zero _)
    | succ n_8 ih_8 =>
      intro v3_8 hu_8 hT hn_8 H locs hP hD hS ls hl
      rw [m_k_X9_countsHold_8_succ, m_k_X9_countsHold_8s] at hT
      refine lv_iload_n hx hb dX9_countsHold_8 rfl (lv_at hl 3 rfl) ?_
      refine lv_aload_n hx hb dX9_countsHold_9 rfl (lv_at hl 1 rfl) ?_
      obtain ⟨k_1, hk_1⟩ := List.getElem?_of_mem (pw_rule (ty := ty) (p := pp) (L := [((X 20), .inr (11, [.ref (X 1), .ref (X 8), .ref (X 21), .ref (X 28), .ref (X 35), .int an, .ref (X 36), .ref (X 37), .ref (X 38), .int ch, .int cg, .int fb, .int mh, .int ml, .int ih, .int lb, .int ic])), ((X 36), .inl (ty 0, 6, .inl obi)), ((X 37), .inl (ty 0, 6, .inl sc))]) hm_a0)
      refine va_getN (D := D) (ci := 10) (v := .int (pI pp a0 10)) (C := RX8) (T := TX8) (N := 11) hx hb hts iv_k_X9_countsHold_X8 hown hK hP k_1 hk_1 rfl 10 (by decide) (hE.at (.fieldLinkNest "AnswerFold$Solver" 132 "AnswerFold$Rule" "conditionCount" "I" "AnswerFold") (by decide +kernel)) (fun _ h9 => h9) rfl dX9_countsHold_10 ?_
      refine lv_icmp_ge (tgt := 54) hx hb dX9_countsHold_13 (by decide) (fun c_2 => ?_) (fun c_2 => ?_)
      · rw [if_pos c_2] at hT
        refine lv_iconst (v := 1) hx hb dX9_countsHold_54 (by decide) ?_
        exact END 1 hT (by decide) _ _ hP hD hS _ _ dX9_countsHold_55
      · rw [if_neg c_2] at hT
        refine lv_aload_n hx hb dX9_countsHold_16 rfl (lv_at hl 1 rfl) ?_
        refine lv_iload_n hx hb dX9_countsHold_17 rfl (lv_at hl 3 rfl) ?_
        obtain ⟨t_18, ht_18⟩ : ∃ t, t = m_k_X8_conditionAt pp a0 v3_8 := ⟨_, rfl⟩
        rw [lE_eq ht_18] at hT
        obtain ⟨k_3, hk_3⟩ := List.getElem?_of_mem (pw_rule (ty := ty) (p := pp) (L := [((X 20), .inr (11, [.ref (X 1), .ref (X 8), .ref (X 21), .ref (X 28), .ref (X 35), .int an, .ref (X 36), .ref (X 37), .ref (X 38), .int ch, .int cg, .int fb, .int mh, .int ml, .int ih, .int lb, .int ic])), ((X 36), .inl (ty 0, 6, .inl obi)), ((X 37), .inl (ty 0, 6, .inl sc))]) hm_a0)
        refine wq_rPW (wc := []) (pl := pw ty pp) (ux := []) (va_runV (As := [.int v3_8]) (rest := []) ⟨hx, hb, hml, hown, hts⟩ (k_X8_conditionAt l D ty td mi H.size pp a0 v3_8 hok hm_a0 t_18 ht_18) (cwV 1 hts gv_k_X9_countsHold_0 rfl rfl rfl (by decide +kernel) ⟨(Nat.le_of_ble_eq_true rfl), (Nat.le_of_ble_eq_true rfl)⟩) (wm_V (wm_preSP hP hD hK hE hS hA [] rfl) (va_recv (q0 := k_3) (ci := 10) hK hP rfl hk_3)) rfl rfl hl.1 rfl (lv_room (Nat.le_of_ble_eq_true rfl)) dX9_countsHold_18 ⟨(Nat.le_of_ble_eq_true rfl), (Nat.le_of_ble_eq_true rfl)⟩) hS hA hP hD [] rfl rfl (fun _ _ h => h.2) (fun r H locs hw hP hD hS => ?_)
        obtain ⟨rfl, -⟩ := hw
        have hP : va_P D vwCl ((wW_k_X9_countsHold ty X an ch cg fb mh ml ih lb ic obi sc) ++ pw ty pp) H := hP
        have hD : va_D A ((wW_k_X9_countsHold ty X an ch cg fb mh ml ih lb ic obi sc) ++ pw ty pp) := hD
        refine W.widen (k := 0) (n := 0) (Nat.le_of_ble_eq_true rfl) (Nat.le_of_ble_eq_true rfl) ?_
        rcases ho_18 : t_18 with _ | o_18
        · rw [ho_18, oE_none] at hT
          refine W.eq (g2 := F0 m 21 ls [.null]) rfl ?_
          refine lv_astoreN (lv' := [(4, .null), (0, .ref (X 20)), (1, .ref a0), (2, .int a1), (3, .int v3_8)]) hx hb dX9_countsHold_21 hl (by decide) rfl (fun ls hl => ?_)
          refine lv_aloadN hx hb dX9_countsHold_23 (lv_at hl 0 rfl) ?_
          have J_48 : ∀ (_ : Unit), TT = m_k_X9_countsHold_48 (m_k_X9_countsHold_8 pp obi sc a0 a1 n_8) v3_8 → ∀ (H : Heap) (locs : List Loc), va_P D vwCl ((wW_k_X9_countsHold ty X an ch cg fb mh ml ih lb ic obi sc) ++ pw ty pp) H → va_D A ((wW_k_X9_countsHold ty X an ch cg fb mh ml ih lb ic obi sc) ++ pw ty pp) → va_S A s.heap H locs → ∀ ls : Array Slot, lv_has ls 5 [(0, .ref (X 20)), (1, .ref a0), (2, .int a1), (3, .int v3_8)] → W p l e (headSpec vs_k_X9_countsHold { frames := 2, cells := 0, slots := 0, locals := 44 }).room s m ([.ref (X 20), .ref a0, .int a1] : List Value).toArray below meth c H locs 0 0 (MQ below (va_Qi (fun (r : Int32) (u : va_W) => (r = TT ∧ (TT = 0 ∨ TT = 1) ∧ (u = ((wW_k_X9_countsHold ty X an ch cg fb mh ml ih lb ic obi sc) ++ pw ty pp)))) (wq_B D A) A) ([.ref (X 20), .ref a0, .int a1] : List Value).toArray s 0 0 A) (F0 m 48 ls []) := by
            intro _ hT  H locs hP hD hS ls hl
            rw [m_k_X9_countsHold_48] at hT
            refine lv_iinc (v := v3_8 + 1) (lv' := [(3, .int (v3_8 + 1)), (0, .ref (X 20)), (1, .ref a0), (2, .int a1)]) hx hb dX9_countsHold_48 hl (k := 3) rfl (by rfl) (by decide) rfl (fun ls hl => ?_)
            refine lv_goto (tgt := 8) hx hb dX9_countsHold_51 (by decide) ?_
            exact ih_8 (v3_8 + 1) (wi_up hu_8 (Int32.not_le.mp c_2)) hT (wi_inc hn_8 (Int32.not_le.mp c_2)) _ _ hP hD hS _ (lv_sub hl [1, 2, 3, 0] rfl)
          refine lv_ifnullN (tgt := 48) hx hb dX9_countsHold_25 (by decide) ?_
          exact J_48 () hT _ _ hP hD hS _ (lv_sub hl [1, 2, 3, 4] rfl)
        · rw [ho_18, oE_some] at hT
          refine W.eq (g2 := F0 m 21 ls [.ref o_18]) rfl ?_
          refine lv_astore (lv' := [(4, .ref o_18), (0, .ref (X 20)), (1, .ref a0), (2, .int a1), (3, .int v3_8)]) hx hb dX9_countsHold_21 hl (by decide) rfl (fun ls hl => ?_)
          refine lv_aload hx hb dX9_countsHold_23 (lv_at hl 0 rfl) ?_
          have J_48 : ∀ (_ : Unit), TT = m_k_X9_countsHold_48 (m_k_X9_countsHold_8 pp obi sc a0 a1 n_8) v3_8 → ∀ (H : Heap) (locs : List Loc), va_P D vwCl ((wW_k_X9_countsHold ty X an ch cg fb mh ml ih lb ic obi sc) ++ pw ty pp) H → va_D A ((wW_k_X9_countsHold ty X an ch cg fb mh ml ih lb ic obi sc) ++ pw ty pp) → va_S A s.heap H locs → ∀ ls : Array Slot, lv_has ls 5 [(0, .ref (X 20)), (1, .ref a0), (2, .int a1), (3, .int v3_8)] → W p l e (headSpec vs_k_X9_countsHold { frames := 2, cells := 0, slots := 0, locals := 44 }).room s m ([.ref (X 20), .ref a0, .int a1] : List Value).toArray below meth c H locs 0 0 (MQ below (va_Qi (fun (r : Int32) (u : va_W) => (r = TT ∧ (TT = 0 ∨ TT = 1) ∧ (u = ((wW_k_X9_countsHold ty X an ch cg fb mh ml ih lb ic obi sc) ++ pw ty pp)))) (wq_B D A) A) ([.ref (X 20), .ref a0, .int a1] : List Value).toArray s 0 0 A) (F0 m 48 ls []) := by
            intro _ hT  H locs hP hD hS ls hl
            rw [m_k_X9_countsHold_48] at hT
            refine lv_iinc (v := v3_8 + 1) (lv' := [(3, .int (v3_8 + 1)), (0, .ref (X 20)), (1, .ref a0), (2, .int a1)]) hx hb dX9_countsHold_48 hl (k := 3) rfl (by rfl) (by decide) rfl (fun ls hl => ?_)
            refine lv_goto (tgt := 8) hx hb dX9_countsHold_51 (by decide) ?_
            exact ih_8 (v3_8 + 1) (wi_up hu_8 (Int32.not_le.mp c_2)) hT (wi_inc hn_8 (Int32.not_le.mp c_2)) _ _ hP hD hS _ (lv_sub hl [1, 2, 3, 0] rfl)
          refine lv_ifnull hx hb dX9_countsHold_25 ?_
          refine lv_aload hx hb dX9_countsHold_28 (lv_at hl 0 rfl) ?_
          obtain ⟨t_30, ht_30⟩ : ∃ t, t = m_k_X4_isCount pp o_18 := ⟨_, rfl⟩
          rw [lE_eq ht_30] at hT
          obtain ⟨k_6, hk_6⟩ := List.getElem?_of_mem (pw_lit (ty := ty) (p := pp) (L := [((X 20), .inr (11, [.ref (X 1), .ref (X 8), .ref (X 21), .ref (X 28), .ref (X 35), .int an, .ref (X 36), .ref (X 37), .ref (X 38), .int ch, .int cg, .int fb, .int mh, .int ml, .int ih, .int lb, .int ic])), ((X 36), .inl (ty 0, 6, .inl obi)), ((X 37), .inl (ty 0, 6, .inl sc))]) (mm_k_X8_conditionAt pp a0 v3_8 hok hm_a0 _ (by rw [← ht_18]; exact ho_18)))
          refine wq_iPW (wc := []) (pl := pw ty pp) (ux := []) (va_runV (As := []) (rest := []) ⟨hx, hb, hml, hown, hts⟩ (k_X4_isCount l D ty td mi H.size pp o_18 hok (mm_k_X8_conditionAt pp a0 v3_8 hok hm_a0 _ (by rw [← ht_18]; exact ho_18)) t_30 ht_30) (cwV 0 hts gv_k_X9_countsHold_1 rfl rfl rfl (by decide +kernel) ⟨(Nat.le_of_ble_eq_true rfl), (Nat.le_of_ble_eq_true rfl)⟩) (wm_V (wm_preSP hP hD hK hE hS hA [] rfl) (va_recv (q0 := k_6) (ci := 6) hK hP rfl hk_6)) rfl rfl hl.1 rfl (lv_room (Nat.le_of_ble_eq_true rfl)) dX9_countsHold_30 ⟨(Nat.le_of_ble_eq_true rfl), (Nat.le_of_ble_eq_true rfl)⟩) hS hA hP hD [] rfl rfl (fun _ _ h => h.2.2) (fun r H locs hw hP hD hS => ?_)
          obtain ⟨hr0, c_9, -⟩ := hw
          subst r
          have hP : va_P D vwCl ((wW_k_X9_countsHold ty X an ch cg fb mh ml ih lb ic obi sc) ++ pw ty pp) H := hP
          have hD : va_D A ((wW_k_X9_countsHold ty X an ch cg fb mh ml ih lb ic obi sc) ++ pw ty pp) := hD
          refine W.widen (k := 0) (n := 0) (Nat.le_of_ble_eq_true rfl) (Nat.le_of_ble_eq_true rfl) ?_
          refine lv_if_eq (tgt := 48) hx hb dX9_countsHold_33 (by decide) (fun c_10 => ?_) (fun c_10 => ?_)
          · rw [if_pos c_10] at hT
            exact J_48 () hT _ _ hP hD hS _ (lv_sub hl [1, 2, 3, 4] rfl)
          · rw [if_neg c_10] at hT
            refine lv_aload_n hx hb dX9_countsHold_36 rfl (lv_at hl 1 rfl) ?_
            refine lv_aload hx hb dX9_countsHold_37 (lv_at hl 0 rfl) ?_
            refine lv_iload_n hx hb dX9_countsHold_39 rfl (lv_at hl 3 rfl) ?_
            obtain ⟨t_40, ht_40⟩ : ∃ t, t = m_k_X9_countHolds pp obi sc o_18 a1 := ⟨_, rfl⟩
            rw [lE_eq ht_40] at hT
            refine wq_iPW (wc := (wW_k_X9_countHolds ty X an ch cg fb mh ml ih lb ic obi sc)) (pl := pw ty pp) (ux := (wW_k_X9_countHolds ty X an ch cg fb mh ml ih lb ic obi sc)) (va_runV (As := [.ref o_18, .int a1]) (rest := []) ⟨hx, hb, hml, hown, hts⟩ (k_X9_countHolds l D ty td mi H.size pp X an ch cg fb mh ml ih lb ic obi sc o_18 a1 hok (mm_k_X8_conditionAt pp a0 v3_8 hok hm_a0 _ (by rw [← ht_18]; exact ho_18)) t_40 ht_40) (cwV 2 hts gv_k_X9_countsHold_2 rfl rfl rfl (by decide +kernel) ⟨(Nat.le_of_ble_eq_true rfl), (Nat.le_of_ble_eq_true rfl)⟩) (wm_V (wm_preSP hP hD hK hE hS hA [true, true, true] rfl) (va_recv (q0 := 0) (ci := 11) hK hP rfl rfl)) rfl rfl hl.1 rfl (lv_room (Nat.le_of_ble_eq_true rfl)) dX9_countsHold_40 ⟨(Nat.le_of_ble_eq_true rfl), (Nat.le_of_ble_eq_true rfl)⟩) hS hA hP hD [true, true, true] rfl rfl (fun _ _ h => h.2.2) (fun r H locs hw hP hD hS => ?_)
            obtain ⟨hr0, c_13, -⟩ := hw
            subst r
            have hP : va_P D vwCl ((wW_k_X9_countsHold ty X an ch cg fb mh ml ih lb ic obi sc) ++ pw ty pp) H := hP
            have hD : va_D A ((wW_k_X9_countsHold ty X an ch cg fb mh ml ih lb ic obi sc) ++ pw ty pp) := hD
            refine W.widen (k := 0) (n := 0) (Nat.le_of_ble_eq_true rfl) (Nat.le_of_ble_eq_true rfl) ?_
            refine lv_if_ne (tgt := 48) hx hb dX9_countsHold_43 (by decide) (fun c_14 => ?_) (fun c_14 => ?_)
            · rw [if_neg c_14] at hT
              exact J_48 () hT _ _ hP hD hS _ (lv_sub hl [1, 2, 3, 4] rfl)
            · rw [if_pos c_14] at hT
              refine lv_iconst (v := 0) hx hb dX9_countsHold_46 (by decide) ?_
              exact END 0 hT (by decide) _ _ hP hD hS _ _ dX9_countsHold_47
  exact L_8 wF 0 (wF_up 0) hT (by decide) _ _ hP hD hS _ (lv_sub hl [1, 2, 3, 0] rfl)
abbrev r_k_X9_countsHold_z : Type := Int32
def m_k_X9_countsHold_z : r_k_X9_countsHold_z :=
  0
def vs_k_X9_countsHold_z : List Cond := .code yX9_countsHold cX9_countsHold 5 (some .boolean) :: ([])
set_option maxHeartbeats 4000000 in
set_option maxRecDepth 100000 in
theorem k_X9_countsHold_z (l : Launch) (D : va_G) (ty : Nat → ClassId) (td mi sz : Nat) (X : Nat → Nat) (a1 : Int32) (TT : r_k_X9_countsHold_z) (hTT : TT = m_k_X9_countsHold_z) : Met l yX9_countsHold vs_k_X9_countsHold_z { frames := 0, cells := 0, slots := 0, locals := 0 } (va_Pc [.ref (X 20), .null, .int a1] (wq_P D ty td mi [] sz)) (va_Qi (fun (r : Int32) (u : va_W) => (r = TT ∧ (TT = 0 ∨ TT = 1) ∧ (u = []))) (wq_B D (va_A [] sz)) (va_A [] sz)) 0 0 (va_A [] sz) := by
  refine Met.ofW (cc := cX9_countsHold) (maxL := 5) (ret := (some .boolean)) (by decide) rfl ?_
  intro p e s m args below meth c s₁ B hml hv
  obtain ⟨rfl, hsz, hP, hK, hD0, hE⟩ := hv
  have hx := B.exec
  have hb := B.bytes
  have hr := B.returns
  have hts := atoms_spec (ws := vs_k_X9_countsHold_z) B.pre
  have hown : s.vm.findClass RX9 = some m.cls := findClass_of_methodNamed B.named
  have hlocks := B.notSynchronized
  subst hsz
  have hD := hD0.self (sz := s.heap.size)
  generalize hAe : va_A [] s.heap.size = A at hD hE ⊢
  have hA : ∀ q : Nat, s.heap.size ≤ q → A q := fun q h => by rw [← hAe]; exact Or.inr h
  have hS : va_S A s.heap s.heap [] := va_S.rf
  have hP : va_P D vwCl [] s.heap := hP
  have hl := lv_entry ([.ref (X 20), .null, .int a1]) (n := 5) (Nat.le_of_ble_eq_true rfl)
  rw [lg_entry_eq]
  generalize (lg_sl ([.ref (X 20), .null, .int a1]) ++ List.replicate (5 - (lg_sl ([.ref (X 20), .null, .int a1])).length) Slot.unset).toArray = ls at hl ⊢
  have hl : lv_has ls 5 [(0, .ref (X 20)), (1, .null), (2, .int a1)] := hl
  have END : ∀ (r : Int32), TT = r → (r = 0 ∨ r = 1) → ∀ (H : Heap) (locs : List Loc), va_P D vwCl [] H → va_D A [] → va_S A s.heap H locs → ∀ (ls : Array Slot) (pc : Nat), decode cX9_countsHold pc = .ok (.ireturn, 1) → W p l e (headSpec vs_k_X9_countsHold_z { frames := 0, cells := 0, slots := 0, locals := 0 }).room s m ([.ref (X 20), .null, .int a1] : List Value).toArray below meth c H locs 0 0 (MQ below (va_Qi (fun (r : Int32) (u : va_W) => (r = TT ∧ (TT = 0 ∨ TT = 1) ∧ (u = []))) (wq_B D A) A) ([.ref (X 20), .null, .int a1] : List Value).toArray s 0 0 A) (F0 m pc ls [.int r]) := by
    intro r hT hb01 H locs hP hD hS ls pc hd
    have hM : TT = r := hT
    exact W.zret (v := r) hx hb hr (wz_nar hb01) (fun t ht hW => ⟨⟨r, [], rfl, ⟨(by rw [hM]), (by rw [hM]; exact hb01), rfl⟩, wq_B.of ht hP hD⟩, hS.F ht⟩) hS.2.2 hd
  have hT := hTT
  rw [m_k_X9_countsHold_z] at hT
  refine lv_aload_nN hx hb dX9_countsHold_0 rfl (lv_at hl 1 rfl) ?_
  refine lv_ifnonnullN hx hb dX9_countsHold_1 ?_
  refine lv_iconst (v := 0) hx hb dX9_countsHold_4 (by decide) ?_
  exact END 0 hT (by decide) _ _ hP hD hS _ _ dX9_countsHold_5
theorem dX9_countsHeld_0 : decode cX9_countsHeld 0 = .ok (.ldc 248, 2) := by decide +kernel
theorem dX9_countsHeld_2 : decode cX9_countsHeld 2 = .ok (.istore_n 2, 1) := by decide +kernel
theorem dX9_countsHeld_3 : decode cX9_countsHeld 3 = .ok (.iconst 0, 1) := by decide +kernel
theorem dX9_countsHeld_4 : decode cX9_countsHeld 4 = .ok (.istore_n 3, 1) := by decide +kernel
theorem dX9_countsHeld_5 : decode cX9_countsHeld 5 = .ok (.aload_n 0, 1) := by decide +kernel
theorem dX9_countsHeld_6 : decode cX9_countsHeld 6 = .ok (.getfield 109, 3) := by decide +kernel
theorem dX9_countsHeld_9 : decode cX9_countsHeld 9 = .ok (.iload_n 3, 1) := by decide +kernel
theorem dX9_countsHeld_10 : decode cX9_countsHeld 10 = .ok (.ishr, 1) := by decide +kernel
theorem dX9_countsHeld_11 : decode cX9_countsHeld 11 = .ok (.ifCond .eq 50, 3) := by decide +kernel
theorem dX9_countsHeld_14 : decode cX9_countsHeld 14 = .ok (.iload_n 3, 1) := by decide +kernel
theorem dX9_countsHeld_15 : decode cX9_countsHeld 15 = .ok (.bipush 20, 2) := by decide +kernel
theorem dX9_countsHeld_17 : decode cX9_countsHeld 17 = .ok (.if_icmp .ge 44, 3) := by decide +kernel
theorem dX9_countsHeld_20 : decode cX9_countsHeld 20 = .ok (.aload_n 0, 1) := by decide +kernel
theorem dX9_countsHeld_21 : decode cX9_countsHeld 21 = .ok (.getfield 109, 3) := by decide +kernel
theorem dX9_countsHeld_24 : decode cX9_countsHeld 24 = .ok (.iload_n 3, 1) := by decide +kernel
theorem dX9_countsHeld_25 : decode cX9_countsHeld 25 = .ok (.ishr, 1) := by decide +kernel
theorem dX9_countsHeld_26 : decode cX9_countsHeld 26 = .ok (.iconst 1, 1) := by decide +kernel
theorem dX9_countsHeld_27 : decode cX9_countsHeld 27 = .ok (.iand, 1) := by decide +kernel
theorem dX9_countsHeld_28 : decode cX9_countsHeld 28 = .ok (.ifCond .eq 27, 3) := by decide +kernel
theorem dX9_countsHeld_31 : decode cX9_countsHeld 31 = .ok (.aload_n 0, 1) := by decide +kernel
theorem dX9_countsHeld_32 : decode cX9_countsHeld 32 = .ok (.aload_n 0, 1) := by decide +kernel
theorem dX9_countsHeld_33 : decode cX9_countsHeld 33 = .ok (.getfield 34, 3) := by decide +kernel
theorem dX9_countsHeld_36 : decode cX9_countsHeld 36 = .ok (.iload_n 3, 1) := by decide +kernel
theorem dX9_countsHeld_37 : decode cX9_countsHeld 37 = .ok (.invokevirtual 115, 3) := by decide +kernel
theorem dX9_countsHeld_40 : decode cX9_countsHeld 40 = .ok (.iload_n 1, 1) := by decide +kernel
theorem dX9_countsHeld_41 : decode cX9_countsHeld 41 = .ok (.invokevirtual 249, 3) := by decide +kernel
theorem dX9_countsHeld_44 : decode cX9_countsHeld 44 = .ok (.ifCond .ne 11, 3) := by decide +kernel
theorem dX9_countsHeld_47 : decode cX9_countsHeld 47 = .ok (.iload_n 2, 1) := by decide +kernel
theorem dX9_countsHeld_48 : decode cX9_countsHeld 48 = .ok (.iconst 1, 1) := by decide +kernel
theorem dX9_countsHeld_49 : decode cX9_countsHeld 49 = .ok (.iload_n 3, 1) := by decide +kernel
theorem dX9_countsHeld_50 : decode cX9_countsHeld 50 = .ok (.ishl, 1) := by decide +kernel
theorem dX9_countsHeld_51 : decode cX9_countsHeld 51 = .ok (.iconst (-1), 1) := by decide +kernel
theorem dX9_countsHeld_52 : decode cX9_countsHeld 52 = .ok (.ixor, 1) := by decide +kernel
theorem dX9_countsHeld_53 : decode cX9_countsHeld 53 = .ok (.iand, 1) := by decide +kernel
theorem dX9_countsHeld_54 : decode cX9_countsHeld 54 = .ok (.istore_n 2, 1) := by decide +kernel
theorem dX9_countsHeld_55 : decode cX9_countsHeld 55 = .ok (.iinc 3 1, 3) := by decide +kernel
theorem dX9_countsHeld_58 : decode cX9_countsHeld 58 = .ok (.goto (-53), 3) := by decide +kernel
theorem dX9_countsHeld_61 : decode cX9_countsHeld 61 = .ok (.iload_n 2, 1) := by decide +kernel
theorem dX9_countsHeld_62 : decode cX9_countsHeld 62 = .ok (.ireturn, 1) := by decide +kernel
def wW_k_X9_countsHeld (ty : Nat → ClassId) (X : Nat → Nat) (z9_0 : Int32) (z9_1 : Int32) (z9_2 : Int32) (z9_3 : Int32) (z9_4 : Nat → Option Nat) (z9_5 : Int32) (z9_6 : Int32) (z9_7 : Int32) (z9_8 : Int32) (z9_9 : Int32) (z9_10 : Int32) (z9_11 : Int32) (z9_12 : Int32) (z9_13 : Int32) (z9_14 : Nat → Int32) (z9_15 : Nat → Int32) : va_W := [((X 1), .inr (8, [.ref (X 2), .int z9_0, .ref (X 3), .int z9_1, .ref (X 4), .ref (X 5), .int z9_2, .ref (X 6), .ref (X 7), .int z9_3])), ((X 3), .inl (ty 4, 20, .inr (.inr (.inr (.inr z9_4))))), ((X 20), .inr (11, [.ref (X 1), .ref (X 8), .ref (X 21), .ref (X 28), .ref (X 35), .int z9_5, .ref (X 36), .ref (X 37), .ref (X 38), .int z9_6, .int z9_7, .int z9_8, .int z9_9, .int z9_10, .int z9_11, .int z9_12, .int z9_13])), ((X 36), .inl (ty 0, 6, .inl z9_14)), ((X 37), .inl (ty 0, 6, .inl z9_15))]
abbrev r_k_X9_countsHeld : Type := Int32
def m_k_X9_countsHeld_55 (rec_5 : Int32 → Int32 → r_k_X9_countsHeld) (v3_5 : Int32) (v2_55 : Int32) : r_k_X9_countsHeld :=
  rec_5 v2_55 (v3_5 + 1)
def m_k_X9_countsHeld_5s (pp : pT) (rn : Int32) (rf : Nat → Option Nat) (cg : Int32) (obi : Nat → Int32) (sc : Nat → Int32) (a1 : Int32) (rec_5 : Int32 → Int32 → r_k_X9_countsHeld) (v2_5 : Int32) (v3_5 : Int32) : r_k_X9_countsHeld :=
  if (cg >>> (v3_5 &&& 31)) = 0 then
    v2_5
  else
    if 20 ≤ v3_5 then
      v2_5
    else
      if ((cg >>> (v3_5 &&& 31)) &&& 1) = 0 then
        m_k_X9_countsHeld_55 rec_5 v3_5 v2_5
      else
        lE (m_k_X6_ruleAt rn rf v3_5) (fun t_37 =>
          oE (t_37) (
            lE (m_k_X9_countsHold_z) (fun t_41 =>
              if t_41 = 0 then
                m_k_X9_countsHeld_55 rec_5 v3_5 (v2_5 &&& (((1 : Int32) <<< (v3_5 &&& 31)) ^^^ (-1)))
              else
                m_k_X9_countsHeld_55 rec_5 v3_5 v2_5)) (fun o_37 =>
            lE (m_k_X9_countsHold pp obi sc o_37 a1) (fun t_41 =>
              if t_41 = 0 then
                m_k_X9_countsHeld_55 rec_5 v3_5 (v2_5 &&& (((1 : Int32) <<< (v3_5 &&& 31)) ^^^ (-1)))
              else
                m_k_X9_countsHeld_55 rec_5 v3_5 v2_5)))
def m_k_X9_countsHeld_5 (pp : pT) (rn : Int32) (rf : Nat → Option Nat) (cg : Int32) (obi : Nat → Int32) (sc : Nat → Int32) (a1 : Int32) : Nat → Int32 → Int32 → r_k_X9_countsHeld
  | 0, _, _ => (0)
  | n + 1, v2_5, v3_5 => m_k_X9_countsHeld_5s pp rn rf cg obi sc a1 (fun v2_5 v3_5 => m_k_X9_countsHeld_5 pp rn rf cg obi sc a1 n v2_5 v3_5) v2_5 v3_5
theorem m_k_X9_countsHeld_5_succ (pp : pT) (rn : Int32) (rf : Nat → Option Nat) (cg : Int32) (obi : Nat → Int32) (sc : Nat → Int32) (a1 : Int32) (n : Nat) (v2_5 : Int32) (v3_5 : Int32) : m_k_X9_countsHeld_5 pp rn rf cg obi sc a1 (n + 1) v2_5 v3_5 = m_k_X9_countsHeld_5s pp rn rf cg obi sc a1 (m_k_X9_countsHeld_5 pp rn rf cg obi sc a1 n) v2_5 v3_5 := rfl
def m_k_X9_countsHeld (pp : pT) (rn : Int32) (rf : Nat → Option Nat) (cg : Int32) (obi : Nat → Int32) (sc : Nat → Int32) (a1 : Int32) : r_k_X9_countsHeld :=
  m_k_X9_countsHeld_5 pp rn rf cg obi sc a1 wF 1048575 0
def vs_k_X9_countsHeld : List Cond := .code yX9_countsHeld cX9_countsHeld 4 (some .int) :: ([.constant RX9 248 1048575, .fieldLink RX9 109 "AnswerFold$Solver" "counting" "I", .fieldLink RX9 34 "AnswerFold$Solver" "program" "LAnswerFold$Program;", .methodLink RX9 115 yX6_ruleAt, .instanceMethod yX6_ruleAt, .selects RX6 yX6_ruleAt yX6_ruleAt, .initialized RX6, .methodLink RX9 249 yX9_countsHold, .instanceMethod yX9_countsHold, .selects RX9 yX9_countsHold yX9_countsHold, .initialized RX9] ++ (u_ws RX9 TX9 17 ++ (vs_k_X6_ruleAt ++ (vs_k_X9_countsHold_z ++ (vs_k_X9_countsHold)))))
theorem iv_k_X9_countsHeld_X9 : ∀ w ∈ u_ws RX9 TX9 17, w ∈ vs_k_X9_countsHeld := (fun _ h => List.mem_cons_of_mem _ (List.mem_append_right _ (List.mem_append_left _ h)))
set_option maxRecDepth 20000 in
theorem gv_k_X9_countsHeld_0 : GoodIn vs_k_X9_countsHeld (wsV RX9 115 RX6 yX6_ruleAt vs_k_X6_ruleAt) := goodIn_app (goodIn_sub (by decide +kernel) (by decide +kernel)) (goodIn_sub (fun _ h => List.mem_cons_of_mem _ (List.mem_append_right _ (List.mem_append_right _ (List.mem_append_left _ h)))) (by decide +kernel))
set_option maxRecDepth 20000 in
theorem gv_k_X9_countsHeld_1 : GoodIn vs_k_X9_countsHeld (wsV RX9 249 RX9 yX9_countsHold vs_k_X9_countsHold_z) := goodIn_app (goodIn_sub (by decide +kernel) (by decide +kernel)) (goodIn_sub (fun _ h => List.mem_cons_of_mem _ (List.mem_append_right _ (List.mem_append_right _ (List.mem_append_right _ (List.mem_append_left _ h))))) (by decide +kernel))
set_option maxRecDepth 20000 in
theorem gv_k_X9_countsHeld_2 : GoodIn vs_k_X9_countsHeld (wsV RX9 249 RX9 yX9_countsHold vs_k_X9_countsHold) := goodIn_app (goodIn_sub (by decide +kernel) (by decide +kernel)) (goodIn_sub (fun _ h => List.mem_cons_of_mem _ (List.mem_append_right _ (List.mem_append_right _ (List.mem_append_right _ (List.mem_append_right _ (h)))))) (by decide +kernel))
set_option maxHeartbeats 4000000 in
set_option maxRecDepth 100000 in
theorem k_X9_countsHeld (l : Launch) (D : va_G) (ty : Nat → ClassId) (td mi sz : Nat) (pp : pT) (X : Nat → Nat) (pn : Int32) (rn : Int32) (tn : Int32) (en : Int32) (rf : Nat → Option Nat) (an : Int32) (ch : Int32) (cg : Int32) (fb : Int32) (mh : Int32) (ml : Int32) (ih : Int32) (lb : Int32) (ic : Int32) (obi : Nat → Int32) (sc : Nat → Int32) (a1 : Int32) (hok : pOK pp) (hru : ∀ (i a : Nat), rf i = some a → a ∈ pRA pp) (TT : r_k_X9_countsHeld) (hTT : TT = m_k_X9_countsHeld pp rn rf cg obi sc a1) : Met l yX9_countsHeld vs_k_X9_countsHeld { frames := 3, cells := 0, slots := 0, locals := 68 } (va_Pc [.ref (X 20), .int a1] (wq_P D ty td mi ((wW_k_X9_countsHeld ty X pn rn tn en rf an ch cg fb mh ml ih lb ic obi sc) ++ pw ty pp) sz)) (va_Qi (fun (r : Int32) (u : va_W) => (r = TT ∧ (u = ((wW_k_X9_countsHeld ty X pn rn tn en rf an ch cg fb mh ml ih lb ic obi sc) ++ pw ty pp)))) (wq_B D (va_A ((wW_k_X9_countsHeld ty X pn rn tn en rf an ch cg fb mh ml ih lb ic obi sc) ++ pw ty pp) sz)) (va_A ((wW_k_X9_countsHeld ty X pn rn tn en rf an ch cg fb mh ml ih lb ic obi sc) ++ pw ty pp) sz)) 0 0 (va_A ((wW_k_X9_countsHeld ty X pn rn tn en rf an ch cg fb mh ml ih lb ic obi sc) ++ pw ty pp) sz) := by
  refine Met.ofW (cc := cX9_countsHeld) (maxL := 4) (ret := (some .int)) (by decide) rfl ?_
  intro p e s m args below meth c s₁ B hml hv
  obtain ⟨rfl, hsz, hP, hK, hD0, hE⟩ := hv
  have hx := B.exec
  have hb := B.bytes
  have hr := B.returns
  have hts := atoms_spec (ws := vs_k_X9_countsHeld) B.pre
  have hown : s.vm.findClass RX9 = some m.cls := findClass_of_methodNamed B.named
  have hlocks := B.notSynchronized
  subst hsz
  have hD := hD0.self (sz := s.heap.size)
  generalize hAe : va_A ((wW_k_X9_countsHeld ty X pn rn tn en rf an ch cg fb mh ml ih lb ic obi sc) ++ pw ty pp) s.heap.size = A at hD hE ⊢
  have hA : ∀ q : Nat, s.heap.size ≤ q → A q := fun q h => by rw [← hAe]; exact Or.inr h
  have hS : va_S A s.heap s.heap [] := va_S.rf
  have hP : va_P D vwCl ((wW_k_X9_countsHeld ty X pn rn tn en rf an ch cg fb mh ml ih lb ic obi sc) ++ pw ty pp) s.heap := hP
  have hl := lv_entry ([.ref (X 20), .int a1]) (n := 4) (Nat.le_of_ble_eq_true rfl)
  rw [lg_entry_eq]
  generalize (lg_sl ([.ref (X 20), .int a1]) ++ List.replicate (4 - (lg_sl ([.ref (X 20), .int a1])).length) Slot.unset).toArray = ls at hl ⊢
  have hl : lv_has ls 4 [(0, .ref (X 20)), (1, .int a1)] := hl
  have END : ∀ (r : Int32), TT = r → ∀ (H : Heap) (locs : List Loc), va_P D vwCl ((wW_k_X9_countsHeld ty X pn rn tn en rf an ch cg fb mh ml ih lb ic obi sc) ++ pw ty pp) H → va_D A ((wW_k_X9_countsHeld ty X pn rn tn en rf an ch cg fb mh ml ih lb ic obi sc) ++ pw ty pp) → va_S A s.heap H locs → ∀ (ls : Array Slot) (pc : Nat), decode cX9_countsHeld pc = .ok (.ireturn, 1) → W p l e (headSpec vs_k_X9_countsHeld { frames := 3, cells := 0, slots := 0, locals := 68 }).room s m ([.ref (X 20), .int a1] : List Value).toArray below meth c H locs 0 0 (MQ below (va_Qi (fun (r : Int32) (u : va_W) => (r = TT ∧ (u = ((wW_k_X9_countsHeld ty X pn rn tn en rf an ch cg fb mh ml ih lb ic obi sc) ++ pw ty pp)))) (wq_B D A) A) ([.ref (X 20), .int a1] : List Value).toArray s 0 0 A) (F0 m pc ls [.int r]) := by
    intro r hT H locs hP hD hS ls pc hd
    have hM : TT = r := hT
    exact W.iret (v := r) hx hb hr (fun t ht hW => ⟨⟨r, ((wW_k_X9_countsHeld ty X pn rn tn en rf an ch cg fb mh ml ih lb ic obi sc) ++ pw ty pp), rfl, ⟨(by rw [hM]), rfl⟩, wq_B.of ht hP hD⟩, hS.F ht⟩) hS.2.2 hd
  have hT := hTT
  rw [m_k_X9_countsHeld] at hT
  refine lv_ldc (v := 1048575) hx hb hown (hts (.constant RX9 248 1048575) (by decide +kernel)) dX9_countsHeld_0 ?_
  refine lv_istore_n (lv' := [(2, .int 1048575), (0, .ref (X 20)), (1, .int a1)]) hx hb dX9_countsHeld_2 rfl hl (by decide) rfl (fun ls hl => ?_)
  refine lv_iconst (v := 0) hx hb dX9_countsHeld_3 (by decide) ?_
  refine lv_istore_n (lv' := [(3, .int 0), (2, .int 1048575), (0, .ref (X 20)), (1, .int a1)]) hx hb dX9_countsHeld_4 rfl hl (by decide) rfl (fun ls hl => ?_)
  have L_5 : ∀ (n_5 : Nat) (v2_5 : Int32) (v3_5 : Int32), (2147483648 - v3_5.toInt).toNat < n_5 → TT = m_k_X9_countsHeld_5 pp rn rf cg obi sc a1 n_5 v2_5 v3_5 → 0 ≤ v3_5.toInt → ∀ (H : Heap) (locs : List Loc), va_P D vwCl ((wW_k_X9_countsHeld ty X pn rn tn en rf an ch cg fb mh ml ih lb ic obi sc) ++ pw ty pp) H → va_D A ((wW_k_X9_countsHeld ty X pn rn tn en rf an ch cg fb mh ml ih lb ic obi sc) ++ pw ty pp) → va_S A s.heap H locs → ∀ ls : Array Slot, lv_has ls 4 [(0, .ref (X 20)), (1, .int a1), (2, .int v2_5), (3, .int v3_5)] → W p l e (headSpec vs_k_X9_countsHeld { frames := 3, cells := 0, slots := 0, locals := 68 }).room s m ([.ref (X 20), .int a1] : List Value).toArray below meth c H locs 0 0 (MQ below (va_Qi (fun (r : Int32) (u : va_W) => (r = TT ∧ (u = ((wW_k_X9_countsHeld ty X pn rn tn en rf an ch cg fb mh ml ih lb ic obi sc) ++ pw ty pp)))) (wq_B D A) A) ([.ref (X 20), .int a1] : List Value).toArray s 0 0 A) (F0 m 5 ls []) := by
    intro n_5
    induction n_5 with
    | zero => intro v2_5 v3_5 hu; exact absurd hu (Nat.not_lt_zero _)
    | succ n_5 ih_5 =>
      intro v2_5 v3_5 hu_5 hT hn_5 H locs hP hD hS ls hl
      rw [m_k_X9_countsHeld_5_succ, m_k_X9_countsHeld_5s] at hT
      refine lv_aload_n hx hb dX9_countsHeld_5 rfl (lv_at hl 0 rfl) ?_
      refine va_get (D := D) (ci := 11) (v := .int cg) (C := RX9) (T := TX9) (N := 17) hx hb hts iv_k_X9_countsHeld_X9 hown hK hP 2 rfl rfl 10 (by decide) (hts (.fieldLink RX9 109 "AnswerFold$Solver" "counting" "I") (by decide +kernel)) (fun _ h9 => h9) rfl dX9_countsHeld_6 ?_
      refine lv_iload_n hx hb dX9_countsHeld_9 rfl (lv_at hl 3 rfl) ?_
      refine lv_ishr hx hb dX9_countsHeld_10 ?_
      refine lv_if_eq (tgt := 61) hx hb dX9_countsHeld_11 (by decide) (fun c_1 => ?_) (fun c_1 => ?_)
      · rw [if_pos c_1] at hT
        refine lv_iload_n hx hb dX9_countsHeld_61 rfl (lv_at hl 2 rfl) ?_
        exact END v2_5 hT _ _ hP hD hS _ _ dX9_countsHeld_62
      · rw [if_neg c_1] at hT
        refine lv_iload_n hx hb dX9_countsHeld_14 rfl (lv_at hl 3 rfl) ?_
        refine lv_bipush (v := 20) hx hb dX9_countsHeld_15 (by decide) ?_
        refine lv_icmp_ge (tgt := 61) hx hb dX9_countsHeld_17 (by decide) (fun c_2 => ?_) (fun c_2 => ?_)
        · rw [if_pos c_2] at hT
          refine lv_iload_n hx hb dX9_countsHeld_61 rfl (lv_at hl 2 rfl) ?_
          exact END v2_5 hT _ _ hP hD hS _ _ dX9_countsHeld_62
        · rw [if_neg c_2] at hT
          refine lv_aload_n hx hb dX9_countsHeld_20 rfl (lv_at hl 0 rfl) ?_
          refine va_get (D := D) (ci := 11) (v := .int cg) (C := RX9) (T := TX9) (N := 17) hx hb hts iv_k_X9_countsHeld_X9 hown hK hP 2 rfl rfl 10 (by decide) (hts (.fieldLink RX9 109 "AnswerFold$Solver" "counting" "I") (by decide +kernel)) (fun _ h9 => h9) rfl dX9_countsHeld_21 ?_
          refine lv_iload_n hx hb dX9_countsHeld_24 rfl (lv_at hl 3 rfl) ?_
          refine lv_ishr hx hb dX9_countsHeld_25 ?_
          refine lv_iconst (v := 1) hx hb dX9_countsHeld_26 (by decide) ?_
          refine lv_iand hx hb dX9_countsHeld_27 ?_
          have J_55 : ∀ (v2_55 : Int32), TT = m_k_X9_countsHeld_55 (m_k_X9_countsHeld_5 pp rn rf cg obi sc a1 n_5) v3_5 v2_55 → ∀ (H : Heap) (locs : List Loc), va_P D vwCl ((wW_k_X9_countsHeld ty X pn rn tn en rf an ch cg fb mh ml ih lb ic obi sc) ++ pw ty pp) H → va_D A ((wW_k_X9_countsHeld ty X pn rn tn en rf an ch cg fb mh ml ih lb ic obi sc) ++ pw ty pp) → va_S A s.heap H locs → ∀ ls : Array Slot, lv_has ls 4 [(0, .ref (X 20)), (1, .int a1), (2, .int v2_55), (3, .int v3_5)] → W p l e (headSpec vs_k_X9_countsHeld { frames := 3, cells := 0, slots := 0, locals := 68 }).room s m ([.ref (X 20), .int a1] : List Value).toArray below meth c H locs 0 0 (MQ below (va_Qi (fun (r : Int32) (u : va_W) => (r = TT ∧ (u = ((wW_k_X9_countsHeld ty X pn rn tn en rf an ch cg fb mh ml ih lb ic obi sc) ++ pw ty pp)))) (wq_B D A) A) ([.ref (X 20), .int a1] : List Value).toArray s 0 0 A) (F0 m 55 ls []) := by
            intro v2_55 hT  H locs hP hD hS ls hl
            rw [m_k_X9_countsHeld_55] at hT
            refine lv_iinc (v := v3_5 + 1) (lv' := [(3, .int (v3_5 + 1)), (0, .ref (X 20)), (1, .int a1), (2, .int v2_55)]) hx hb dX9_countsHeld_55 hl (k := 3) rfl (by rfl) (by decide) rfl (fun ls hl => ?_)
            refine lv_goto (tgt := 5) hx hb dX9_countsHeld_58 (by decide) ?_
            exact ih_5 v2_55 (v3_5 + 1) (wi_up hu_5 (Int32.not_le.mp c_2)) hT (wi_inc hn_5 (Int32.not_le.mp c_2)) _ _ hP hD hS _ (lv_sub hl [1, 2, 3, 0] rfl)
          refine lv_if_eq (tgt := 55) hx hb dX9_countsHeld_28 (by decide) (fun c_3 => ?_) (fun c_3 => ?_)
          · rw [if_pos c_3] at hT
            exact J_55 v2_5 hT _ _ hP hD hS _ (lv_sub hl [0, 1, 2, 3] rfl)
          · rw [if_neg c_3] at hT
            refine lv_aload_n hx hb dX9_countsHeld_31 rfl (lv_at hl 0 rfl) ?_
            refine lv_aload_n hx hb dX9_countsHeld_32 rfl (lv_at hl 0 rfl) ?_
            refine va_get (D := D) (ci := 11) (v := .ref (X 1)) (C := RX9) (T := TX9) (N := 17) hx hb hts iv_k_X9_countsHeld_X9 hown hK hP 2 rfl rfl 0 (by decide) (hts (.fieldLink RX9 34 "AnswerFold$Solver" "program" "LAnswerFold$Program;") (by decide +kernel)) (fun _ h9 => h9) rfl dX9_countsHeld_33 ?_
            refine lv_iload_n hx hb dX9_countsHeld_36 rfl (lv_at hl 3 rfl) ?_
            obtain ⟨t_37, ht_37⟩ : ∃ t, t = m_k_X6_ruleAt rn rf v3_5 := ⟨_, rfl⟩
            rw [lE_eq ht_37] at hT
            refine wq_rPW (wc := (wW_k_X6_ruleAt ty X pn rn tn en rf)) (pl := pw ty pp) (ux := (wW_k_X6_ruleAt ty X pn rn tn en rf)) (va_runV (As := [.int v3_5]) (rest := [.ref (X 20)]) ⟨hx, hb, hml, hown, hts⟩ (k_X6_ruleAt l D ty td mi H.size pp X pn rn tn en rf v3_5 hok hru t_37 ht_37) (cwV 1 hts gv_k_X9_countsHeld_0 rfl rfl rfl (by decide +kernel) ⟨(Nat.le_of_ble_eq_true rfl), (Nat.le_of_ble_eq_true rfl)⟩) (wm_V (wm_preSP hP hD hK hE hS hA [true, true] rfl) (va_recv (q0 := 0) (ci := 8) hK hP rfl rfl)) rfl rfl hl.1 rfl (lv_room (Nat.le_of_ble_eq_true rfl)) dX9_countsHeld_37 ⟨(Nat.le_of_ble_eq_true rfl), (Nat.le_of_ble_eq_true rfl)⟩) hS hA hP hD [true, true] rfl rfl (fun _ _ h => h.2) (fun r H locs hw hP hD hS => ?_)
            obtain ⟨rfl, -⟩ := hw
            have hP : va_P D vwCl ((wW_k_X9_countsHeld ty X pn rn tn en rf an ch cg fb mh ml ih lb ic obi sc) ++ pw ty pp) H := hP
            have hD : va_D A ((wW_k_X9_countsHeld ty X pn rn tn en rf an ch cg fb mh ml ih lb ic obi sc) ++ pw ty pp) := hD
            refine W.widen (k := 0) (n := 0) (Nat.le_of_ble_eq_true rfl) (Nat.le_of_ble_eq_true rfl) ?_
            rcases ho_37 : t_37 with _ | o_37
            · rw [ho_37, oE_none] at hT
              refine W.eq (g2 := F0 m 40 ls [.null, .ref (X 20)]) rfl ?_
              refine lv_iload_n hx hb dX9_countsHeld_40 rfl (lv_at hl 1 rfl) ?_
              obtain ⟨t_41, ht_41⟩ : ∃ t, t = m_k_X9_countsHold_z := ⟨_, rfl⟩
              rw [lE_eq ht_41] at hT
              refine wq_iQW (wc := []) (pl := pw ty pp) (va_runV (As := [.null, .int a1]) (rest := []) ⟨hx, hb, hml, hown, hts⟩ (k_X9_countsHold_z l D ty td mi H.size X a1 t_41 ht_41) (cwV 2 hts gv_k_X9_countsHeld_1 rfl rfl rfl (by decide +kernel) ⟨(Nat.le_of_ble_eq_true rfl), (Nat.le_of_ble_eq_true rfl)⟩) (wm_V (wm_preS (vP_left hP) (vD_left hD) hK hE hS hA [] rfl) (va_recv (q0 := 2) (ci := 11) hK hP rfl rfl)) rfl rfl hl.1 rfl (lv_room (Nat.le_of_ble_eq_true rfl)) dX9_countsHeld_41 ⟨(Nat.le_of_ble_eq_true rfl), (Nat.le_of_ble_eq_true rfl)⟩) hS hA hP hD [] rfl (fun _ _ h => by rcases h with ⟨-, -, rfl⟩; rfl) (fun r u H locs hw hP hD hS => ?_)
              obtain ⟨hr0, c_8, rfl⟩ := hw
              subst r
              have hP : va_P D vwCl ((wW_k_X9_countsHeld ty X pn rn tn en rf an ch cg fb mh ml ih lb ic obi sc) ++ pw ty pp) H := hP
              have hD : va_D A ((wW_k_X9_countsHeld ty X pn rn tn en rf an ch cg fb mh ml ih lb ic obi sc) ++ pw ty pp) := hD
              refine W.widen (k := 0) (n := 0) (Nat.le_of_ble_eq_true rfl) (Nat.le_of_ble_eq_true rfl) ?_
              refine lv_if_ne (tgt := 55) hx hb dX9_countsHeld_44 (by decide) (fun c_9 => ?_) (fun c_9 => ?_)
              · rw [if_neg c_9] at hT
                exact J_55 v2_5 hT _ _ hP hD hS _ (lv_sub hl [0, 1, 2, 3] rfl)
              · rw [if_pos c_9] at hT
                refine lv_iload_n hx hb dX9_countsHeld_47 rfl (lv_at hl 2 rfl) ?_
                refine lv_iconst (v := 1) hx hb dX9_countsHeld_48 (by decide) ?_
                refine lv_iload_n hx hb dX9_countsHeld_49 rfl (lv_at hl 3 rfl) ?_
                refine lv_ishl hx hb dX9_countsHeld_50 ?_
                refine lv_iconst (v := (-1)) hx hb dX9_countsHeld_51 (by decide) ?_
                refine lv_ixor hx hb dX9_countsHeld_52 ?_
                refine lv_iand hx hb dX9_countsHeld_53 ?_
                refine lv_istore_n (lv' := [(2, .int (v2_5 &&& (((1 : Int32) <<< (v3_5 &&& 31)) ^^^ (-1)))), (0, .ref (X 20)), (1, .int a1), (3, .int v3_5)]) hx hb dX9_countsHeld_54 rfl hl (by decide) rfl (fun ls hl => ?_)
                exact J_55 (v2_5 &&& (((1 : Int32) <<< (v3_5 &&& 31)) ^^^ (-1))) hT _ _ hP hD hS _ (lv_sub hl [1, 2, 0, 3] rfl)
            · rw [ho_37, oE_some] at hT
              refine W.eq (g2 := F0 m 40 ls [.ref o_37, .ref (X 20)]) rfl ?_
              refine lv_iload_n hx hb dX9_countsHeld_40 rfl (lv_at hl 1 rfl) ?_
              obtain ⟨t_41, ht_41⟩ : ∃ t, t = m_k_X9_countsHold pp obi sc o_37 a1 := ⟨_, rfl⟩
              rw [lE_eq ht_41] at hT
              refine wq_iPW (wc := (wW_k_X9_countsHold ty X an ch cg fb mh ml ih lb ic obi sc)) (pl := pw ty pp) (ux := (wW_k_X9_countsHold ty X an ch cg fb mh ml ih lb ic obi sc)) (va_runV (As := [.ref o_37, .int a1]) (rest := []) ⟨hx, hb, hml, hown, hts⟩ (k_X9_countsHold l D ty td mi H.size pp X an ch cg fb mh ml ih lb ic obi sc o_37 a1 hok (mm_k_X6_ruleAt pp rn rf v3_5 hok hru _ (by rw [← ht_37]; exact ho_37)) t_41 ht_41) (cwV 2 hts gv_k_X9_countsHeld_2 rfl rfl rfl (by decide +kernel) ⟨(Nat.le_of_ble_eq_true rfl), (Nat.le_of_ble_eq_true rfl)⟩) (wm_V (wm_preSP hP hD hK hE hS hA [false, false, true, true, true] rfl) (va_recv (q0 := 2) (ci := 11) hK hP rfl rfl)) rfl rfl hl.1 rfl (lv_room (Nat.le_of_ble_eq_true rfl)) dX9_countsHeld_41 ⟨(Nat.le_of_ble_eq_true rfl), (Nat.le_of_ble_eq_true rfl)⟩) hS hA hP hD [false, false, true, true, true] rfl rfl (fun _ _ h => h.2.2) (fun r H locs hw hP hD hS => ?_)
              obtain ⟨hr0, c_12, -⟩ := hw
              subst r
              have hP : va_P D vwCl ((wW_k_X9_countsHeld ty X pn rn tn en rf an ch cg fb mh ml ih lb ic obi sc) ++ pw ty pp) H := hP
              have hD : va_D A ((wW_k_X9_countsHeld ty X pn rn tn en rf an ch cg fb mh ml ih lb ic obi sc) ++ pw ty pp) := hD
              refine W.widen (k := 0) (n := 0) (Nat.le_of_ble_eq_true rfl) (Nat.le_of_ble_eq_true rfl) ?_
              refine lv_if_ne (tgt := 55) hx hb dX9_countsHeld_44 (by decide) (fun c_13 => ?_) (fun c_13 => ?_)
              · rw [if_neg c_13] at hT
                exact J_55 v2_5 hT _ _ hP hD hS _ (lv_sub hl [0, 1, 2, 3] rfl)
              · rw [if_pos c_13] at hT
                refine lv_iload_n hx hb dX9_countsHeld_47 rfl (lv_at hl 2 rfl) ?_
                refine lv_iconst (v := 1) hx hb dX9_countsHeld_48 (by decide) ?_
                refine lv_iload_n hx hb dX9_countsHeld_49 rfl (lv_at hl 3 rfl) ?_
                refine lv_ishl hx hb dX9_countsHeld_50 ?_
                refine lv_iconst (v := (-1)) hx hb dX9_countsHeld_51 (by decide) ?_
                refine lv_ixor hx hb dX9_countsHeld_52 ?_
                refine lv_iand hx hb dX9_countsHeld_53 ?_
                refine lv_istore_n (lv' := [(2, .int (v2_5 &&& (((1 : Int32) <<< (v3_5 &&& 31)) ^^^ (-1)))), (0, .ref (X 20)), (1, .int a1), (3, .int v3_5)]) hx hb dX9_countsHeld_54 rfl hl (by decide) rfl (fun ls hl => ?_)
                exact J_55 (v2_5 &&& (((1 : Int32) <<< (v3_5 &&& 31)) ^^^ (-1))) hT _ _ hP hD hS _ (lv_sub hl [1, 2, 0, 3] rfl)
  exact L_5 wF 1048575 0 (wF_up 0) hT (by decide) _ _ hP hD hS _ (lv_sub hl [2, 3, 1, 0] rfl)
theorem dX9_isModel_0 : decode cX9_isModel 0 = .ok (.aload_n 0, 1) := by decide +kernel
theorem dX9_isModel_1 : decode cX9_isModel 1 = .ok (.iload_n 1, 1) := by decide +kernel
theorem dX9_isModel_2 : decode cX9_isModel 2 = .ok (.invokevirtual 241, 3) := by decide +kernel
theorem dX9_isModel_5 : decode cX9_isModel 5 = .ok (.istore_n 2, 1) := by decide +kernel
theorem dX9_isModel_6 : decode cX9_isModel 6 = .ok (.aload_n 0, 1) := by decide +kernel
theorem dX9_isModel_7 : decode cX9_isModel 7 = .ok (.getfield 103, 3) := by decide +kernel
theorem dX9_isModel_10 : decode cX9_isModel 10 = .ok (.aload_n 0, 1) := by decide +kernel
theorem dX9_isModel_11 : decode cX9_isModel 11 = .ok (.getfield 12, 3) := by decide +kernel
theorem dX9_isModel_14 : decode cX9_isModel 14 = .ok (.getfield 93, 3) := by decide +kernel
theorem dX9_isModel_17 : decode cX9_isModel 17 = .ok (.if_icmp .ge 21, 3) := by decide +kernel
theorem dX9_isModel_20 : decode cX9_isModel 20 = .ok (.aload_n 0, 1) := by decide +kernel
theorem dX9_isModel_21 : decode cX9_isModel 21 = .ok (.getfield 12, 3) := by decide +kernel
theorem dX9_isModel_24 : decode cX9_isModel 24 = .ok (.aload_n 0, 1) := by decide +kernel
theorem dX9_isModel_25 : decode cX9_isModel 25 = .ok (.getfield 103, 3) := by decide +kernel
theorem dX9_isModel_28 : decode cX9_isModel 28 = .ok (.iload_n 1, 1) := by decide +kernel
theorem dX9_isModel_29 : decode cX9_isModel 29 = .ok (.iload_n 2, 1) := by decide +kernel
theorem dX9_isModel_30 : decode cX9_isModel 30 = .ok (.invokevirtual 244, 3) := by decide +kernel
theorem dX9_isModel_33 : decode cX9_isModel 33 = .ok (.ifCond .eq 5, 3) := by decide +kernel
theorem dX9_isModel_36 : decode cX9_isModel 36 = .ok (.iconst 0, 1) := by decide +kernel
theorem dX9_isModel_37 : decode cX9_isModel 37 = .ok (.ireturn, 1) := by decide +kernel
theorem dX9_isModel_38 : decode cX9_isModel 38 = .ok (.iconst 0, 1) := by decide +kernel
theorem dX9_isModel_39 : decode cX9_isModel 39 = .ok (.istore_n 3, 1) := by decide +kernel
theorem dX9_isModel_40 : decode cX9_isModel 40 = .ok (.iload_n 3, 1) := by decide +kernel
theorem dX9_isModel_41 : decode cX9_isModel 41 = .ok (.aload_n 0, 1) := by decide +kernel
theorem dX9_isModel_42 : decode cX9_isModel 42 = .ok (.getfield 12, 3) := by decide +kernel
theorem dX9_isModel_45 : decode cX9_isModel 45 = .ok (.getfield 93, 3) := by decide +kernel
theorem dX9_isModel_48 : decode cX9_isModel 48 = .ok (.if_icmp .ge 29, 3) := by decide +kernel
theorem dX9_isModel_51 : decode cX9_isModel 51 = .ok (.aload_n 0, 1) := by decide +kernel
theorem dX9_isModel_52 : decode cX9_isModel 52 = .ok (.getfield 12, 3) := by decide +kernel
theorem dX9_isModel_55 : decode cX9_isModel 55 = .ok (.iload_n 3, 1) := by decide +kernel
theorem dX9_isModel_56 : decode cX9_isModel 56 = .ok (.iload_n 1, 1) := by decide +kernel
theorem dX9_isModel_57 : decode cX9_isModel 57 = .ok (.iload_n 2, 1) := by decide +kernel
theorem dX9_isModel_58 : decode cX9_isModel 58 = .ok (.invokevirtual 244, 3) := by decide +kernel
theorem dX9_isModel_61 : decode cX9_isModel 61 = .ok (.ifCond .eq 10, 3) := by decide +kernel
theorem dX9_isModel_64 : decode cX9_isModel 64 = .ok (.aload_n 0, 1) := by decide +kernel
theorem dX9_isModel_65 : decode cX9_isModel 65 = .ok (.iload_n 3, 1) := by decide +kernel
theorem dX9_isModel_66 : decode cX9_isModel 66 = .ok (.putfield 103, 3) := by decide +kernel
theorem dX9_isModel_69 : decode cX9_isModel 69 = .ok (.iconst 0, 1) := by decide +kernel
theorem dX9_isModel_70 : decode cX9_isModel 70 = .ok (.ireturn, 1) := by decide +kernel
theorem dX9_isModel_71 : decode cX9_isModel 71 = .ok (.iinc 3 1, 3) := by decide +kernel
theorem dX9_isModel_74 : decode cX9_isModel 74 = .ok (.goto (-34), 3) := by decide +kernel
theorem dX9_isModel_77 : decode cX9_isModel 77 = .ok (.iconst 1, 1) := by decide +kernel
theorem dX9_isModel_78 : decode cX9_isModel 78 = .ok (.ireturn, 1) := by decide +kernel
def wW_k_X9_isModel (ty : Nat → ClassId) (X : Nat → Nat) (z9_0 : Int32) (z9_1 : Int32) (z9_2 : Int32) (z9_3 : Int32) (z9_4 : Nat → Option Nat) (z9_5 : Int32) (z9_6 : Int32) (z9_7 : Int32) (z9_8 : Int32) (z9_9 : Int32) (z9_10 : Int32) (z9_11 : Int32) (z9_12 : Int32) (z9_13 : Int32) (z9_14 : Int32) (z9_15 : Nat → Int32) (z9_16 : Nat → Int32) (z9_17 : Nat → Int32) (z9_18 : Nat → Int32) (z9_19 : Nat → Int32) (z9_20 : Nat → Int32) (z9_21 : Nat → Int32) (z9_22 : Nat → Int32) : va_W := [((X 1), .inr (8, [.ref (X 2), .int z9_0, .ref (X 3), .int z9_1, .ref (X 4), .ref (X 5), .int z9_2, .ref (X 6), .ref (X 7), .int z9_3])), ((X 3), .inl (ty 4, 20, .inr (.inr (.inr (.inr z9_4))))), ((X 20), .inr (11, [.ref (X 1), .ref (X 8), .ref (X 21), .ref (X 28), .ref (X 35), .int z9_5, .ref (X 36), .ref (X 37), .ref (X 38), .int z9_6, .int z9_7, .int z9_8, .int z9_9, .int z9_10, .int z9_11, .int z9_12, .int z9_13])), ((X 21), .inr (9, [.ref (X 22), .ref (X 23), .ref (X 24), .ref (X 25), .ref (X 26), .ref (X 27), .int z9_14])), ((X 22), .inl (ty 0, 300, .inl z9_15)), ((X 23), .inl (ty 0, 300, .inl z9_16)), ((X 24), .inl (ty 0, 300, .inl z9_17)), ((X 25), .inl (ty 0, 300, .inl z9_18)), ((X 26), .inl (ty 0, 300, .inl z9_19)), ((X 27), .inl (ty 0, 300, .inl z9_20)), ((X 36), .inl (ty 0, 6, .inl z9_21)), ((X 37), .inl (ty 0, 6, .inl z9_22))]
abbrev r_k_X9_isModel : Type := Int32 × Int32
def m_k_X9_isModel_40s (lb : Int32) (cn : Int32) (c1 : Nat → Int32) (c2 : Nat → Int32) (c3 : Nat → Int32) (c4 : Nat → Int32) (c5 : Nat → Int32) (c6 : Nat → Int32) (a1 : Int32) (t_2 : r_k_X9_countsHeld) (rec_40 : Int32 → r_k_X9_isModel) (v3_40 : Int32) : r_k_X9_isModel :=
  if cn ≤ v3_40 then
    (1, lb)
  else
    lE (m_k_X7_isBroken c1 c2 c3 c4 c5 c6 v3_40 a1 t_2) (fun t_58 =>
      if t_58 = 0 then
        rec_40 (v3_40 + 1)
      else
        (0, v3_40))
def m_k_X9_isModel_40 (lb : Int32) (cn : Int32) (c1 : Nat → Int32) (c2 : Nat → Int32) (c3 : Nat → Int32) (c4 : Nat → Int32) (c5 : Nat → Int32) (c6 : Nat → Int32) (a1 : Int32) (t_2 : r_k_X9_countsHeld) : Nat → Int32 → r_k_X9_isModel
  | 0, _ => (0, 0)
  | n + 1, v3_40 => m_k_X9_isModel_40s lb cn c1 c2 c3 c4 c5 c6 a1 t_2 (fun v3_40 => m_k_X9_isModel_40 lb cn c1 c2 c3 c4 c5 c6 a1 t_2 n v3_40) v3_40
theorem m_k_X9_isModel_40_succ (lb : Int32) (cn : Int32) (c1 : Nat → Int32) (c2 : Nat → Int32) (c3 : Nat → Int32) (c4 : Nat → Int32) (c5 : Nat → Int32) (c6 : Nat → Int32) (a1 : Int32) (t_2 : r_k_X9_countsHeld) (n : Nat) (v3_40 : Int32) : m_k_X9_isModel_40 lb cn c1 c2 c3 c4 c5 c6 a1 t_2 (n + 1) v3_40 = m_k_X9_isModel_40s lb cn c1 c2 c3 c4 c5 c6 a1 t_2 (m_k_X9_isModel_40 lb cn c1 c2 c3 c4 c5 c6 a1 t_2 n) v3_40 := rfl
def m_k_X9_isModel_38 (lb : Int32) (cn : Int32) (c1 : Nat → Int32) (c2 : Nat → Int32) (c3 : Nat → Int32) (c4 : Nat → Int32) (c5 : Nat → Int32) (c6 : Nat → Int32) (a1 : Int32) (t_2 : r_k_X9_countsHeld) : r_k_X9_isModel :=
  m_k_X9_isModel_40 lb cn c1 c2 c3 c4 c5 c6 a1 t_2 wF 0
def m_k_X9_isModel (pp : pT) (rn : Int32) (rf : Nat → Option Nat) (cg : Int32) (lb : Int32) (cn : Int32) (c1 : Nat → Int32) (c2 : Nat → Int32) (c3 : Nat → Int32) (c4 : Nat → Int32) (c5 : Nat → Int32) (c6 : Nat → Int32) (obi : Nat → Int32) (sc : Nat → Int32) (a1 : Int32) : r_k_X9_isModel :=
  lE (m_k_X9_countsHeld pp rn rf cg obi sc a1) (fun t_2 =>
    if cn ≤ lb then
      m_k_X9_isModel_38 lb cn c1 c2 c3 c4 c5 c6 a1 t_2
    else
      lE (m_k_X7_isBroken c1 c2 c3 c4 c5 c6 lb a1 t_2) (fun t_30 =>
        if t_30 = 0 then
          m_k_X9_isModel_38 lb cn c1 c2 c3 c4 c5 c6 a1 t_2
        else
          (0, lb)))
def vs_k_X9_isModel : List Cond := .code yX9_isModel cX9_isModel 4 (some .boolean) :: ([.methodLink RX9 241 yX9_countsHeld, .instanceMethod yX9_countsHeld, .selects RX9 yX9_countsHeld yX9_countsHeld, .initialized RX9, .fieldLink RX9 103 "AnswerFold$Solver" "lastBroken" "I", .fieldLink RX9 12 "AnswerFold$Solver" "checks" "LAnswerFold$Rows;", .methodLink RX9 244 yX7_isBroken, .instanceMethod yX7_isBroken, .selects RX7 yX7_isBroken yX7_isBroken, .initialized RX7] ++ (vs_k_X9_countsHeld ++ (u_ws RX9 TX9 17 ++ (u_ws RX7 TX7 7 ++ (vs_k_X7_isBroken)))))
theorem iv_k_X9_isModel_X7 : ∀ w ∈ u_ws RX7 TX7 7, w ∈ vs_k_X9_isModel := (fun _ h => List.mem_cons_of_mem _ (List.mem_append_right _ (List.mem_append_right _ (List.mem_append_right _ (List.mem_append_left _ h)))))
theorem iv_k_X9_isModel_X9 : ∀ w ∈ u_ws RX9 TX9 17, w ∈ vs_k_X9_isModel := (fun _ h => List.mem_cons_of_mem _ (List.mem_append_right _ (List.mem_append_right _ (List.mem_append_left _ h))))
set_option maxRecDepth 20000 in
theorem gv_k_X9_isModel_0 : GoodIn vs_k_X9_isModel (wsV RX9 241 RX9 yX9_countsHeld vs_k_X9_countsHeld) := goodIn_app (goodIn_sub (by decide +kernel) (by decide +kernel)) (goodIn_sub (fun _ h => List.mem_cons_of_mem _ (List.mem_append_right _ (List.mem_append_left _ h))) (by decide +kernel))
set_option maxRecDepth 20000 in
theorem gv_k_X9_isModel_1 : GoodIn vs_k_X9_isModel (wsV RX9 244 RX7 yX7_isBroken vs_k_X7_isBroken) := goodIn_app (goodIn_sub (by decide +kernel) (by decide +kernel)) (goodIn_sub (fun _ h => List.mem_cons_of_mem _ (List.mem_append_right _ (List.mem_append_right _ (List.mem_append_right _ (List.mem_append_right _ (h)))))) (by decide +kernel))
set_option maxRecDepth 20000 in
theorem gv_k_X9_isModel_2 : GoodIn vs_k_X9_isModel (wsV RX9 244 RX7 yX7_isBroken vs_k_X7_isBroken) := goodIn_app (goodIn_sub (by decide +kernel) (by decide +kernel)) (goodIn_sub (fun _ h => List.mem_cons_of_mem _ (List.mem_append_right _ (List.mem_append_right _ (List.mem_append_right _ (List.mem_append_right _ (h)))))) (by decide +kernel))
set_option maxHeartbeats 4000000 in
set_option maxRecDepth 100000 in
theorem k_X9_isModel (l : Launch) (D : va_G) (ty : Nat → ClassId) (td mi sz : Nat) (pp : pT) (X : Nat → Nat) (pn : Int32) (rn : Int32) (tn : Int32) (en : Int32) (rf : Nat → Option Nat) (an : Int32) (ch : Int32) (cg : Int32) (fb : Int32) (mh : Int32) (ml : Int32) (ih : Int32) (lb : Int32) (ic : Int32) (cn : Int32) (c1 : Nat → Int32) (c2 : Nat → Int32) (c3 : Nat → Int32) (c4 : Nat → Int32) (c5 : Nat → Int32) (c6 : Nat → Int32) (obi : Nat → Int32) (sc : Nat → Int32) (a1 : Int32) (hok : pOK pp) (hru : ∀ (i a : Nat), rf i = some a → a ∈ pRA pp) (TT : r_k_X9_isModel) (hTT : TT = m_k_X9_isModel pp rn rf cg lb cn c1 c2 c3 c4 c5 c6 obi sc a1) : Met l yX9_isModel vs_k_X9_isModel { frames := 4, cells := 0, slots := 0, locals := 91 } (va_Pc [.ref (X 20), .int a1] (wq_P D ty td mi ((wW_k_X9_isModel ty X pn rn tn en rf an ch cg fb mh ml ih lb ic cn c1 c2 c3 c4 c5 c6 obi sc) ++ pw ty pp) sz)) (va_Qi (fun (r : Int32) (u : va_W) => (r = TT.1 ∧ (TT.1 = 0 ∨ TT.1 = 1) ∧ (u = ((wW_k_X9_isModel ty X pn rn tn en rf an ch cg fb mh ml ih TT.2 ic cn c1 c2 c3 c4 c5 c6 obi sc) ++ pw ty pp)))) (wq_B D (va_A ((wW_k_X9_isModel ty X pn rn tn en rf an ch cg fb mh ml ih lb ic cn c1 c2 c3 c4 c5 c6 obi sc) ++ pw ty pp) sz)) (va_A ((wW_k_X9_isModel ty X pn rn tn en rf an ch cg fb mh ml ih lb ic cn c1 c2 c3 c4 c5 c6 obi sc) ++ pw ty pp) sz)) 0 0 (va_A ((wW_k_X9_isModel ty X pn rn tn en rf an ch cg fb mh ml ih lb ic cn c1 c2 c3 c4 c5 c6 obi sc) ++ pw ty pp) sz) := by
  refine Met.ofW (cc := cX9_isModel) (maxL := 4) (ret := (some .boolean)) (by decide) rfl ?_
  intro p e s m args below meth c s₁ B hml hv
  obtain ⟨rfl, hsz, hP, hK, hD0, hE⟩ := hv
  have hx := B.exec
  have hb := B.bytes
  have hr := B.returns
  have hts := atoms_spec (ws := vs_k_X9_isModel) B.pre
  have hown : s.vm.findClass RX9 = some m.cls := findClass_of_methodNamed B.named
  have hlocks := B.notSynchronized
  subst hsz
  have hD := hD0.self (sz := s.heap.size)
  generalize hAe : va_A ((wW_k_X9_isModel ty X pn rn tn en rf an ch cg fb mh ml ih lb ic cn c1 c2 c3 c4 c5 c6 obi sc) ++ pw ty pp) s.heap.size = A at hD hE ⊢
  have hA : ∀ q : Nat, s.heap.size ≤ q → A q := fun q h => by rw [← hAe]; exact Or.inr h
  have hS : va_S A s.heap s.heap [] := va_S.rf
  have hP : va_P D vwCl ((wW_k_X9_isModel ty X pn rn tn en rf an ch cg fb mh ml ih lb ic cn c1 c2 c3 c4 c5 c6 obi sc) ++ pw ty pp) s.heap := hP
  have hl := lv_entry ([.ref (X 20), .int a1]) (n := 4) (Nat.le_of_ble_eq_true rfl)
  rw [lg_entry_eq]
  generalize (lg_sl ([.ref (X 20), .int a1]) ++ List.replicate (4 - (lg_sl ([.ref (X 20), .int a1])).length) Slot.unset).toArray = ls at hl ⊢
  have hl : lv_has ls 4 [(0, .ref (X 20)), (1, .int a1)] := hl
  have END : ∀ (r : Int32) (e0 : Int32), TT = (r, e0) → (r = 0 ∨ r = 1) → ∀ (H : Heap) (locs : List Loc), va_P D vwCl ((wW_k_X9_isModel ty X pn rn tn en rf an ch cg fb mh ml ih e0 ic cn c1 c2 c3 c4 c5 c6 obi sc) ++ pw ty pp) H → va_D A ((wW_k_X9_isModel ty X pn rn tn en rf an ch cg fb mh ml ih e0 ic cn c1 c2 c3 c4 c5 c6 obi sc) ++ pw ty pp) → va_S A s.heap H locs → ∀ (ls : Array Slot) (pc : Nat), decode cX9_isModel pc = .ok (.ireturn, 1) → W p l e (headSpec vs_k_X9_isModel { frames := 4, cells := 0, slots := 0, locals := 91 }).room s m ([.ref (X 20), .int a1] : List Value).toArray below meth c H locs 0 0 (MQ below (va_Qi (fun (r : Int32) (u : va_W) => (r = TT.1 ∧ (TT.1 = 0 ∨ TT.1 = 1) ∧ (u = ((wW_k_X9_isModel ty X pn rn tn en rf an ch cg fb mh ml ih TT.2 ic cn c1 c2 c3 c4 c5 c6 obi sc) ++ pw ty pp)))) (wq_B D A) A) ([.ref (X 20), .int a1] : List Value).toArray s 0 0 A) (F0 m pc ls [.int r]) := by
    intro r e0 hT hb01 H locs hP hD hS ls pc hd
    have hM : TT = (r, e0) := hT
    exact W.zret (v := r) hx hb hr (wz_nar hb01) (fun t ht hW => ⟨⟨r, ((wW_k_X9_isModel ty X pn rn tn en rf an ch cg fb mh ml ih e0 ic cn c1 c2 c3 c4 c5 c6 obi sc) ++ pw ty pp), rfl, ⟨(by rw [hM]), (by rw [hM]; exact hb01), (by rw [hM])⟩, wq_B.of ht hP hD⟩, hS.F ht⟩) hS.2.2 hd
  have hT := hTT
  rw [m_k_X9_isModel] at hT
  refine lv_aload_n hx hb dX9_isModel_0 rfl (lv_at hl 0 rfl) ?_
  refine lv_iload_n hx hb dX9_isModel_1 rfl (lv_at hl 1 rfl) ?_
  obtain ⟨t_2, ht_2⟩ : ∃ t, t = m_k_X9_countsHeld pp rn rf cg obi sc a1 := ⟨_, rfl⟩
  rw [lE_eq ht_2] at hT
  refine wq_iPW (wc := (wW_k_X9_countsHeld ty X pn rn tn en rf an ch cg fb mh ml ih lb ic obi sc)) (pl := pw ty pp) (ux := (wW_k_X9_countsHeld ty X pn rn tn en rf an ch cg fb mh ml ih lb ic obi sc)) (va_runV (As := [.int a1]) (rest := []) ⟨hx, hb, hml, hown, hts⟩ (k_X9_countsHeld l D ty td mi s.heap.size pp X pn rn tn en rf an ch cg fb mh ml ih lb ic obi sc a1 hok hru t_2 ht_2) (cwV 1 hts gv_k_X9_isModel_0 rfl rfl rfl (by decide +kernel) ⟨(Nat.le_of_ble_eq_true rfl), (Nat.le_of_ble_eq_true rfl)⟩) (wm_V (wm_preSP hP hD hK hE hS hA [true, true, true, false, false, false, false, false, false, false, true, true] rfl) (va_recv (q0 := 2) (ci := 11) hK hP rfl rfl)) rfl rfl hl.1 rfl (lv_room (Nat.le_of_ble_eq_true rfl)) dX9_isModel_2 ⟨(Nat.le_of_ble_eq_true rfl), (Nat.le_of_ble_eq_true rfl)⟩) hS hA hP hD [true, true, true, false, false, false, false, false, false, false, true, true] rfl rfl (fun _ _ h => h.2) (fun r H locs hw hP hD hS => ?_)
  obtain ⟨hr0, -⟩ := hw
  subst r
  have hP : va_P D vwCl ((wW_k_X9_isModel ty X pn rn tn en rf an ch cg fb mh ml ih lb ic cn c1 c2 c3 c4 c5 c6 obi sc) ++ pw ty pp) H := hP
  have hD : va_D A ((wW_k_X9_isModel ty X pn rn tn en rf an ch cg fb mh ml ih lb ic cn c1 c2 c3 c4 c5 c6 obi sc) ++ pw ty pp) := hD
  refine W.widen (k := 0) (n := 0) (Nat.le_of_ble_eq_true rfl) (Nat.le_of_ble_eq_true rfl) ?_
  refine lv_istore_n (lv' := [(2, .int t_2), (0, .ref (X 20)), (1, .int a1)]) hx hb dX9_isModel_5 rfl hl (by decide) rfl (fun ls hl => ?_)
  refine lv_aload_n hx hb dX9_isModel_6 rfl (lv_at hl 1 rfl) ?_
  refine va_get (D := D) (ci := 11) (v := .int lb) (C := RX9) (T := TX9) (N := 17) hx hb hts iv_k_X9_isModel_X9 hown hK hP 2 rfl rfl 15 (by decide) (hts (.fieldLink RX9 103 "AnswerFold$Solver" "lastBroken" "I") (by decide +kernel)) (fun _ h9 => h9) rfl dX9_isModel_7 ?_
  refine lv_aload_n hx hb dX9_isModel_10 rfl (lv_at hl 1 rfl) ?_
  refine va_get (D := D) (ci := 11) (v := .ref (X 21)) (C := RX9) (T := TX9) (N := 17) hx hb hts iv_k_X9_isModel_X9 hown hK hP 2 rfl rfl 2 (by decide) (hts (.fieldLink RX9 12 "AnswerFold$Solver" "checks" "LAnswerFold$Rows;") (by decide +kernel)) (fun _ h9 => h9) rfl dX9_isModel_11 ?_
  refine va_getN (D := D) (ci := 9) (v := .int cn) (C := RX7) (T := TX7) (N := 7) hx hb hts iv_k_X9_isModel_X7 hown hK hP 3 rfl rfl 6 (by decide) (hE.at (.fieldLinkNest "AnswerFold$Solver" 93 "AnswerFold$Rows" "count" "I" "AnswerFold") (by decide +kernel)) (fun _ h9 => h9) rfl dX9_isModel_14 ?_
  have J_38 : ∀ (_ : Unit), TT = m_k_X9_isModel_38 lb cn c1 c2 c3 c4 c5 c6 a1 t_2 → ∀ (H : Heap) (locs : List Loc), va_P D vwCl ((wW_k_X9_isModel ty X pn rn tn en rf an ch cg fb mh ml ih lb ic cn c1 c2 c3 c4 c5 c6 obi sc) ++ pw ty pp) H → va_D A ((wW_k_X9_isModel ty X pn rn tn en rf an ch cg fb mh ml ih lb ic cn c1 c2 c3 c4 c5 c6 obi sc) ++ pw ty pp) → va_S A s.heap H locs → ∀ ls : Array Slot, lv_has ls 4 [(0, .ref (X 20)), (1, .int a1), (2, .int t_2)] → W p l e (headSpec vs_k_X9_isModel { frames := 4, cells := 0, slots := 0, locals := 91 }).room s m ([.ref (X 20), .int a1] : List Value).toArray below meth c H locs 0 0 (MQ below (va_Qi (fun (r : Int32) (u : va_W) => (r = TT.1 ∧ (TT.1 = 0 ∨ TT.1 = 1) ∧ (u = ((wW_k_X9_isModel ty X pn rn tn en rf an ch cg fb mh ml ih TT.2 ic cn c1 c2 c3 c4 c5 c6 obi sc) ++ pw ty pp)))) (wq_B D A) A) ([.ref (X 20), .int a1] : List Value).toArray s 0 0 A) (F0 m 38 ls []) := by
    intro _ hT  H locs hP hD hS ls hl
    rw [m_k_X9_isModel_38] at hT
    refine lv_iconst (v := 0) hx hb dX9_isModel_38 (by decide) ?_
    refine lv_istore_n (lv' := [(3, .int 0), (0, .ref (X 20)), (1, .int a1), (2, .int t_2)]) hx hb dX9_isModel_39 rfl hl (by decide) rfl (fun ls hl => ?_)
    have L_40 : ∀ (n_40 : Nat) (v3_40 : Int32), (2147483648 - v3_40.toInt).toNat < n_40 → TT = m_k_X9_isModel_40 lb cn c1 c2 c3 c4 c5 c6 a1 t_2 n_40 v3_40 → 0 ≤ v3_40.toInt → ∀ (H : Heap) (locs : List Loc), va_P D vwCl ((wW_k_X9_isModel ty X pn rn tn en rf an ch cg fb mh ml ih lb ic cn c1 c2 c3 c4 c5 c6 obi sc) ++ pw ty pp) H → va_D A ((wW_k_X9_isModel ty X pn rn tn en rf an ch cg fb mh ml ih lb ic cn c1 c2 c3 c4 c5 c6 obi sc) ++ pw ty pp) → va_S A s.heap H locs → ∀ ls : Array Slot, lv_has ls 4 [(0, .ref (X 20)), (1, .int a1), (2, .int t_2), (3, .int v3_40)] → W p l e (headSpec vs_k_X9_isModel { frames := 4, cells := 0, slots := 0, locals := 91 }).room s m ([.ref (X 20), .int a1] : List Value).toArray below meth c H locs 0 0 (MQ below (va_Qi (fun (r : Int32) (u : va_W) => (r = TT.1 ∧ (TT.1 = 0 ∨ TT.1 = 1) ∧ (u = ((wW_k_X9_isModel ty X pn rn tn en rf an ch cg fb mh ml ih TT.2 ic cn c1 c2 c3 c4 c5 c6 obi sc) ++ pw ty pp)))) (wq_B D A) A) ([.ref (X 20), .int a1] : List Value).toArray s 0 0 A) (F0 m 40 ls []) := by
      intro n_40
      induction n_40 with
      | zero => intro v3_40 hu; exact absurd hu (Nat.not_lt_zero _)
      | succ n_40 ih_40 =>
        intro v3_40 hu_40 hT hn_40 H locs hP hD hS ls hl
        rw [m_k_X9_isModel_40_succ, m_k_X9_isModel_40s] at hT
        refine lv_iload_n hx hb dX9_isModel_40 rfl (lv_at hl 3 rfl) ?_
        refine lv_aload_n hx hb dX9_isModel_41 rfl (lv_at hl 0 rfl) ?_
        refine va_get (D := D) (ci := 11) (v := .ref (X 21)) (C := RX9) (T := TX9) (N := 17) hx hb hts iv_k_X9_isModel_X9 hown hK hP 2 rfl rfl 2 (by decide) (hts (.fieldLink RX9 12 "AnswerFold$Solver" "checks" "LAnswerFold$Rows;") (by decide +kernel)) (fun _ h9 => h9) rfl dX9_isModel_42 ?_
        refine va_getN (D := D) (ci := 9) (v := .int cn) (C := RX7) (T := TX7) (N := 7) hx hb hts iv_k_X9_isModel_X7 hown hK hP 3 rfl rfl 6 (by decide) (hE.at (.fieldLinkNest "AnswerFold$Solver" 93 "AnswerFold$Rows" "count" "I" "AnswerFold") (by decide +kernel)) (fun _ h9 => h9) rfl dX9_isModel_45 ?_
        refine lv_icmp_ge (tgt := 77) hx hb dX9_isModel_48 (by decide) (fun c_3 => ?_) (fun c_3 => ?_)
        · rw [if_pos c_3] at hT
          refine lv_iconst (v := 1) hx hb dX9_isModel_77 (by decide) ?_
          exact END 1 lb hT (by decide) _ _ hP hD hS _ _ dX9_isModel_78
        · rw [if_neg c_3] at hT
          refine lv_aload_n hx hb dX9_isModel_51 rfl (lv_at hl 0 rfl) ?_
          refine va_get (D := D) (ci := 11) (v := .ref (X 21)) (C := RX9) (T := TX9) (N := 17) hx hb hts iv_k_X9_isModel_X9 hown hK hP 2 rfl rfl 2 (by decide) (hts (.fieldLink RX9 12 "AnswerFold$Solver" "checks" "LAnswerFold$Rows;") (by decide +kernel)) (fun _ h9 => h9) rfl dX9_isModel_52 ?_
          refine lv_iload_n hx hb dX9_isModel_55 rfl (lv_at hl 3 rfl) ?_
          refine lv_iload_n hx hb dX9_isModel_56 rfl (lv_at hl 1 rfl) ?_
          refine lv_iload_n hx hb dX9_isModel_57 rfl (lv_at hl 2 rfl) ?_
          obtain ⟨t_58, ht_58⟩ : ∃ t, t = m_k_X7_isBroken c1 c2 c3 c4 c5 c6 v3_40 a1 t_2 := ⟨_, rfl⟩
          rw [lE_eq ht_58] at hT
          refine wq_iQW (wc := (wW_k_X7_isBroken ty (X 21) (X 22) (X 23) (X 24) (X 25) (X 26) (X 27) cn c1 c2 c3 c4 c5 c6)) (pl := pw ty pp) (va_runV (As := [.int v3_40, .int a1, .int t_2]) (rest := []) ⟨hx, hb, hml, hown, hts⟩ (k_X7_isBroken l D ty td mi H.size (X 21) (X 22) (X 23) (X 24) (X 25) (X 26) (X 27) cn c1 c2 c3 c4 c5 c6 v3_40 a1 t_2 t_58 ht_58) (cwV 3 hts gv_k_X9_isModel_1 rfl rfl rfl (by decide +kernel) ⟨(Nat.le_of_ble_eq_true rfl), (Nat.le_of_ble_eq_true rfl)⟩) (wm_V (wm_preS (vP_left hP) (vD_left hD) hK hE hS hA [false, false, false, true, true, true, true, true, true, true] rfl) (va_recv (q0 := 3) (ci := 9) hK hP rfl rfl)) rfl rfl hl.1 rfl (lv_room (Nat.le_of_ble_eq_true rfl)) dX9_isModel_58 ⟨(Nat.le_of_ble_eq_true rfl), (Nat.le_of_ble_eq_true rfl)⟩) hS hA hP hD [false, false, false, true, true, true, true, true, true, true] rfl (fun _ _ h => by rcases h with ⟨-, -, rfl⟩; rfl) (fun r u H locs hw hP hD hS => ?_)
          obtain ⟨hr0, c_6, rfl⟩ := hw
          subst r
          have hP : va_P D vwCl ((wW_k_X9_isModel ty X pn rn tn en rf an ch cg fb mh ml ih lb ic cn c1 c2 c3 c4 c5 c6 obi sc) ++ pw ty pp) H := hP
          have hD : va_D A ((wW_k_X9_isModel ty X pn rn tn en rf an ch cg fb mh ml ih lb ic cn c1 c2 c3 c4 c5 c6 obi sc) ++ pw ty pp) := hD
          refine W.widen (k := 0) (n := 0) (Nat.le_of_ble_eq_true rfl) (Nat.le_of_ble_eq_true rfl) ?_
          refine lv_if_eq (tgt := 71) hx hb dX9_isModel_61 (by decide) (fun c_7 => ?_) (fun c_7 => ?_)
          · rw [if_pos c_7] at hT
            refine lv_iinc (v := v3_40 + 1) (lv' := [(3, .int (v3_40 + 1)), (0, .ref (X 20)), (1, .int a1), (2, .int t_2)]) hx hb dX9_isModel_71 hl (k := 3) rfl (by rfl) (by decide) rfl (fun ls hl => ?_)
            refine lv_goto (tgt := 40) hx hb dX9_isModel_74 (by decide) ?_
            exact ih_40 (v3_40 + 1) (wi_up hu_40 (Int32.not_le.mp c_3)) hT (wi_inc hn_40 (Int32.not_le.mp c_3)) _ _ hP hD hS _ (lv_sub hl [1, 2, 3, 0] rfl)
          · rw [if_neg c_7] at hT
            refine lv_aload_n hx hb dX9_isModel_64 rfl (lv_at hl 0 rfl) ?_
            refine lv_iload_n hx hb dX9_isModel_65 rfl (lv_at hl 3 rfl) ?_
            refine va_put (D := D) (ci := 11) (v := .int v3_40) (ty := tyX9 15) (C := RX9) (T := TX9) (N := 17) hx hb hts iv_k_X9_isModel_X9 tyX9 tyX9_ok nmX9 hown hK hP hD hS 2 rfl rfl 15 (by decide) (hts (.fieldLink RX9 103 "AnswerFold$Solver" "lastBroken" "I") (by decide +kernel)) (fun _ h9 => h9) rfl (by decide +kernel) rfl rfl (Nat.le_of_ble_eq_true rfl) dX9_isModel_66 (fun H locs hP hD hS => ?_)
            have hP : va_P D vwCl ((wW_k_X9_isModel ty X pn rn tn en rf an ch cg fb mh ml ih v3_40 ic cn c1 c2 c3 c4 c5 c6 obi sc) ++ pw ty pp) H := hP
            have hD : va_D A ((wW_k_X9_isModel ty X pn rn tn en rf an ch cg fb mh ml ih v3_40 ic cn c1 c2 c3 c4 c5 c6 obi sc) ++ pw ty pp) := hD
            refine lv_iconst (v := 0) hx hb dX9_isModel_69 (by decide) ?_
            exact END 0 v3_40 hT (by decide) _ _ hP hD hS _ _ dX9_isModel_70
    exact L_40 wF 0 (wF_up 0) hT (by decide) _ _ hP hD hS _ (lv_sub hl [1, 2, 3, 0] rfl)
  refine lv_icmp_ge (tgt := 38) hx hb dX9_isModel_17 (by decide) (fun c_8 => ?_) (fun c_8 => ?_)
  · rw [if_pos c_8] at hT
    exact J_38 () hT _ _ hP hD hS _ (lv_sub hl [1, 2, 0] rfl)
  · rw [if_neg c_8] at hT
    refine lv_aload_n hx hb dX9_isModel_20 rfl (lv_at hl 1 rfl) ?_
    refine va_get (D := D) (ci := 11) (v := .ref (X 21)) (C := RX9) (T := TX9) (N := 17) hx hb hts iv_k_X9_isModel_X9 hown hK hP 2 rfl rfl 2 (by decide) (hts (.fieldLink RX9 12 "AnswerFold$Solver" "checks" "LAnswerFold$Rows;") (by decide +kernel)) (fun _ h9 => h9) rfl dX9_isModel_21 ?_
    refine lv_aload_n hx hb dX9_isModel_24 rfl (lv_at hl 1 rfl) ?_
    refine va_get (D := D) (ci := 11) (v := .int lb) (C := RX9) (T := TX9) (N := 17) hx hb hts iv_k_X9_isModel_X9 hown hK hP 2 rfl rfl 15 (by decide) (hts (.fieldLink RX9 103 "AnswerFold$Solver" "lastBroken" "I") (by decide +kernel)) (fun _ h9 => h9) rfl dX9_isModel_25 ?_
    refine lv_iload_n hx hb dX9_isModel_28 rfl (lv_at hl 2 rfl) ?_
    refine lv_iload_n hx hb dX9_isModel_29 rfl (lv_at hl 0 rfl) ?_
    obtain ⟨t_30, ht_30⟩ : ∃ t, t = m_k_X7_isBroken c1 c2 c3 c4 c5 c6 lb a1 t_2 := ⟨_, rfl⟩
    rw [lE_eq ht_30] at hT
    refine wq_iQW (wc := (wW_k_X7_isBroken ty (X 21) (X 22) (X 23) (X 24) (X 25) (X 26) (X 27) cn c1 c2 c3 c4 c5 c6)) (pl := pw ty pp) (va_runV (As := [.int lb, .int a1, .int t_2]) (rest := []) ⟨hx, hb, hml, hown, hts⟩ (k_X7_isBroken l D ty td mi H.size (X 21) (X 22) (X 23) (X 24) (X 25) (X 26) (X 27) cn c1 c2 c3 c4 c5 c6 lb a1 t_2 t_30 ht_30) (cwV 3 hts gv_k_X9_isModel_2 rfl rfl rfl (by decide +kernel) ⟨(Nat.le_of_ble_eq_true rfl), (Nat.le_of_ble_eq_true rfl)⟩) (wm_V (wm_preS (vP_left hP) (vD_left hD) hK hE hS hA [false, false, false, true, true, true, true, true, true, true] rfl) (va_recv (q0 := 3) (ci := 9) hK hP rfl rfl)) rfl rfl hl.1 rfl (lv_room (Nat.le_of_ble_eq_true rfl)) dX9_isModel_30 ⟨(Nat.le_of_ble_eq_true rfl), (Nat.le_of_ble_eq_true rfl)⟩) hS hA hP hD [false, false, false, true, true, true, true, true, true, true] rfl (fun _ _ h => by rcases h with ⟨-, -, rfl⟩; rfl) (fun r u H locs hw hP hD hS => ?_)
    obtain ⟨hr0, c_11, rfl⟩ := hw
    subst r
    have hP : va_P D vwCl ((wW_k_X9_isModel ty X pn rn tn en rf an ch cg fb mh ml ih lb ic cn c1 c2 c3 c4 c5 c6 obi sc) ++ pw ty pp) H := hP
    have hD : va_D A ((wW_k_X9_isModel ty X pn rn tn en rf an ch cg fb mh ml ih lb ic cn c1 c2 c3 c4 c5 c6 obi sc) ++ pw ty pp) := hD
    refine W.widen (k := 0) (n := 0) (Nat.le_of_ble_eq_true rfl) (Nat.le_of_ble_eq_true rfl) ?_
    refine lv_if_eq (tgt := 38) hx hb dX9_isModel_33 (by decide) (fun c_12 => ?_) (fun c_12 => ?_)
    · rw [if_pos c_12] at hT
      exact J_38 () hT _ _ hP hD hS _ (lv_sub hl [1, 2, 0] rfl)
    · rw [if_neg c_12] at hT
      refine lv_iconst (v := 0) hx hb dX9_isModel_36 (by decide) ?_
      exact END 0 lb hT (by decide) _ _ hP hD hS _ _ dX9_isModel_37
theorem dX9_listActive_0 : decode cX9_listActive 0 = .ok (.aload_n 0, 1) := by decide +kernel
theorem dX9_listActive_1 : decode cX9_listActive 1 = .ok (.iload_n 1, 1) := by decide +kernel
theorem dX9_listActive_2 : decode cX9_listActive 2 = .ok (.invokevirtual 241, 3) := by decide +kernel
theorem dX9_listActive_5 : decode cX9_listActive 5 = .ok (.istore_n 2, 1) := by decide +kernel
theorem dX9_listActive_6 : decode cX9_listActive 6 = .ok (.aload_n 0, 1) := by decide +kernel
theorem dX9_listActive_7 : decode cX9_listActive 7 = .ok (.iconst 0, 1) := by decide +kernel
theorem dX9_listActive_8 : decode cX9_listActive 8 = .ok (.putfield 276, 3) := by decide +kernel
theorem dX9_listActive_11 : decode cX9_listActive 11 = .ok (.iconst 0, 1) := by decide +kernel
theorem dX9_listActive_12 : decode cX9_listActive 12 = .ok (.istore_n 3, 1) := by decide +kernel
theorem dX9_listActive_13 : decode cX9_listActive 13 = .ok (.iload_n 3, 1) := by decide +kernel
theorem dX9_listActive_14 : decode cX9_listActive 14 = .ok (.aload_n 0, 1) := by decide +kernel
theorem dX9_listActive_15 : decode cX9_listActive 15 = .ok (.getfield 12, 3) := by decide +kernel
theorem dX9_listActive_18 : decode cX9_listActive 18 = .ok (.getfield 93, 3) := by decide +kernel
theorem dX9_listActive_21 : decode cX9_listActive 21 = .ok (.if_icmp .ge 77, 3) := by decide +kernel
theorem dX9_listActive_24 : decode cX9_listActive 24 = .ok (.aload_n 0, 1) := by decide +kernel
theorem dX9_listActive_25 : decode cX9_listActive 25 = .ok (.getfield 12, 3) := by decide +kernel
theorem dX9_listActive_28 : decode cX9_listActive 28 = .ok (.iload_n 3, 1) := by decide +kernel
theorem dX9_listActive_29 : decode cX9_listActive 29 = .ok (.invokevirtual 279, 3) := by decide +kernel
theorem dX9_listActive_32 : decode cX9_listActive 32 = .ok (.iload_n 1, 1) := by decide +kernel
theorem dX9_listActive_33 : decode cX9_listActive 33 = .ok (.iand, 1) := by decide +kernel
theorem dX9_listActive_34 : decode cX9_listActive 34 = .ok (.ifCond .eq 7, 3) := by decide +kernel
theorem dX9_listActive_37 : decode cX9_listActive 37 = .ok (.iconst 1, 1) := by decide +kernel
theorem dX9_listActive_38 : decode cX9_listActive 38 = .ok (.goto 4, 3) := by decide +kernel
theorem dX9_listActive_41 : decode cX9_listActive 41 = .ok (.iconst 0, 1) := by decide +kernel
theorem dX9_listActive_42 : decode cX9_listActive 42 = .ok (.istore 4, 2) := by decide +kernel
theorem dX9_listActive_44 : decode cX9_listActive 44 = .ok (.iload 4, 2) := by decide +kernel
theorem dX9_listActive_46 : decode cX9_listActive 46 = .ok (.ifCond .eq 46, 3) := by decide +kernel
theorem dX9_listActive_49 : decode cX9_listActive 49 = .ok (.aload_n 0, 1) := by decide +kernel
theorem dX9_listActive_50 : decode cX9_listActive 50 = .ok (.getfield 12, 3) := by decide +kernel
theorem dX9_listActive_53 : decode cX9_listActive 53 = .ok (.iload_n 3, 1) := by decide +kernel
theorem dX9_listActive_54 : decode cX9_listActive 54 = .ok (.iload_n 1, 1) := by decide +kernel
theorem dX9_listActive_55 : decode cX9_listActive 55 = .ok (.iload_n 2, 1) := by decide +kernel
theorem dX9_listActive_56 : decode cX9_listActive 56 = .ok (.invokevirtual 282, 3) := by decide +kernel
theorem dX9_listActive_59 : decode cX9_listActive 59 = .ok (.ifCond .eq 33, 3) := by decide +kernel
theorem dX9_listActive_62 : decode cX9_listActive 62 = .ok (.aload_n 0, 1) := by decide +kernel
theorem dX9_listActive_63 : decode cX9_listActive 63 = .ok (.getfield 276, 3) := by decide +kernel
theorem dX9_listActive_66 : decode cX9_listActive 66 = .ok (.sipush 300, 3) := by decide +kernel
theorem dX9_listActive_69 : decode cX9_listActive 69 = .ok (.if_icmp .ge 23, 3) := by decide +kernel
theorem dX9_listActive_72 : decode cX9_listActive 72 = .ok (.aload_n 0, 1) := by decide +kernel
theorem dX9_listActive_73 : decode cX9_listActive 73 = .ok (.getfield 21, 3) := by decide +kernel
theorem dX9_listActive_76 : decode cX9_listActive 76 = .ok (.aload_n 0, 1) := by decide +kernel
theorem dX9_listActive_77 : decode cX9_listActive 77 = .ok (.getfield 276, 3) := by decide +kernel
theorem dX9_listActive_80 : decode cX9_listActive 80 = .ok (.iload_n 3, 1) := by decide +kernel
theorem dX9_listActive_81 : decode cX9_listActive 81 = .ok (.iastore, 1) := by decide +kernel
theorem dX9_listActive_82 : decode cX9_listActive 82 = .ok (.aload_n 0, 1) := by decide +kernel
theorem dX9_listActive_83 : decode cX9_listActive 83 = .ok (.dup, 1) := by decide +kernel
theorem dX9_listActive_84 : decode cX9_listActive 84 = .ok (.getfield 276, 3) := by decide +kernel
theorem dX9_listActive_87 : decode cX9_listActive 87 = .ok (.iconst 1, 1) := by decide +kernel
theorem dX9_listActive_88 : decode cX9_listActive 88 = .ok (.iadd, 1) := by decide +kernel
theorem dX9_listActive_89 : decode cX9_listActive 89 = .ok (.putfield 276, 3) := by decide +kernel
theorem dX9_listActive_92 : decode cX9_listActive 92 = .ok (.iinc 3 1, 3) := by decide +kernel
theorem dX9_listActive_95 : decode cX9_listActive 95 = .ok (.goto (-82), 3) := by decide +kernel
theorem dX9_listActive_98 : decode cX9_listActive 98 = .ok (.return_, 1) := by decide +kernel
def wW_k_X9_listActive (ty : Nat → ClassId) (X : Nat → Nat) (z9_0 : Int32) (z9_1 : Int32) (z9_2 : Int32) (z9_3 : Int32) (z9_4 : Nat → Option Nat) (z9_5 : Int32) (z9_6 : Int32) (z9_7 : Int32) (z9_8 : Int32) (z9_9 : Int32) (z9_10 : Int32) (z9_11 : Int32) (z9_12 : Int32) (z9_13 : Int32) (z9_14 : Int32) (z9_15 : Nat → Int32) (z9_16 : Nat → Int32) (z9_17 : Nat → Int32) (z9_18 : Nat → Int32) (z9_19 : Nat → Int32) (z9_20 : Nat → Int32) (z9_21 : Nat → Int32) : va_W := [((X 1), .inr (8, [.ref (X 2), .int z9_0, .ref (X 3), .int z9_1, .ref (X 4), .ref (X 5), .int z9_2, .ref (X 6), .ref (X 7), .int z9_3])), ((X 3), .inl (ty 4, 20, .inr (.inr (.inr (.inr z9_4))))), ((X 20), .inr (11, [.ref (X 1), .ref (X 8), .ref (X 21), .ref (X 28), .ref (X 35), .int z9_5, .ref (X 36), .ref (X 37), .ref (X 38), .int z9_6, .int z9_7, .int z9_8, .int z9_9, .int z9_10, .int z9_11, .int z9_12, .int z9_13])), ((X 21), .inr (9, [.ref (X 22), .ref (X 23), .ref (X 24), .ref (X 25), .ref (X 26), .ref (X 27), .int z9_14])), ((X 22), .inl (ty 0, 300, .inl z9_15)), ((X 23), .inl (ty 0, 300, .inl z9_16)), ((X 24), .inl (ty 0, 300, .inl z9_17)), ((X 25), .inl (ty 0, 300, .inl z9_18)), ((X 35), .inl (ty 0, 300, .inl z9_19)), ((X 36), .inl (ty 0, 6, .inl z9_20)), ((X 37), .inl (ty 0, 6, .inl z9_21))]
abbrev r_k_X9_listActive : Type := Int32 × (Nat → Int32)
def m_k_X9_listActive_92 (rec_13 : Int32 → Int32 → (Nat → Int32) → r_k_X9_listActive) (v3_13 : Int32) (x20_5_92 : Int32) (x35_f_92 : Nat → Int32) : r_k_X9_listActive :=
  rec_13 (v3_13 + 1) x20_5_92 x35_f_92
def m_k_X9_listActive_42 (c1 : Nat → Int32) (c2 : Nat → Int32) (c3 : Nat → Int32) (a1 : Int32) (rec_13 : Int32 → Int32 → (Nat → Int32) → r_k_X9_listActive) (t_2 : r_k_X9_countsHeld) (v3_13 : Int32) (x20_5_13 : Int32) (x35_f_13 : Nat → Int32) (s0_42 : Int32) : r_k_X9_listActive :=
  if s0_42 = 0 then
    m_k_X9_listActive_92 rec_13 v3_13 x20_5_13 x35_f_13
  else
    lE (m_k_X7_bodyHolds c1 c2 c3 v3_13 a1 t_2) (fun t_56 =>
      if t_56 = 0 then
        m_k_X9_listActive_92 rec_13 v3_13 x20_5_13 x35_f_13
      else
        if 300 ≤ x20_5_13 then
          m_k_X9_listActive_92 rec_13 v3_13 x20_5_13 x35_f_13
        else
          m_k_X9_listActive_92 rec_13 v3_13 (x20_5_13 + 1) (upd x35_f_13 x20_5_13.toNatClampNeg v3_13))
def m_k_X9_listActive_13s (cn : Int32) (c1 : Nat → Int32) (c2 : Nat → Int32) (c3 : Nat → Int32) (c4 : Nat → Int32) (a1 : Int32) (t_2 : r_k_X9_countsHeld) (rec_13 : Int32 → Int32 → (Nat → Int32) → r_k_X9_listActive) (v3_13 : Int32) (x20_5_13 : Int32) (x35_f_13 : Nat → Int32) : r_k_X9_listActive :=
  if cn ≤ v3_13 then
    (x20_5_13, x35_f_13)
  else
    lE (m_k_X7_headsAt c4 v3_13) (fun t_29 =>
      if (t_29 &&& a1) = 0 then
        m_k_X9_listActive_42 c1 c2 c3 a1 rec_13 t_2 v3_13 x20_5_13 x35_f_13 0
      else
        m_k_X9_listActive_42 c1 c2 c3 a1 rec_13 t_2 v3_13 x20_5_13 x35_f_13 1)
def m_k_X9_listActive_13 (cn : Int32) (c1 : Nat → Int32) (c2 : Nat → Int32) (c3 : Nat → Int32) (c4 : Nat → Int32) (a1 : Int32) (t_2 : r_k_X9_countsHeld) : Nat → Int32 → Int32 → (Nat → Int32) → r_k_X9_listActive
  | 0, _, _, _ => (0, (fun _ => 0))
  | n + 1, v3_13, x20_5_13, x35_f_13 => m_k_X9_listActive_13s cn c1 c2 c3 c4 a1 t_2 (fun v3_13 x20_5_13 x35_f_13 => m_k_X9_listActive_13 cn c1 c2 c3 c4 a1 t_2 n v3_13 x20_5_13 x35_f_13) v3_13 x20_5_13 x35_f_13
theorem m_k_X9_listActive_13_succ (cn : Int32) (c1 : Nat → Int32) (c2 : Nat → Int32) (c3 : Nat → Int32) (c4 : Nat → Int32) (a1 : Int32) (t_2 : r_k_X9_countsHeld) (n : Nat) (v3_13 : Int32) (x20_5_13 : Int32) (x35_f_13 : Nat → Int32) : m_k_X9_listActive_13 cn c1 c2 c3 c4 a1 t_2 (n + 1) v3_13 x20_5_13 x35_f_13 = m_k_X9_listActive_13s cn c1 c2 c3 c4 a1 t_2 (m_k_X9_listActive_13 cn c1 c2 c3 c4 a1 t_2 n) v3_13 x20_5_13 x35_f_13 := rfl
def m_k_X9_listActive (pp : pT) (rn : Int32) (rf : Nat → Option Nat) (cg : Int32) (cn : Int32) (c1 : Nat → Int32) (c2 : Nat → Int32) (c3 : Nat → Int32) (c4 : Nat → Int32) (ac : Nat → Int32) (obi : Nat → Int32) (sc : Nat → Int32) (a1 : Int32) : r_k_X9_listActive :=
  lE (m_k_X9_countsHeld pp rn rf cg obi sc a1) (fun t_2 =>
    m_k_X9_listActive_13 cn c1 c2 c3 c4 a1 t_2 wF 0 0 ac)
def vs_k_X9_listActive : List Cond := .code yX9_listActive cX9_listActive 5 none :: ([.methodLink RX9 241 yX9_countsHeld, .instanceMethod yX9_countsHeld, .selects RX9 yX9_countsHeld yX9_countsHeld, .initialized RX9, .fieldLink RX9 276 "AnswerFold$Solver" "activeCount" "I", .fieldLink RX9 12 "AnswerFold$Solver" "checks" "LAnswerFold$Rows;", .methodLink RX9 279 yX7_headsAt, .instanceMethod yX7_headsAt, .selects RX7 yX7_headsAt yX7_headsAt, .initialized RX7, .methodLink RX9 282 yX7_bodyHolds, .instanceMethod yX7_bodyHolds, .selects RX7 yX7_bodyHolds yX7_bodyHolds, .fieldLink RX9 21 "AnswerFold$Solver" "active" "[I"] ++ (vs_k_X9_countsHeld ++ (u_ws RX9 TX9 17 ++ (u_ws RX7 TX7 7 ++ (vs_k_X7_headsAt ++ (vs_k_X7_bodyHolds))))))
theorem iv_k_X9_listActive_X7 : ∀ w ∈ u_ws RX7 TX7 7, w ∈ vs_k_X9_listActive := (fun _ h => List.mem_cons_of_mem _ (List.mem_append_right _ (List.mem_append_right _ (List.mem_append_right _ (List.mem_append_left _ h)))))
theorem iv_k_X9_listActive_X9 : ∀ w ∈ u_ws RX9 TX9 17, w ∈ vs_k_X9_listActive := (fun _ h => List.mem_cons_of_mem _ (List.mem_append_right _ (List.mem_append_right _ (List.mem_append_left _ h))))
set_option maxRecDepth 20000 in
theorem gv_k_X9_listActive_0 : GoodIn vs_k_X9_listActive (wsV RX9 241 RX9 yX9_countsHeld vs_k_X9_countsHeld) := goodIn_app (goodIn_sub (by decide +kernel) (by decide +kernel)) (goodIn_sub (fun _ h => List.mem_cons_of_mem _ (List.mem_append_right _ (List.mem_append_left _ h))) (by decide +kernel))
set_option maxRecDepth 20000 in
theorem gv_k_X9_listActive_1 : GoodIn vs_k_X9_listActive (wsV RX9 279 RX7 yX7_headsAt vs_k_X7_headsAt) := goodIn_app (goodIn_sub (by decide +kernel) (by decide +kernel)) (goodIn_sub (fun _ h => List.mem_cons_of_mem _ (List.mem_append_right _ (List.mem_append_right _ (List.mem_append_right _ (List.mem_append_right _ (List.mem_append_left _ h)))))) (by decide +kernel))
set_option maxRecDepth 20000 in
theorem gv_k_X9_listActive_2 : GoodIn vs_k_X9_listActive (wsV RX9 282 RX7 yX7_bodyHolds vs_k_X7_bodyHolds) := goodIn_app (goodIn_sub (by decide +kernel) (by decide +kernel)) (goodIn_sub (fun _ h => List.mem_cons_of_mem _ (List.mem_append_right _ (List.mem_append_right _ (List.mem_append_right _ (List.mem_append_right _ (List.mem_append_right _ (h))))))) (by decide +kernel))
theorem om_k_X9_listActive_0 (x20_5_92 : Int32) (v3_13 : Int32) (x20_5_13 : Int32) (cn : Int32) (hn_13 : 0 ≤ v3_13.toInt) (hw0_13 : 0 ≤ (x20_5_13 : Int32).toInt) (c_3 : ¬ (cn ≤ v3_13)) (hw0_42 : 0 ≤ (x20_5_13 : Int32).toInt) (hw0_92 : 0 ≤ (x20_5_92 : Int32).toInt) : 0 ≤ (x20_5_92 : Int32).toInt := by
  have f_0 := hn_13
  have f_1 := hw0_13
  have f_2 := Int32.lt_iff_toInt_lt.mp (Int32.not_le.mp c_3)
  have f_3 := hw0_42
  have f_4 := hw0_92
  have r_x20_5_92 := wi_rng x20_5_92
  omega
theorem om_k_X9_listActive_1 (x20_5_13 : Int32) (v3_13 : Int32) (cn : Int32) (s0_42 : Int32) (hn_13 : 0 ≤ v3_13.toInt) (hw0_13 : 0 ≤ (x20_5_13 : Int32).toInt) (c_3 : ¬ (cn ≤ v3_13)) (hw0_42 : 0 ≤ (x20_5_13 : Int32).toInt) (c_6 : s0_42 = 0) : 0 ≤ (x20_5_13 : Int32).toInt := by
  have f_0 := hn_13
  have f_1 := hw0_13
  have f_2 := Int32.lt_iff_toInt_lt.mp (Int32.not_le.mp c_3)
  have f_3 := hw0_42
  have f_4 := congrArg Int32.toInt c_6
  have nl_0 : (0 : Int32).toInt = 0 := rfl
  have r_x20_5_13 := wi_rng x20_5_13
  omega
theorem om_k_X9_listActive_2 (x20_5_13 : Int32) (v3_13 : Int32) (cn : Int32) (s0_42 : Int32) (t_56 : r_k_X7_bodyHolds) (hn_13 : 0 ≤ v3_13.toInt) (hw0_13 : 0 ≤ (x20_5_13 : Int32).toInt) (c_3 : ¬ (cn ≤ v3_13)) (hw0_42 : 0 ≤ (x20_5_13 : Int32).toInt) (c_6 : ¬ (s0_42 = 0)) (c_10 : t_56 = 0) : 0 ≤ (x20_5_13 : Int32).toInt := by
  have f_0 := hn_13
  have f_1 := hw0_13
  have f_2 := Int32.lt_iff_toInt_lt.mp (Int32.not_le.mp c_3)
  have f_3 := hw0_42
  have f_4 : ¬ (s0_42 : Int32).toInt = (0 : Int32).toInt := fun h => c_6 (Int32.toInt_inj.mp h)
  have f_5 := congrArg Int32.toInt c_10
  have nl_0 : (0 : Int32).toInt = 0 := rfl
  have r_x20_5_13 := wi_rng x20_5_13
  omega
theorem om_k_X9_listActive_3 (x20_5_13 : Int32) (v3_13 : Int32) (cn : Int32) (s0_42 : Int32) (t_56 : r_k_X7_bodyHolds) (hn_13 : 0 ≤ v3_13.toInt) (hw0_13 : 0 ≤ (x20_5_13 : Int32).toInt) (c_3 : ¬ (cn ≤ v3_13)) (hw0_42 : 0 ≤ (x20_5_13 : Int32).toInt) (c_6 : ¬ (s0_42 = 0)) (c_10 : ¬ (t_56 = 0)) (c_11 : 300 ≤ x20_5_13) : 0 ≤ (x20_5_13 : Int32).toInt := by
  have f_0 := hn_13
  have f_1 := hw0_13
  have f_2 := Int32.lt_iff_toInt_lt.mp (Int32.not_le.mp c_3)
  have f_3 := hw0_42
  have f_4 : ¬ (s0_42 : Int32).toInt = (0 : Int32).toInt := fun h => c_6 (Int32.toInt_inj.mp h)
  have f_5 : ¬ (t_56 : Int32).toInt = (0 : Int32).toInt := fun h => c_10 (Int32.toInt_inj.mp h)
  have f_6 := Int32.le_iff_toInt_le.mp (c_11)
  have nl_0 : (0 : Int32).toInt = 0 := rfl
  have nl_300 : (300 : Int32).toInt = 300 := rfl
  have r_x20_5_13 := wi_rng x20_5_13
  omega
theorem om_k_X9_listActive_4 (x20_5_13 : Int32) (v3_13 : Int32) (cn : Int32) (s0_42 : Int32) (t_56 : r_k_X7_bodyHolds) (hn_13 : 0 ≤ v3_13.toInt) (hw0_13 : 0 ≤ (x20_5_13 : Int32).toInt) (c_3 : ¬ (cn ≤ v3_13)) (hw0_42 : 0 ≤ (x20_5_13 : Int32).toInt) (c_6 : ¬ (s0_42 = 0)) (c_10 : ¬ (t_56 = 0)) (c_11 : ¬ (300 ≤ x20_5_13)) : vp_in (x20_5_13) 300 := by
  have f_0 := hn_13
  have f_1 := hw0_13
  have f_2 := Int32.lt_iff_toInt_lt.mp (Int32.not_le.mp c_3)
  have f_3 := hw0_42
  have f_4 : ¬ (s0_42 : Int32).toInt = (0 : Int32).toInt := fun h => c_6 (Int32.toInt_inj.mp h)
  have f_5 : ¬ (t_56 : Int32).toInt = (0 : Int32).toInt := fun h => c_10 (Int32.toInt_inj.mp h)
  have f_6 := Int32.lt_iff_toInt_lt.mp (Int32.not_le.mp c_11)
  have nl_0 : (0 : Int32).toInt = 0 := rfl
  have nl_300 : (300 : Int32).toInt = 300 := rfl
  have r_x20_5_13 := wi_rng x20_5_13
  exact wi_in (by omega) (by omega)
theorem om_k_X9_listActive_5 (x20_5_13 : Int32) (v3_13 : Int32) (cn : Int32) (s0_42 : Int32) (t_56 : r_k_X7_bodyHolds) (hn_13 : 0 ≤ v3_13.toInt) (hw0_13 : 0 ≤ (x20_5_13 : Int32).toInt) (c_3 : ¬ (cn ≤ v3_13)) (hw0_42 : 0 ≤ (x20_5_13 : Int32).toInt) (c_6 : ¬ (s0_42 = 0)) (c_10 : ¬ (t_56 = 0)) (c_11 : ¬ (300 ≤ x20_5_13)) : 0 ≤ (x20_5_13 + 1 : Int32).toInt := by
  have f_0 := hn_13
  have f_1 := hw0_13
  have f_2 := Int32.lt_iff_toInt_lt.mp (Int32.not_le.mp c_3)
  have f_3 := hw0_42
  have f_4 : ¬ (s0_42 : Int32).toInt = (0 : Int32).toInt := fun h => c_6 (Int32.toInt_inj.mp h)
  have f_5 : ¬ (t_56 : Int32).toInt = (0 : Int32).toInt := fun h => c_10 (Int32.toInt_inj.mp h)
  have f_6 := Int32.lt_iff_toInt_lt.mp (Int32.not_le.mp c_11)
  have nl_0 : (0 : Int32).toInt = 0 := rfl
  have nl_1 : (1 : Int32).toInt = 1 := rfl
  have nl_300 : (300 : Int32).toInt = 300 := rfl
  have r_x20_5_13 := wi_rng x20_5_13
  have q_1 : (x20_5_13 + 1).toInt = (x20_5_13 : Int32).toInt + (1 : Int32).toInt := wi_add (by omega) (by omega)
  omega
theorem om_k_X9_listActive_6 (x20_5_13 : Int32) (v3_13 : Int32) (cn : Int32) (hn_13 : 0 ≤ v3_13.toInt) (hw0_13 : 0 ≤ (x20_5_13 : Int32).toInt) (c_3 : ¬ (cn ≤ v3_13)) : 0 ≤ (x20_5_13 : Int32).toInt := by
  have f_0 := hn_13
  have f_1 := hw0_13
  have f_2 := Int32.lt_iff_toInt_lt.mp (Int32.not_le.mp c_3)
  have r_x20_5_13 := wi_rng x20_5_13
  omega
theorem om_k_X9_listActive_7 (x20_5_13 : Int32) (v3_13 : Int32) (cn : Int32) (hn_13 : 0 ≤ v3_13.toInt) (hw0_13 : 0 ≤ (x20_5_13 : Int32).toInt) (c_3 : ¬ (cn ≤ v3_13)) : 0 ≤ (x20_5_13 : Int32).toInt := by
  have f_0 := hn_13
  have f_1 := hw0_13
  have f_2 := Int32.lt_iff_toInt_lt.mp (Int32.not_le.mp c_3)
  have r_x20_5_13 := wi_rng x20_5_13
  omega
theorem om_k_X9_listActive_8 : 0 ≤ (0 : Int32).toInt := by
  have nl_0 : (0 : Int32).toInt = 0 := rfl
  omega
set_option maxHeartbeats 4000000 in
set_option maxRecDepth 100000 in
theorem k_X9_listActive (l : Launch) (D : va_G) (ty : Nat → ClassId) (td mi sz : Nat) (pp : pT) (X : Nat → Nat) (pn : Int32) (rn : Int32) (tn : Int32) (en : Int32) (rf : Nat → Option Nat) (an : Int32) (ch : Int32) (cg : Int32) (fb : Int32) (mh : Int32) (ml : Int32) (ih : Int32) (lb : Int32) (ic : Int32) (cn : Int32) (c1 : Nat → Int32) (c2 : Nat → Int32) (c3 : Nat → Int32) (c4 : Nat → Int32) (ac : Nat → Int32) (obi : Nat → Int32) (sc : Nat → Int32) (a1 : Int32) (hok : pOK pp) (hru : ∀ (i a : Nat), rf i = some a → a ∈ pRA pp) (TT : r_k_X9_listActive) (hTT : TT = m_k_X9_listActive pp rn rf cg cn c1 c2 c3 c4 ac obi sc a1) : Met l yX9_listActive vs_k_X9_listActive { frames := 4, cells := 0, slots := 0, locals := 91 } (va_Pc [.ref (X 20), .int a1] (wq_P D ty td mi ((wW_k_X9_listActive ty X pn rn tn en rf an ch cg fb mh ml ih lb ic cn c1 c2 c3 c4 ac obi sc) ++ pw ty pp) sz)) (va_Qv (fun u : va_W => ((u = ((wW_k_X9_listActive ty X pn rn tn en rf TT.1 ch cg fb mh ml ih lb ic cn c1 c2 c3 c4 TT.2 obi sc) ++ pw ty pp)))) (wq_B D (va_A ((wW_k_X9_listActive ty X pn rn tn en rf an ch cg fb mh ml ih lb ic cn c1 c2 c3 c4 ac obi sc) ++ pw ty pp) sz)) (va_A ((wW_k_X9_listActive ty X pn rn tn en rf an ch cg fb mh ml ih lb ic cn c1 c2 c3 c4 ac obi sc) ++ pw ty pp) sz)) 0 0 (va_A ((wW_k_X9_listActive ty X pn rn tn en rf an ch cg fb mh ml ih lb ic cn c1 c2 c3 c4 ac obi sc) ++ pw ty pp) sz) := by
  refine Met.ofW (cc := cX9_listActive) (maxL := 5) (ret := none) (by decide) rfl ?_
  intro p e s m args below meth c s₁ B hml hv
  obtain ⟨rfl, hsz, hP, hK, hD0, hE⟩ := hv
  have hx := B.exec
  have hb := B.bytes
  have hr := B.returns
  have hts := atoms_spec (ws := vs_k_X9_listActive) B.pre
  have hown : s.vm.findClass RX9 = some m.cls := findClass_of_methodNamed B.named
  have hlocks := B.notSynchronized
  subst hsz
  have hD := hD0.self (sz := s.heap.size)
  generalize hAe : va_A ((wW_k_X9_listActive ty X pn rn tn en rf an ch cg fb mh ml ih lb ic cn c1 c2 c3 c4 ac obi sc) ++ pw ty pp) s.heap.size = A at hD hE ⊢
  have hA : ∀ q : Nat, s.heap.size ≤ q → A q := fun q h => by rw [← hAe]; exact Or.inr h
  have hS : va_S A s.heap s.heap [] := va_S.rf
  have hP : va_P D vwCl ((wW_k_X9_listActive ty X pn rn tn en rf an ch cg fb mh ml ih lb ic cn c1 c2 c3 c4 ac obi sc) ++ pw ty pp) s.heap := hP
  have hl := lv_entry ([.ref (X 20), .int a1]) (n := 5) (Nat.le_of_ble_eq_true rfl)
  rw [lg_entry_eq]
  generalize (lg_sl ([.ref (X 20), .int a1]) ++ List.replicate (5 - (lg_sl ([.ref (X 20), .int a1])).length) Slot.unset).toArray = ls at hl ⊢
  have hl : lv_has ls 5 [(0, .ref (X 20)), (1, .int a1)] := hl
  have END : ∀ (e0 : Int32) (e1 : Nat → Int32), TT = (e0, e1) → ∀ (H : Heap) (locs : List Loc), va_P D vwCl ((wW_k_X9_listActive ty X pn rn tn en rf e0 ch cg fb mh ml ih lb ic cn c1 c2 c3 c4 e1 obi sc) ++ pw ty pp) H → va_D A ((wW_k_X9_listActive ty X pn rn tn en rf e0 ch cg fb mh ml ih lb ic cn c1 c2 c3 c4 e1 obi sc) ++ pw ty pp) → va_S A s.heap H locs → ∀ (ls : Array Slot) (pc : Nat), decode cX9_listActive pc = .ok (.return_, 1) → W p l e (headSpec vs_k_X9_listActive { frames := 4, cells := 0, slots := 0, locals := 91 }).room s m ([.ref (X 20), .int a1] : List Value).toArray below meth c H locs 0 0 (MQ below (va_Qv (fun u : va_W => ((u = ((wW_k_X9_listActive ty X pn rn tn en rf TT.1 ch cg fb mh ml ih lb ic cn c1 c2 c3 c4 TT.2 obi sc) ++ pw ty pp)))) (wq_B D A) A) ([.ref (X 20), .int a1] : List Value).toArray s 0 0 A) (F0 m pc ls []) := by
    intro e0 e1 hT H locs hP hD hS ls pc hd
    have hM : TT = (e0, e1) := hT
    exact W.vret hx hb hr (fun t ht hW => ⟨⟨((wW_k_X9_listActive ty X pn rn tn en rf e0 ch cg fb mh ml ih lb ic cn c1 c2 c3 c4 e1 obi sc) ++ pw ty pp), rfl, (by rw [hM]), wq_B.of ht hP hD⟩, hS.F ht⟩) hS.2.2 hd
  have hT := hTT
  rw [m_k_X9_listActive] at hT
  refine lv_aload_n hx hb dX9_listActive_0 rfl (lv_at hl 0 rfl) ?_
  refine lv_iload_n hx hb dX9_listActive_1 rfl (lv_at hl 1 rfl) ?_
  obtain ⟨t_2, ht_2⟩ : ∃ t, t = m_k_X9_countsHeld pp rn rf cg obi sc a1 := ⟨_, rfl⟩
  rw [lE_eq ht_2] at hT
  refine wq_iPW (wc := (wW_k_X9_countsHeld ty X pn rn tn en rf an ch cg fb mh ml ih lb ic obi sc)) (pl := pw ty pp) (ux := (wW_k_X9_countsHeld ty X pn rn tn en rf an ch cg fb mh ml ih lb ic obi sc)) (va_runV (As := [.int a1]) (rest := []) ⟨hx, hb, hml, hown, hts⟩ (k_X9_countsHeld l D ty td mi s.heap.size pp X pn rn tn en rf an ch cg fb mh ml ih lb ic obi sc a1 hok hru t_2 ht_2) (cwV 1 hts gv_k_X9_listActive_0 rfl rfl rfl (by decide +kernel) ⟨(Nat.le_of_ble_eq_true rfl), (Nat.le_of_ble_eq_true rfl)⟩) (wm_V (wm_preSP hP hD hK hE hS hA [true, true, true, false, false, false, false, false, false, true, true] rfl) (va_recv (q0 := 2) (ci := 11) hK hP rfl rfl)) rfl rfl hl.1 rfl (lv_room (Nat.le_of_ble_eq_true rfl)) dX9_listActive_2 ⟨(Nat.le_of_ble_eq_true rfl), (Nat.le_of_ble_eq_true rfl)⟩) hS hA hP hD [true, true, true, false, false, false, false, false, false, true, true] rfl rfl (fun _ _ h => h.2) (fun r H locs hw hP hD hS => ?_)
  obtain ⟨hr0, -⟩ := hw
  subst r
  have hP : va_P D vwCl ((wW_k_X9_listActive ty X pn rn tn en rf an ch cg fb mh ml ih lb ic cn c1 c2 c3 c4 ac obi sc) ++ pw ty pp) H := hP
  have hD : va_D A ((wW_k_X9_listActive ty X pn rn tn en rf an ch cg fb mh ml ih lb ic cn c1 c2 c3 c4 ac obi sc) ++ pw ty pp) := hD
  refine W.widen (k := 0) (n := 0) (Nat.le_of_ble_eq_true rfl) (Nat.le_of_ble_eq_true rfl) ?_
  refine lv_istore_n (lv' := [(2, .int t_2), (0, .ref (X 20)), (1, .int a1)]) hx hb dX9_listActive_5 rfl hl (by decide) rfl (fun ls hl => ?_)
  refine lv_aload_n hx hb dX9_listActive_6 rfl (lv_at hl 1 rfl) ?_
  refine lv_iconst (v := 0) hx hb dX9_listActive_7 (by decide) ?_
  refine va_put (D := D) (ci := 11) (v := .int 0) (ty := tyX9 5) (C := RX9) (T := TX9) (N := 17) hx hb hts iv_k_X9_listActive_X9 tyX9 tyX9_ok nmX9 hown hK hP hD hS 2 rfl rfl 5 (by decide) (hts (.fieldLink RX9 276 "AnswerFold$Solver" "activeCount" "I") (by decide +kernel)) (fun _ h9 => h9) rfl (by decide +kernel) rfl rfl (Nat.le_of_ble_eq_true rfl) dX9_listActive_8 (fun H locs hP hD hS => ?_)
  have hP : va_P D vwCl ((wW_k_X9_listActive ty X pn rn tn en rf (0) ch cg fb mh ml ih lb ic cn c1 c2 c3 c4 ac obi sc) ++ pw ty pp) H := hP
  have hD : va_D A ((wW_k_X9_listActive ty X pn rn tn en rf (0) ch cg fb mh ml ih lb ic cn c1 c2 c3 c4 ac obi sc) ++ pw ty pp) := hD
  refine lv_iconst (v := 0) hx hb dX9_listActive_11 (by decide) ?_
  refine lv_istore_n (lv' := [(3, .int 0), (2, .int t_2), (0, .ref (X 20)), (1, .int a1)]) hx hb dX9_listActive_12 rfl hl (by decide) rfl (fun ls hl => ?_)
  have L_13 : ∀ (n_13 : Nat) (v3_13 : Int32) (x20_5_13 : Int32) (x35_f_13 : Nat → Int32), (2147483648 - v3_13.toInt).toNat < n_13 → TT = m_k_X9_listActive_13 cn c1 c2 c3 c4 a1 t_2 n_13 v3_13 x20_5_13 x35_f_13 → 0 ≤ v3_13.toInt → 0 ≤ (x20_5_13 : Int32).toInt → ∀ (H : Heap) (locs : List Loc), va_P D vwCl ((wW_k_X9_listActive ty X pn rn tn en rf x20_5_13 ch cg fb mh ml ih lb ic cn c1 c2 c3 c4 x35_f_13 obi sc) ++ pw ty pp) H → va_D A ((wW_k_X9_listActive ty X pn rn tn en rf x20_5_13 ch cg fb mh ml ih lb ic cn c1 c2 c3 c4 x35_f_13 obi sc) ++ pw ty pp) → va_S A s.heap H locs → ∀ ls : Array Slot, lv_has ls 5 [(0, .ref (X 20)), (1, .int a1), (2, .int t_2), (3, .int v3_13)] → W p l e (headSpec vs_k_X9_listActive { frames := 4, cells := 0, slots := 0, locals := 91 }).room s m ([.ref (X 20), .int a1] : List Value).toArray below meth c H locs 0 0 (MQ below (va_Qv (fun u : va_W => ((u = ((wW_k_X9_listActive ty X pn rn tn en rf TT.1 ch cg fb mh ml ih lb ic cn c1 c2 c3 c4 TT.2 obi sc) ++ pw ty pp)))) (wq_B D A) A) ([.ref (X 20), .int a1] : List Value).toArray s 0 0 A) (F0 m 13 ls []) := by
    intro n_13
    induction n_13 with
    | zero => intro v3_13 x20_5_13 x35_f_13 hu; exact absurd hu (Nat.not_lt_zero _)
    | succ n_13 ih_13 =>
      intro v3_13 x20_5_13 x35_f_13 hu_13 hT hn_13 hw0_13 H locs hP hD hS ls hl
      rw [m_k_X9_listActive_13_succ, m_k_X9_listActive_13s] at hT
      refine lv_iload_n hx hb dX9_listActive_13 rfl (lv_at hl 3 rfl) ?_
      refine lv_aload_n hx hb dX9_listActive_14 rfl (lv_at hl 0 rfl) ?_
      refine va_get (D := D) (ci := 11) (v := .ref (X 21)) (C := RX9) (T := TX9) (N := 17) hx hb hts iv_k_X9_listActive_X9 hown hK hP 2 rfl rfl 2 (by decide) (hts (.fieldLink RX9 12 "AnswerFold$Solver" "checks" "LAnswerFold$Rows;") (by decide +kernel)) (fun _ h9 => h9) rfl dX9_listActive_15 ?_
      refine va_getN (D := D) (ci := 9) (v := .int cn) (C := RX7) (T := TX7) (N := 7) hx hb hts iv_k_X9_listActive_X7 hown hK hP 3 rfl rfl 6 (by decide) (hE.at (.fieldLinkNest "AnswerFold$Solver" 93 "AnswerFold$Rows" "count" "I" "AnswerFold") (by decide +kernel)) (fun _ h9 => h9) rfl dX9_listActive_18 ?_
      refine lv_icmp_ge (tgt := 98) hx hb dX9_listActive_21 (by decide) (fun c_3 => ?_) (fun c_3 => ?_)
      · rw [if_pos c_3] at hT
        exact END x20_5_13 x35_f_13 hT _ _ hP hD hS _ _ dX9_listActive_98
      · rw [if_neg c_3] at hT
        refine lv_aload_n hx hb dX9_listActive_24 rfl (lv_at hl 0 rfl) ?_
        refine va_get (D := D) (ci := 11) (v := .ref (X 21)) (C := RX9) (T := TX9) (N := 17) hx hb hts iv_k_X9_listActive_X9 hown hK hP 2 rfl rfl 2 (by decide) (hts (.fieldLink RX9 12 "AnswerFold$Solver" "checks" "LAnswerFold$Rows;") (by decide +kernel)) (fun _ h9 => h9) rfl dX9_listActive_25 ?_
        refine lv_iload_n hx hb dX9_listActive_28 rfl (lv_at hl 3 rfl) ?_
        obtain ⟨t_29, ht_29⟩ : ∃ t, t = m_k_X7_headsAt c4 v3_13 := ⟨_, rfl⟩
        rw [lE_eq ht_29] at hT
        refine wq_iQW (wc := (wW_k_X7_headsAt ty (X 21) (X 22) (X 23) (X 24) (X 25) (X 26) (X 27) cn c4)) (pl := pw ty pp) (va_runV (As := [.int v3_13]) (rest := []) ⟨hx, hb, hml, hown, hts⟩ (k_X7_headsAt l D ty td mi H.size (X 21) (X 22) (X 23) (X 24) (X 25) (X 26) (X 27) cn c4 v3_13 t_29 ht_29) (cwV 1 hts gv_k_X9_listActive_1 rfl rfl rfl (by decide +kernel) ⟨(Nat.le_of_ble_eq_true rfl), (Nat.le_of_ble_eq_true rfl)⟩) (wm_V (wm_preS (vP_left hP) (vD_left hD) hK hE hS hA [false, false, false, true, false, false, false, true] rfl) (va_recv (q0 := 3) (ci := 9) hK hP rfl rfl)) rfl rfl hl.1 rfl (lv_room (Nat.le_of_ble_eq_true rfl)) dX9_listActive_29 ⟨(Nat.le_of_ble_eq_true rfl), (Nat.le_of_ble_eq_true rfl)⟩) hS hA hP hD [false, false, false, true, false, false, false, true] rfl (fun _ _ h => by rcases h with ⟨-, rfl⟩; rfl) (fun r u H locs hw hP hD hS => ?_)
        obtain ⟨hr0, rfl⟩ := hw
        subst r
        have hP : va_P D vwCl ((wW_k_X9_listActive ty X pn rn tn en rf x20_5_13 ch cg fb mh ml ih lb ic cn c1 c2 c3 c4 x35_f_13 obi sc) ++ pw ty pp) H := hP
        have hD : va_D A ((wW_k_X9_listActive ty X pn rn tn en rf x20_5_13 ch cg fb mh ml ih lb ic cn c1 c2 c3 c4 x35_f_13 obi sc) ++ pw ty pp) := hD
        refine W.widen (k := 0) (n := 0) (Nat.le_of_ble_eq_true rfl) (Nat.le_of_ble_eq_true rfl) ?_
        refine lv_iload_n hx hb dX9_listActive_32 rfl (lv_at hl 1 rfl) ?_
        refine lv_iand hx hb dX9_listActive_33 ?_
        have J_42 : ∀ (s0_42 : Int32), TT = m_k_X9_listActive_42 c1 c2 c3 a1 (m_k_X9_listActive_13 cn c1 c2 c3 c4 a1 t_2 n_13) t_2 v3_13 x20_5_13 x35_f_13 s0_42 → 0 ≤ (x20_5_13 : Int32).toInt → s0_42 = 0 ∨ s0_42 = 1 → ∀ (H : Heap) (locs : List Loc), va_P D vwCl ((wW_k_X9_listActive ty X pn rn tn en rf x20_5_13 ch cg fb mh ml ih lb ic cn c1 c2 c3 c4 x35_f_13 obi sc) ++ pw ty pp) H → va_D A ((wW_k_X9_listActive ty X pn rn tn en rf x20_5_13 ch cg fb mh ml ih lb ic cn c1 c2 c3 c4 x35_f_13 obi sc) ++ pw ty pp) → va_S A s.heap H locs → ∀ ls : Array Slot, lv_has ls 5 [(0, .ref (X 20)), (1, .int a1), (2, .int t_2), (3, .int v3_13)] → W p l e (headSpec vs_k_X9_listActive { frames := 4, cells := 0, slots := 0, locals := 91 }).room s m ([.ref (X 20), .int a1] : List Value).toArray below meth c H locs 0 0 (MQ below (va_Qv (fun u : va_W => ((u = ((wW_k_X9_listActive ty X pn rn tn en rf TT.1 ch cg fb mh ml ih lb ic cn c1 c2 c3 c4 TT.2 obi sc) ++ pw ty pp)))) (wq_B D A) A) ([.ref (X 20), .int a1] : List Value).toArray s 0 0 A) (F0 m 42 ls [.int s0_42]) := by
          intro s0_42 hT hw0_42 hb_s0_42 H locs hP hD hS ls hl
          rw [m_k_X9_listActive_42] at hT
          refine lv_istore (lv' := [(4, .int s0_42), (0, .ref (X 20)), (1, .int a1), (2, .int t_2), (3, .int v3_13)]) hx hb dX9_listActive_42 hl (by decide) rfl (fun ls hl => ?_)
          refine lv_iload hx hb dX9_listActive_44 (lv_at hl 0 rfl) ?_
          have J_92 : ∀ (x20_5_92 : Int32) (x35_f_92 : Nat → Int32), TT = m_k_X9_listActive_92 (m_k_X9_listActive_13 cn c1 c2 c3 c4 a1 t_2 n_13) v3_13 x20_5_92 x35_f_92 → 0 ≤ (x20_5_92 : Int32).toInt → ∀ (H : Heap) (locs : List Loc), va_P D vwCl ((wW_k_X9_listActive ty X pn rn tn en rf x20_5_92 ch cg fb mh ml ih lb ic cn c1 c2 c3 c4 x35_f_92 obi sc) ++ pw ty pp) H → va_D A ((wW_k_X9_listActive ty X pn rn tn en rf x20_5_92 ch cg fb mh ml ih lb ic cn c1 c2 c3 c4 x35_f_92 obi sc) ++ pw ty pp) → va_S A s.heap H locs → ∀ ls : Array Slot, lv_has ls 5 [(0, .ref (X 20)), (1, .int a1), (2, .int t_2), (3, .int v3_13)] → W p l e (headSpec vs_k_X9_listActive { frames := 4, cells := 0, slots := 0, locals := 91 }).room s m ([.ref (X 20), .int a1] : List Value).toArray below meth c H locs 0 0 (MQ below (va_Qv (fun u : va_W => ((u = ((wW_k_X9_listActive ty X pn rn tn en rf TT.1 ch cg fb mh ml ih lb ic cn c1 c2 c3 c4 TT.2 obi sc) ++ pw ty pp)))) (wq_B D A) A) ([.ref (X 20), .int a1] : List Value).toArray s 0 0 A) (F0 m 92 ls []) := by
            intro x20_5_92 x35_f_92 hT hw0_92 H locs hP hD hS ls hl
            rw [m_k_X9_listActive_92] at hT
            refine lv_iinc (v := v3_13 + 1) (lv' := [(3, .int (v3_13 + 1)), (0, .ref (X 20)), (1, .int a1), (2, .int t_2)]) hx hb dX9_listActive_92 hl (k := 3) rfl (by rfl) (by decide) rfl (fun ls hl => ?_)
            refine lv_goto (tgt := 13) hx hb dX9_listActive_95 (by decide) ?_
            exact ih_13 (v3_13 + 1) x20_5_92 x35_f_92 (wi_up hu_13 (Int32.not_le.mp c_3)) hT (wi_inc hn_13 (Int32.not_le.mp c_3)) (om_k_X9_listActive_0 x20_5_92 v3_13 x20_5_13 cn hn_13 hw0_13 c_3 hw0_42 hw0_92) _ _ hP hD hS _ (lv_sub hl [1, 2, 3, 0] rfl)
          refine lv_if_eq (tgt := 92) hx hb dX9_listActive_46 (by decide) (fun c_6 => ?_) (fun c_6 => ?_)
          · rw [if_pos c_6] at hT
            exact J_92 x20_5_13 x35_f_13 hT (om_k_X9_listActive_1 x20_5_13 v3_13 cn s0_42 hn_13 hw0_13 c_3 hw0_42 c_6) _ _ hP hD hS _ (lv_sub hl [1, 2, 3, 4] rfl)
          · rw [if_neg c_6] at hT
            refine lv_aload_n hx hb dX9_listActive_49 rfl (lv_at hl 1 rfl) ?_
            refine va_get (D := D) (ci := 11) (v := .ref (X 21)) (C := RX9) (T := TX9) (N := 17) hx hb hts iv_k_X9_listActive_X9 hown hK hP 2 rfl rfl 2 (by decide) (hts (.fieldLink RX9 12 "AnswerFold$Solver" "checks" "LAnswerFold$Rows;") (by decide +kernel)) (fun _ h9 => h9) rfl dX9_listActive_50 ?_
            refine lv_iload_n hx hb dX9_listActive_53 rfl (lv_at hl 4 rfl) ?_
            refine lv_iload_n hx hb dX9_listActive_54 rfl (lv_at hl 2 rfl) ?_
            refine lv_iload_n hx hb dX9_listActive_55 rfl (lv_at hl 3 rfl) ?_
            obtain ⟨t_56, ht_56⟩ : ∃ t, t = m_k_X7_bodyHolds c1 c2 c3 v3_13 a1 t_2 := ⟨_, rfl⟩
            rw [lE_eq ht_56] at hT
            refine wq_iQW (wc := (wW_k_X7_bodyHolds ty (X 21) (X 22) (X 23) (X 24) (X 25) (X 26) (X 27) cn c1 c2 c3)) (pl := pw ty pp) (va_runV (As := [.int v3_13, .int a1, .int t_2]) (rest := []) ⟨hx, hb, hml, hown, hts⟩ (k_X7_bodyHolds l D ty td mi H.size (X 21) (X 22) (X 23) (X 24) (X 25) (X 26) (X 27) cn c1 c2 c3 v3_13 a1 t_2 t_56 ht_56) (cwV 3 hts gv_k_X9_listActive_2 rfl rfl rfl (by decide +kernel) ⟨(Nat.le_of_ble_eq_true rfl), (Nat.le_of_ble_eq_true rfl)⟩) (wm_V (wm_preS (vP_left hP) (vD_left hD) hK hE hS hA [false, false, false, true, true, true, true] rfl) (va_recv (q0 := 3) (ci := 9) hK hP rfl rfl)) rfl rfl hl.1 rfl (lv_room (Nat.le_of_ble_eq_true rfl)) dX9_listActive_56 ⟨(Nat.le_of_ble_eq_true rfl), (Nat.le_of_ble_eq_true rfl)⟩) hS hA hP hD [false, false, false, true, true, true, true] rfl (fun _ _ h => by rcases h with ⟨-, -, rfl⟩; rfl) (fun r u H locs hw hP hD hS => ?_)
            obtain ⟨hr0, c_9, rfl⟩ := hw
            subst r
            have hP : va_P D vwCl ((wW_k_X9_listActive ty X pn rn tn en rf x20_5_13 ch cg fb mh ml ih lb ic cn c1 c2 c3 c4 x35_f_13 obi sc) ++ pw ty pp) H := hP
            have hD : va_D A ((wW_k_X9_listActive ty X pn rn tn en rf x20_5_13 ch cg fb mh ml ih lb ic cn c1 c2 c3 c4 x35_f_13 obi sc) ++ pw ty pp) := hD
            refine W.widen (k := 0) (n := 0) (Nat.le_of_ble_eq_true rfl) (Nat.le_of_ble_eq_true rfl) ?_
            refine lv_if_eq (tgt := 92) hx hb dX9_listActive_59 (by decide) (fun c_10 => ?_) (fun c_10 => ?_)
            · rw [if_pos c_10] at hT
              exact J_92 x20_5_13 x35_f_13 hT (om_k_X9_listActive_2 x20_5_13 v3_13 cn s0_42 t_56 hn_13 hw0_13 c_3 hw0_42 c_6 c_10) _ _ hP hD hS _ (lv_sub hl [1, 2, 3, 4] rfl)
            · rw [if_neg c_10] at hT
              refine lv_aload_n hx hb dX9_listActive_62 rfl (lv_at hl 1 rfl) ?_
              refine va_get (D := D) (ci := 11) (v := .int x20_5_13) (C := RX9) (T := TX9) (N := 17) hx hb hts iv_k_X9_listActive_X9 hown hK hP 2 rfl rfl 5 (by decide) (hts (.fieldLink RX9 276 "AnswerFold$Solver" "activeCount" "I") (by decide +kernel)) (fun _ h9 => h9) rfl dX9_listActive_63 ?_
              refine lv_sipush (v := 300) hx hb dX9_listActive_66 (by decide) ?_
              refine lv_icmp_ge (tgt := 92) hx hb dX9_listActive_69 (by decide) (fun c_11 => ?_) (fun c_11 => ?_)
              · rw [if_pos c_11] at hT
                exact J_92 x20_5_13 x35_f_13 hT (om_k_X9_listActive_3 x20_5_13 v3_13 cn s0_42 t_56 hn_13 hw0_13 c_3 hw0_42 c_6 c_10 c_11) _ _ hP hD hS _ (lv_sub hl [1, 2, 3, 4] rfl)
              · rw [if_neg c_11] at hT
                refine lv_aload_n hx hb dX9_listActive_72 rfl (lv_at hl 1 rfl) ?_
                refine va_get (D := D) (ci := 11) (v := .ref (X 35)) (C := RX9) (T := TX9) (N := 17) hx hb hts iv_k_X9_listActive_X9 hown hK hP 2 rfl rfl 4 (by decide) (hts (.fieldLink RX9 21 "AnswerFold$Solver" "active" "[I") (by decide +kernel)) (fun _ h9 => h9) rfl dX9_listActive_73 ?_
                refine lv_aload_n hx hb dX9_listActive_76 rfl (lv_at hl 1 rfl) ?_
                refine va_get (D := D) (ci := 11) (v := .int x20_5_13) (C := RX9) (T := TX9) (N := 17) hx hb hts iv_k_X9_listActive_X9 hown hK hP 2 rfl rfl 5 (by decide) (hts (.fieldLink RX9 276 "AnswerFold$Solver" "activeCount" "I") (by decide +kernel)) (fun _ h9 => h9) rfl dX9_listActive_77 ?_
                refine lv_iload_n hx hb dX9_listActive_80 rfl (lv_at hl 4 rfl) ?_
                refine va_iast (D := D) hx hb hK hP hD hS 8 0 rfl rfl (om_k_X9_listActive_4 x20_5_13 v3_13 cn s0_42 t_56 hn_13 hw0_13 c_3 hw0_42 c_6 c_10 c_11) dX9_listActive_81 (fun H locs hP hD hS => ?_)
                have hP : va_P D vwCl ((wW_k_X9_listActive ty X pn rn tn en rf x20_5_13 ch cg fb mh ml ih lb ic cn c1 c2 c3 c4 (upd x35_f_13 x20_5_13.toNatClampNeg v3_13) obi sc) ++ pw ty pp) H := hP
                have hD : va_D A ((wW_k_X9_listActive ty X pn rn tn en rf x20_5_13 ch cg fb mh ml ih lb ic cn c1 c2 c3 c4 (upd x35_f_13 x20_5_13.toNatClampNeg v3_13) obi sc) ++ pw ty pp) := hD
                refine lv_aload_n hx hb dX9_listActive_82 rfl (lv_at hl 1 rfl) ?_
                refine lv_dup hx hb dX9_listActive_83 rfl ?_
                refine va_get (D := D) (ci := 11) (v := .int x20_5_13) (C := RX9) (T := TX9) (N := 17) hx hb hts iv_k_X9_listActive_X9 hown hK hP 2 rfl rfl 5 (by decide) (hts (.fieldLink RX9 276 "AnswerFold$Solver" "activeCount" "I") (by decide +kernel)) (fun _ h9 => h9) rfl dX9_listActive_84 ?_
                refine lv_iconst (v := 1) hx hb dX9_listActive_87 (by decide) ?_
                refine lv_iadd hx hb dX9_listActive_88 ?_
                refine va_put (D := D) (ci := 11) (v := .int (x20_5_13 + 1)) (ty := tyX9 5) (C := RX9) (T := TX9) (N := 17) hx hb hts iv_k_X9_listActive_X9 tyX9 tyX9_ok nmX9 hown hK hP hD hS 2 rfl rfl 5 (by decide) (hts (.fieldLink RX9 276 "AnswerFold$Solver" "activeCount" "I") (by decide +kernel)) (fun _ h9 => h9) rfl (by decide +kernel) rfl rfl (Nat.le_of_ble_eq_true rfl) dX9_listActive_89 (fun H locs hP hD hS => ?_)
                have hP : va_P D vwCl ((wW_k_X9_listActive ty X pn rn tn en rf (x20_5_13 + 1) ch cg fb mh ml ih lb ic cn c1 c2 c3 c4 (upd x35_f_13 x20_5_13.toNatClampNeg v3_13) obi sc) ++ pw ty pp) H := hP
                have hD : va_D A ((wW_k_X9_listActive ty X pn rn tn en rf (x20_5_13 + 1) ch cg fb mh ml ih lb ic cn c1 c2 c3 c4 (upd x35_f_13 x20_5_13.toNatClampNeg v3_13) obi sc) ++ pw ty pp) := hD
                exact J_92 (x20_5_13 + 1) (upd x35_f_13 x20_5_13.toNatClampNeg v3_13) hT (om_k_X9_listActive_5 x20_5_13 v3_13 cn s0_42 t_56 hn_13 hw0_13 c_3 hw0_42 c_6 c_10 c_11) _ _ hP hD hS _ (lv_sub hl [1, 2, 3, 4] rfl)
        refine lv_if_eq (tgt := 41) hx hb dX9_listActive_34 (by decide) (fun c_12 => ?_) (fun c_12 => ?_)
        · rw [if_pos c_12] at hT
          refine lv_iconst (v := 0) hx hb dX9_listActive_41 (by decide) ?_
          exact J_42 0 hT (om_k_X9_listActive_6 x20_5_13 v3_13 cn hn_13 hw0_13 c_3) (by decide) _ _ hP hD hS _ (lv_sub hl [0, 1, 2, 3] rfl)
        · rw [if_neg c_12] at hT
          refine lv_iconst (v := 1) hx hb dX9_listActive_37 (by decide) ?_
          refine lv_goto (tgt := 42) hx hb dX9_listActive_38 (by decide) ?_
          exact J_42 1 hT (om_k_X9_listActive_7 x20_5_13 v3_13 cn hn_13 hw0_13 c_3) (by decide) _ _ hP hD hS _ (lv_sub hl [0, 1, 2, 3] rfl)
  exact L_13 wF 0 0 ac (wF_up 0) hT (by decide) (om_k_X9_listActive_8) _ _ hP hD hS _ (lv_sub hl [2, 3, 1, 0] rfl)
