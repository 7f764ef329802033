theorem dX6_groundedByCalls_0 : decode cX6_groundedByCalls 0 = .ok (.aload_n 0, 1) := by decide +kernel
theorem dX6_groundedByCalls_1 : decode cX6_groundedByCalls 1 = .ok (.getfield 27, 3) := by decide +kernel
theorem dX6_groundedByCalls_4 : decode cX6_groundedByCalls 4 = .ok (.iconst 1, 1) := by decide +kernel
theorem dX6_groundedByCalls_5 : decode cX6_groundedByCalls 5 = .ok (.isub, 1) := by decide +kernel
theorem dX6_groundedByCalls_6 : decode cX6_groundedByCalls 6 = .ok (.ireturn, 1) := by decide +kernel
def wW_k_X6_groundedByCalls (ty : Nat → ClassId) (X : Nat → Nat) (z9_0 : Int32) (z9_1 : Int32) (z9_2 : Int32) (z9_3 : Int32) : va_W := [((X 1), .inr (8, [.ref (X 2), .int z9_0, .ref (X 3), .int z9_1, .ref (X 4), .ref (X 5), .int z9_2, .ref (X 6), .ref (X 7), .int z9_3]))]
def vs_k_X6_groundedByCalls : List Cond := .code yX6_groundedByCalls cX6_groundedByCalls 1 (some .int) :: ([.fieldLink RX6 27 "AnswerFold$Program" "timeCount" "I"] ++ (u_ws RX6 TX6 10))
theorem iv_k_X6_groundedByCalls_X6 : ∀ w ∈ u_ws RX6 TX6 10, w ∈ vs_k_X6_groundedByCalls := (fun _ h => List.mem_cons_of_mem _ (List.mem_append_right _ (h)))
set_option maxHeartbeats 4000000 in
set_option maxRecDepth 100000 in
theorem k_X6_groundedByCalls (l : Launch) (D : va_G) (ty : Nat → ClassId) (td mi sz : Nat) (X : Nat → Nat) (pn : Int32) (rn : Int32) (tn : Int32) (en : Int32) (TT : r_k_X6_groundedByCalls) (hTT : TT = m_k_X6_groundedByCalls tn) : Met l yX6_groundedByCalls vs_k_X6_groundedByCalls { frames := 0, cells := 0, slots := 0, locals := 0 } (va_Pc [.ref (X 1)] (wq_P D ty td mi (wW_k_X6_groundedByCalls ty X pn rn tn en) sz)) (va_Qi (fun (r : Int32) (u : va_W) => (r = TT ∧ (u = (wW_k_X6_groundedByCalls ty X pn rn tn en)))) (wq_B D (va_A (wW_k_X6_groundedByCalls ty X pn rn tn en) sz)) (va_A (wW_k_X6_groundedByCalls ty X pn rn tn en) sz)) 0 0 (va_A (wW_k_X6_groundedByCalls ty X pn rn tn en) sz) := by
  refine Met.ofW (cc := cX6_groundedByCalls) (maxL := 1) (ret := (some .int)) (by decide) rfl ?_
  intro p e s m args below meth c s₁ B hml hv
  obtain ⟨rfl, hsz, hP, hK, hD0, hE⟩ := hv
  have hx := B.exec
  have hb := B.bytes
  have hr := B.returns
  have hts := atoms_spec (ws := vs_k_X6_groundedByCalls) B.pre
  have hown : s.vm.findClass RX6 = some m.cls := findClass_of_methodNamed B.named
  have hlocks := B.notSynchronized
  subst hsz
  have hD := hD0.self (sz := s.heap.size)
  generalize hAe : va_A (wW_k_X6_groundedByCalls ty X pn rn tn en) s.heap.size = A at hD hE ⊢
  have hA : ∀ q : Nat, s.heap.size ≤ q → A q := fun q h => by rw [← hAe]; exact Or.inr h
  have hS : va_S A s.heap s.heap [] := va_S.rf
  have hP : va_P D vwCl (wW_k_X6_groundedByCalls ty X pn rn tn en) s.heap := hP
  have hl := lv_entry ([.ref (X 1)]) (n := 1) (Nat.le_of_ble_eq_true rfl)
  rw [lg_entry_eq]
  generalize (lg_sl ([.ref (X 1)]) ++ List.replicate (1 - (lg_sl ([.ref (X 1)])).length) Slot.unset).toArray = ls at hl ⊢
  have hl : lv_has ls 1 [(0, .ref (X 1))] := hl
  have END : ∀ (r : Int32), TT = r → ∀ (H : Heap) (locs : List Loc), va_P D vwCl (wW_k_X6_groundedByCalls ty X pn rn tn en) H → va_D A (wW_k_X6_groundedByCalls ty X pn rn tn en) → va_S A s.heap H locs → ∀ (ls : Array Slot) (pc : Nat), decode cX6_groundedByCalls pc = .ok (.ireturn, 1) → W p l e (headSpec vs_k_X6_groundedByCalls { frames := 0, cells := 0, slots := 0, locals := 0 }).room s m ([.ref (X 1)] : List Value).toArray below meth c H locs 0 0 (MQ below (va_Qi (fun (r : Int32) (u : va_W) => (r = TT ∧ (u = (wW_k_X6_groundedByCalls ty X pn rn tn en)))) (wq_B D A) A) ([.ref (X 1)] : List Value).toArray s 0 0 A) (F0 m pc ls [.int r]) := by
    intro r hT H locs hP hD hS ls pc hd
    have hM : TT = r := hT
    exact W.iret (v := r) hx hb hr (fun t ht hW => ⟨⟨r, (wW_k_X6_groundedByCalls ty X pn rn tn en), rfl, ⟨(by rw [hM]), rfl⟩, wq_B.of ht hP hD⟩, hS.F ht⟩) hS.2.2 hd
  have hT := hTT
  rw [m_k_X6_groundedByCalls] at hT
  refine lv_aload_n hx hb dX6_groundedByCalls_0 rfl (lv_at hl 0 rfl) ?_
  refine va_get (D := D) (ci := 8) (v := .int tn) (C := RX6) (T := TX6) (N := 10) hx hb hts iv_k_X6_groundedByCalls_X6 hown hK hP 0 rfl rfl 6 (by decide) (hts (.fieldLink RX6 27 "AnswerFold$Program" "timeCount" "I") (by decide +kernel)) (fun _ h9 => h9) rfl dX6_groundedByCalls_1 ?_
  refine lv_iconst (v := 1) hx hb dX6_groundedByCalls_4 (by decide) ?_
  refine lv_isub hx hb dX6_groundedByCalls_5 ?_
  exact END (tn - 1) hT _ _ hP hD hS _ _ dX6_groundedByCalls_6
theorem dX6_parameterAt_0 : decode cX6_parameterAt 0 = .ok (.iload_n 1, 1) := by decide +kernel
theorem dX6_parameterAt_1 : decode cX6_parameterAt 1 = .ok (.ifCond .lt 25, 3) := by decide +kernel
theorem dX6_parameterAt_4 : decode cX6_parameterAt 4 = .ok (.iload_n 1, 1) := by decide +kernel
theorem dX6_parameterAt_5 : decode cX6_parameterAt 5 = .ok (.aload_n 0, 1) := by decide +kernel
theorem dX6_parameterAt_6 : decode cX6_parameterAt 6 = .ok (.getfield 21, 3) := by decide +kernel
theorem dX6_parameterAt_9 : decode cX6_parameterAt 9 = .ok (.arraylength, 1) := by decide +kernel
theorem dX6_parameterAt_10 : decode cX6_parameterAt 10 = .ok (.if_icmp .ge 16, 3) := by decide +kernel
theorem dX6_parameterAt_13 : decode cX6_parameterAt 13 = .ok (.iload_n 1, 1) := by decide +kernel
theorem dX6_parameterAt_14 : decode cX6_parameterAt 14 = .ok (.aload_n 0, 1) := by decide +kernel
theorem dX6_parameterAt_15 : decode cX6_parameterAt 15 = .ok (.getfield 24, 3) := by decide +kernel
theorem dX6_parameterAt_18 : decode cX6_parameterAt 18 = .ok (.arraylength, 1) := by decide +kernel
theorem dX6_parameterAt_19 : decode cX6_parameterAt 19 = .ok (.if_icmp .ge 7, 3) := by decide +kernel
theorem dX6_parameterAt_22 : decode cX6_parameterAt 22 = .ok (.iconst 1, 1) := by decide +kernel
theorem dX6_parameterAt_23 : decode cX6_parameterAt 23 = .ok (.goto 4, 3) := by decide +kernel
theorem dX6_parameterAt_26 : decode cX6_parameterAt 26 = .ok (.iconst 0, 1) := by decide +kernel
theorem dX6_parameterAt_27 : decode cX6_parameterAt 27 = .ok (.istore_n 3, 1) := by decide +kernel
theorem dX6_parameterAt_28 : decode cX6_parameterAt 28 = .ok (.iload_n 3, 1) := by decide +kernel
theorem dX6_parameterAt_29 : decode cX6_parameterAt 29 = .ok (.ifCond .eq 22, 3) := by decide +kernel
theorem dX6_parameterAt_32 : decode cX6_parameterAt 32 = .ok (.aload_n 0, 1) := by decide +kernel
theorem dX6_parameterAt_33 : decode cX6_parameterAt 33 = .ok (.getfield 21, 3) := by decide +kernel
theorem dX6_parameterAt_36 : decode cX6_parameterAt 36 = .ok (.iload_n 1, 1) := by decide +kernel
theorem dX6_parameterAt_37 : decode cX6_parameterAt 37 = .ok (.iaload, 1) := by decide +kernel
theorem dX6_parameterAt_38 : decode cX6_parameterAt 38 = .ok (.iload_n 2, 1) := by decide +kernel
theorem dX6_parameterAt_39 : decode cX6_parameterAt 39 = .ok (.if_icmp .ne 12, 3) := by decide +kernel
theorem dX6_parameterAt_42 : decode cX6_parameterAt 42 = .ok (.aload_n 0, 1) := by decide +kernel
theorem dX6_parameterAt_43 : decode cX6_parameterAt 43 = .ok (.getfield 24, 3) := by decide +kernel
theorem dX6_parameterAt_46 : decode cX6_parameterAt 46 = .ok (.iload_n 1, 1) := by decide +kernel
theorem dX6_parameterAt_47 : decode cX6_parameterAt 47 = .ok (.iaload, 1) := by decide +kernel
theorem dX6_parameterAt_48 : decode cX6_parameterAt 48 = .ok (.goto 4, 3) := by decide +kernel
theorem dX6_parameterAt_51 : decode cX6_parameterAt 51 = .ok (.iconst (-1), 1) := by decide +kernel
theorem dX6_parameterAt_52 : decode cX6_parameterAt 52 = .ok (.ireturn, 1) := by decide +kernel
def wW_k_X6_parameterAt (ty : Nat → ClassId) (X : Nat → Nat) (z9_0 : Int32) (z9_1 : Int32) (z9_2 : Int32) (z9_3 : Int32) (z9_4 : Nat → Int32) (z9_5 : Nat → Int32) : va_W := [((X 1), .inr (8, [.ref (X 2), .int z9_0, .ref (X 3), .int z9_1, .ref (X 4), .ref (X 5), .int z9_2, .ref (X 6), .ref (X 7), .int z9_3])), ((X 4), .inl (ty 0, 7, .inl z9_4)), ((X 5), .inl (ty 0, 7, .inl z9_5))]
def vs_k_X6_parameterAt : List Cond := .code yX6_parameterAt cX6_parameterAt 4 (some .int) :: ([.fieldLink RX6 21 "AnswerFold$Program" "timePart" "[I", .fieldLink RX6 24 "AnswerFold$Program" "timeParameter" "[I"] ++ (u_ws RX6 TX6 10))
theorem iv_k_X6_parameterAt_X6 : ∀ w ∈ u_ws RX6 TX6 10, w ∈ vs_k_X6_parameterAt := (fun _ h => List.mem_cons_of_mem _ (List.mem_append_right _ (h)))
set_option maxHeartbeats 4000000 in
set_option maxRecDepth 100000 in
theorem k_X6_parameterAt (l : Launch) (D : va_G) (ty : Nat → ClassId) (td mi sz : Nat) (X : Nat → Nat) (pn : Int32) (rn : Int32) (tn : Int32) (en : Int32) (tp : Nat → Int32) (tq : Nat → Int32) (a1 : Int32) (a2 : Int32) (TT : r_k_X6_parameterAt) (hTT : TT = m_k_X6_parameterAt tp tq a1 a2) : Met l yX6_parameterAt vs_k_X6_parameterAt { frames := 0, cells := 0, slots := 0, locals := 0 } (va_Pc [.ref (X 1), .int a1, .int a2] (wq_P D ty td mi (wW_k_X6_parameterAt ty X pn rn tn en tp tq) sz)) (va_Qi (fun (r : Int32) (u : va_W) => (r = TT ∧ (u = (wW_k_X6_parameterAt ty X pn rn tn en tp tq)))) (wq_B D (va_A (wW_k_X6_parameterAt ty X pn rn tn en tp tq) sz)) (va_A (wW_k_X6_parameterAt ty X pn rn tn en tp tq) sz)) 0 0 (va_A (wW_k_X6_parameterAt ty X pn rn tn en tp tq) sz) := by
  refine Met.ofW (cc := cX6_parameterAt) (maxL := 4) (ret := (some .int)) (by decide) rfl ?_
  intro p e s m args below meth c s₁ B hml hv
  obtain ⟨rfl, hsz, hP, hK, hD0, hE⟩ := hv
  have hx := B.exec
  have hb := B.bytes
  have hr := B.returns
  have hts := atoms_spec (ws := vs_k_X6_parameterAt) B.pre
  have hown : s.vm.findClass RX6 = some m.cls := findClass_of_methodNamed B.named
  have hlocks := B.notSynchronized
  subst hsz
  have hD := hD0.self (sz := s.heap.size)
  generalize hAe : va_A (wW_k_X6_parameterAt ty X pn rn tn en tp tq) s.heap.size = A at hD hE ⊢
  have hA : ∀ q : Nat, s.heap.size ≤ q → A q := fun q h => by rw [← hAe]; exact Or.inr h
  have hS : va_S A s.heap s.heap [] := va_S.rf
  have hP : va_P D vwCl (wW_k_X6_parameterAt ty X pn rn tn en tp tq) s.heap := hP
  have hl := lv_entry ([.ref (X 1), .int a1, .int a2]) (n := 4) (Nat.le_of_ble_eq_true rfl)
  rw [lg_entry_eq]
  generalize (lg_sl ([.ref (X 1), .int a1, .int a2]) ++ List.replicate (4 - (lg_sl ([.ref (X 1), .int a1, .int a2])).length) Slot.unset).toArray = ls at hl ⊢
  have hl : lv_has ls 4 [(0, .ref (X 1)), (1, .int a1), (2, .int a2)] := hl
  have END : ∀ (r : Int32), TT = r → ∀ (H : Heap) (locs : List Loc), va_P D vwCl (wW_k_X6_parameterAt ty X pn rn tn en tp tq) H → va_D A (wW_k_X6_parameterAt ty X pn rn tn en tp tq) → va_S A s.heap H locs → ∀ (ls : Array Slot) (pc : Nat), decode cX6_parameterAt pc = .ok (.ireturn, 1) → W p l e (headSpec vs_k_X6_parameterAt { frames := 0, cells := 0, slots := 0, locals := 0 }).room s m ([.ref (X 1), .int a1, .int a2] : List Value).toArray below meth c H locs 0 0 (MQ below (va_Qi (fun (r : Int32) (u : va_W) => (r = TT ∧ (u = (wW_k_X6_parameterAt ty X pn rn tn en tp tq)))) (wq_B D A) A) ([.ref (X 1), .int a1, .int a2] : List Value).toArray s 0 0 A) (F0 m pc ls [.int r]) := by
    intro r hT H locs hP hD hS ls pc hd
    have hM : TT = r := hT
    exact W.iret (v := r) hx hb hr (fun t ht hW => ⟨⟨r, (wW_k_X6_parameterAt ty X pn rn tn en tp tq), rfl, ⟨(by rw [hM]), rfl⟩, wq_B.of ht hP hD⟩, hS.F ht⟩) hS.2.2 hd
  have hT := hTT
  rw [m_k_X6_parameterAt] at hT
  refine lv_iload_n hx hb dX6_parameterAt_0 rfl (lv_at hl 1 rfl) ?_
  refine lv_if_lt (tgt := 26) hx hb dX6_parameterAt_1 (by decide) (fun c_1 => ?_) (fun c_1 => ?_)
  · rw [if_pos c_1] at hT
    refine lv_iconst (v := 0) hx hb dX6_parameterAt_26 (by decide) ?_
    refine lv_istore_n (lv' := [(3, .int 0), (0, .ref (X 1)), (1, .int a1), (2, .int a2)]) hx hb dX6_parameterAt_27 rfl hl (by decide) rfl (fun ls hl => ?_)
    refine lv_iload_n hx hb dX6_parameterAt_28 rfl (lv_at hl 0 rfl) ?_
    refine lv_if_eq (tgt := 51) hx hb dX6_parameterAt_29 (by decide) (fun _ => ?_) (fun c0 => absurd (by decide) c0)
    refine lv_iconst (v := (-1)) hx hb dX6_parameterAt_51 (by decide) ?_
    exact END (-1) hT _ _ hP hD hS _ _ dX6_parameterAt_52
  · rw [if_neg c_1] at hT
    refine lv_iload_n hx hb dX6_parameterAt_4 rfl (lv_at hl 1 rfl) ?_
    refine lv_aload_n hx hb dX6_parameterAt_5 rfl (lv_at hl 0 rfl) ?_
    refine va_get (D := D) (ci := 8) (v := .ref (X 4)) (C := RX6) (T := TX6) (N := 10) hx hb hts iv_k_X6_parameterAt_X6 hown hK hP 0 rfl rfl 4 (by decide) (hts (.fieldLink RX6 21 "AnswerFold$Program" "timePart" "[I") (by decide +kernel)) (fun _ h9 => h9) rfl dX6_parameterAt_6 ?_
    refine va_alen (D := D) (v := 7) hx hb hK hP 1 0 rfl rfl (by first | decide | rfl) dX6_parameterAt_9 ?_
    refine lv_icmp_ge (tgt := 26) hx hb dX6_parameterAt_10 (by decide) (fun c_2 => ?_) (fun c_2 => ?_)
    · rw [if_pos c_2] at hT
      refine lv_iconst (v := 0) hx hb dX6_parameterAt_26 (by decide) ?_
      refine lv_istore_n (lv' := [(3, .int 0), (0, .ref (X 1)), (1, .int a1), (2, .int a2)]) hx hb dX6_parameterAt_27 rfl hl (by decide) rfl (fun ls hl => ?_)
      refine lv_iload_n hx hb dX6_parameterAt_28 rfl (lv_at hl 0 rfl) ?_
      refine lv_if_eq (tgt := 51) hx hb dX6_parameterAt_29 (by decide) (fun _ => ?_) (fun c0 => absurd (by decide) c0)
      refine lv_iconst (v := (-1)) hx hb dX6_parameterAt_51 (by decide) ?_
      exact END (-1) hT _ _ hP hD hS _ _ dX6_parameterAt_52
    · rw [if_neg c_2] at hT
      refine lv_iload_n hx hb dX6_parameterAt_13 rfl (lv_at hl 1 rfl) ?_
      refine lv_aload_n hx hb dX6_parameterAt_14 rfl (lv_at hl 0 rfl) ?_
      refine va_get (D := D) (ci := 8) (v := .ref (X 5)) (C := RX6) (T := TX6) (N := 10) hx hb hts iv_k_X6_parameterAt_X6 hown hK hP 0 rfl rfl 5 (by decide) (hts (.fieldLink RX6 24 "AnswerFold$Program" "timeParameter" "[I") (by decide +kernel)) (fun _ h9 => h9) rfl dX6_parameterAt_15 ?_
      refine va_alen (D := D) (v := 7) hx hb hK hP 2 0 rfl rfl (by first | decide | rfl) dX6_parameterAt_18 ?_
      refine lv_icmp_ge (tgt := 26) hx hb dX6_parameterAt_19 (by decide) (fun c0 => absurd c0 c_2) (fun _ => ?_)
      refine lv_iconst (v := 1) hx hb dX6_parameterAt_22 (by decide) ?_
      refine lv_goto (tgt := 27) hx hb dX6_parameterAt_23 (by decide) ?_
      refine lv_istore_n (lv' := [(3, .int 1), (0, .ref (X 1)), (1, .int a1), (2, .int a2)]) hx hb dX6_parameterAt_27 rfl hl (by decide) rfl (fun ls hl => ?_)
      refine lv_iload_n hx hb dX6_parameterAt_28 rfl (lv_at hl 0 rfl) ?_
      refine lv_if_eq (tgt := 51) hx hb dX6_parameterAt_29 (by decide) (fun c0 => absurd c0 (by decide)) (fun _ => ?_)
      refine lv_aload_n hx hb dX6_parameterAt_32 rfl (lv_at hl 1 rfl) ?_
      refine va_get (D := D) (ci := 8) (v := .ref (X 4)) (C := RX6) (T := TX6) (N := 10) hx hb hts iv_k_X6_parameterAt_X6 hown hK hP 0 rfl rfl 4 (by decide) (hts (.fieldLink RX6 21 "AnswerFold$Program" "timePart" "[I") (by decide +kernel)) (fun _ h9 => h9) rfl dX6_parameterAt_33 ?_
      refine lv_iload_n hx hb dX6_parameterAt_36 rfl (lv_at hl 2 rfl) ?_
      refine va_iald (D := D) hx hb hK hP 1 0 rfl rfl (wi_in (wi_lo c_1) (wi_hi c_2 (by decide))) dX6_parameterAt_37 ?_
      refine lv_iload_n hx hb dX6_parameterAt_38 rfl (lv_at hl 3 rfl) ?_
      refine lv_icmp_ne (tgt := 51) hx hb dX6_parameterAt_39 (by decide) (fun c_3 => ?_) (fun c_3 => ?_)
      · rw [if_neg c_3] at hT
        refine lv_iconst (v := (-1)) hx hb dX6_parameterAt_51 (by decide) ?_
        exact END (-1) hT _ _ hP hD hS _ _ dX6_parameterAt_52
      · rw [if_pos c_3] at hT
        refine lv_aload_n hx hb dX6_parameterAt_42 rfl (lv_at hl 1 rfl) ?_
        refine va_get (D := D) (ci := 8) (v := .ref (X 5)) (C := RX6) (T := TX6) (N := 10) hx hb hts iv_k_X6_parameterAt_X6 hown hK hP 0 rfl rfl 5 (by decide) (hts (.fieldLink RX6 24 "AnswerFold$Program" "timeParameter" "[I") (by decide +kernel)) (fun _ h9 => h9) rfl dX6_parameterAt_43 ?_
        refine lv_iload_n hx hb dX6_parameterAt_46 rfl (lv_at hl 2 rfl) ?_
        refine va_iald (D := D) hx hb hK hP 2 0 rfl rfl (wi_in (wi_lo c_1) (wi_hi c_2 (by decide))) dX6_parameterAt_47 ?_
        refine lv_goto (tgt := 52) hx hb dX6_parameterAt_48 (by decide) ?_
        exact END (tq a1.toNatClampNeg) hT _ _ hP hD hS _ _ dX6_parameterAt_52
theorem dX6_isGrounded_0 : decode cX6_isGrounded 0 = .ok (.iconst 0, 1) := by decide +kernel
theorem dX6_isGrounded_1 : decode cX6_isGrounded 1 = .ok (.istore_n 3, 1) := by decide +kernel
theorem dX6_isGrounded_2 : decode cX6_isGrounded 2 = .ok (.iload_n 3, 1) := by decide +kernel
theorem dX6_isGrounded_3 : decode cX6_isGrounded 3 = .ok (.aload_n 0, 1) := by decide +kernel
theorem dX6_isGrounded_4 : decode cX6_isGrounded 4 = .ok (.getfield 27, 3) := by decide +kernel
theorem dX6_isGrounded_7 : decode cX6_isGrounded 7 = .ok (.if_icmp .ge 21, 3) := by decide +kernel
theorem dX6_isGrounded_10 : decode cX6_isGrounded 10 = .ok (.aload_n 0, 1) := by decide +kernel
theorem dX6_isGrounded_11 : decode cX6_isGrounded 11 = .ok (.iload_n 3, 1) := by decide +kernel
theorem dX6_isGrounded_12 : decode cX6_isGrounded 12 = .ok (.iload_n 1, 1) := by decide +kernel
theorem dX6_isGrounded_13 : decode cX6_isGrounded 13 = .ok (.invokevirtual 48, 3) := by decide +kernel
theorem dX6_isGrounded_16 : decode cX6_isGrounded 16 = .ok (.iload_n 2, 1) := by decide +kernel
theorem dX6_isGrounded_17 : decode cX6_isGrounded 17 = .ok (.if_icmp .ne 5, 3) := by decide +kernel
theorem dX6_isGrounded_20 : decode cX6_isGrounded 20 = .ok (.iconst 1, 1) := by decide +kernel
theorem dX6_isGrounded_21 : decode cX6_isGrounded 21 = .ok (.ireturn, 1) := by decide +kernel
theorem dX6_isGrounded_22 : decode cX6_isGrounded 22 = .ok (.iinc 3 1, 3) := by decide +kernel
theorem dX6_isGrounded_25 : decode cX6_isGrounded 25 = .ok (.goto (-23), 3) := by decide +kernel
theorem dX6_isGrounded_28 : decode cX6_isGrounded 28 = .ok (.iconst 0, 1) := by decide +kernel
theorem dX6_isGrounded_29 : decode cX6_isGrounded 29 = .ok (.ireturn, 1) := by decide +kernel
def wW_k_X6_isGrounded (ty : Nat → ClassId) (X : Nat → Nat) (z9_0 : Int32) (z9_1 : Int32) (z9_2 : Int32) (z9_3 : Int32) (z9_4 : Nat → Int32) (z9_5 : Nat → Int32) : va_W := [((X 1), .inr (8, [.ref (X 2), .int z9_0, .ref (X 3), .int z9_1, .ref (X 4), .ref (X 5), .int z9_2, .ref (X 6), .ref (X 7), .int z9_3])), ((X 4), .inl (ty 0, 7, .inl z9_4)), ((X 5), .inl (ty 0, 7, .inl z9_5))]
def vs_k_X6_isGrounded : List Cond := .code yX6_isGrounded cX6_isGrounded 4 (some .boolean) :: ([.fieldLink RX6 27 "AnswerFold$Program" "timeCount" "I", .methodLink RX6 48 yX6_parameterAt, .instanceMethod yX6_parameterAt, .selects RX6 yX6_parameterAt yX6_parameterAt, .initialized RX6] ++ (u_ws RX6 TX6 10 ++ (vs_k_X6_parameterAt)))
theorem iv_k_X6_isGrounded_X6 : ∀ w ∈ u_ws RX6 TX6 10, w ∈ vs_k_X6_isGrounded := (fun _ h => List.mem_cons_of_mem _ (List.mem_append_right _ (List.mem_append_left _ h)))
set_option maxRecDepth 20000 in
theorem gv_k_X6_isGrounded_0 : GoodIn vs_k_X6_isGrounded (wsV RX6 48 RX6 yX6_parameterAt vs_k_X6_parameterAt) := goodIn_app (goodIn_sub (by decide +kernel) (by decide +kernel)) (goodIn_sub (fun _ h => List.mem_cons_of_mem _ (List.mem_append_right _ (List.mem_append_right _ (h)))) (by decide +kernel))
set_option maxHeartbeats 4000000 in
set_option maxRecDepth 100000 in
theorem k_X6_isGrounded (l : Launch) (D : va_G) (ty : Nat → ClassId) (td mi sz : Nat) (X : Nat → Nat) (pn : Int32) (rn : Int32) (tn : Int32) (en : Int32) (tp : Nat → Int32) (tq : Nat → Int32) (a1 : Int32) (a2 : Int32) (TT : r_k_X6_isGrounded) (hTT : TT = m_k_X6_isGrounded tn tp tq a1 a2) : Met l yX6_isGrounded vs_k_X6_isGrounded { frames := 1, cells := 0, slots := 0, locals := 23 } (va_Pc [.ref (X 1), .int a1, .int a2] (wq_P D ty td mi (wW_k_X6_isGrounded ty X pn rn tn en tp tq) sz)) (va_Qi (fun (r : Int32) (u : va_W) => (r = TT ∧ (TT = 0 ∨ TT = 1) ∧ (u = (wW_k_X6_isGrounded ty X pn rn tn en tp tq)))) (wq_B D (va_A (wW_k_X6_isGrounded ty X pn rn tn en tp tq) sz)) (va_A (wW_k_X6_isGrounded ty X pn rn tn en tp tq) sz)) 0 0 (va_A (wW_k_X6_isGrounded ty X pn rn tn en tp tq) sz) := by
  refine Met.ofW (cc := cX6_isGrounded) (maxL := 4) (ret := (some .boolean)) (by decide) rfl ?_
  intro p e s m args below meth c s₁ B hml hv
  obtain ⟨rfl, hsz, hP, hK, hD0, hE⟩ := hv
  have hx := B.exec
  have hb := B.bytes
  have hr := B.returns
  have hts := atoms_spec (ws := vs_k_X6_isGrounded) B.pre
  have hown : s.vm.findClass RX6 = some m.cls := findClass_of_methodNamed B.named
  have hlocks := B.notSynchronized
  subst hsz
  have hD := hD0.self (sz := s.heap.size)
  generalize hAe : va_A (wW_k_X6_isGrounded ty X pn rn tn en tp tq) s.heap.size = A at hD hE ⊢
  have hA : ∀ q : Nat, s.heap.size ≤ q → A q := fun q h => by rw [← hAe]; exact Or.inr h
  have hS : va_S A s.heap s.heap [] := va_S.rf
  have hP : va_P D vwCl (wW_k_X6_isGrounded ty X pn rn tn en tp tq) s.heap := hP
  have hl := lv_entry ([.ref (X 1), .int a1, .int a2]) (n := 4) (Nat.le_of_ble_eq_true rfl)
  rw [lg_entry_eq]
  generalize (lg_sl ([.ref (X 1), .int a1, .int a2]) ++ List.replicate (4 - (lg_sl ([.ref (X 1), .int a1, .int a2])).length) Slot.unset).toArray = ls at hl ⊢
  have hl : lv_has ls 4 [(0, .ref (X 1)), (1, .int a1), (2, .int a2)] := hl
  have END : ∀ (r : Int32), TT = r → (r = 0 ∨ r = 1) → ∀ (H : Heap) (locs : List Loc), va_P D vwCl (wW_k_X6_isGrounded ty X pn rn tn en tp tq) H → va_D A (wW_k_X6_isGrounded ty X pn rn tn en tp tq) → va_S A s.heap H locs → ∀ (ls : Array Slot) (pc : Nat), decode cX6_isGrounded pc = .ok (.ireturn, 1) → W p l e (headSpec vs_k_X6_isGrounded { frames := 1, cells := 0, slots := 0, locals := 23 }).room s m ([.ref (X 1), .int a1, .int a2] : List Value).toArray below meth c H locs 0 0 (MQ below (va_Qi (fun (r : Int32) (u : va_W) => (r = TT ∧ (TT = 0 ∨ TT = 1) ∧ (u = (wW_k_X6_isGrounded ty X pn rn tn en tp tq)))) (wq_B D A) A) ([.ref (X 1), .int a1, .int a2] : List Value).toArray s 0 0 A) (F0 m pc ls [.int r]) := by
    intro r hT hb01 H locs hP hD hS ls pc hd
    have hM : TT = r := hT
    exact W.zret (v := r) hx hb hr (wz_nar hb01) (fun t ht hW => ⟨⟨r, (wW_k_X6_isGrounded ty X pn rn tn en tp tq), rfl, ⟨(by rw [hM]), (by rw [hM]; exact hb01), rfl⟩, wq_B.of ht hP hD⟩, hS.F ht⟩) hS.2.2 hd
  have hT := hTT
  rw [m_k_X6_isGrounded] at hT
  refine lv_iconst (v := 0) hx hb dX6_isGrounded_0 (by decide) ?_
  refine lv_istore_n (lv' := [(3, .int 0), (0, .ref (X 1)), (1, .int a1), (2, .int a2)]) hx hb dX6_isGrounded_1 rfl hl (by decide) rfl (fun ls hl => ?_)
  have L_2 : ∀ (n_2 : Nat) (v3_2 : Int32), (2147483648 - v3_2.toInt).toNat < n_2 → TT = m_k_X6_isGrounded_2 tn tp tq a1 a2 n_2 v3_2 → 0 ≤ v3_2.toInt → ∀ (H : Heap) (locs : List Loc), va_P D vwCl (wW_k_X6_isGrounded ty X pn rn tn en tp tq) H → va_D A (wW_k_X6_isGrounded ty X pn rn tn en tp tq) → va_S A s.heap H locs → ∀ ls : Array Slot, lv_has ls 4 [(0, .ref (X 1)), (1, .int a1), (2, .int a2), (3, .int v3_2)] → W p l e (headSpec vs_k_X6_isGrounded { frames := 1, cells := 0, slots := 0, locals := 23 }).room s m ([.ref (X 1), .int a1, .int a2] : List Value).toArray below meth c H locs 0 0 (MQ below (va_Qi (fun (r : Int32) (u : va_W) => (r = TT ∧ (TT = 0 ∨ TT = 1) ∧ (u = (wW_k_X6_isGrounded ty X pn rn tn en tp tq)))) (wq_B D A) A) ([.ref (X 1), .int a1, .int a2] : List Value).toArray s 0 0 A) (F0 m 2 ls []) := by
    intro n_2
    induction n_2 with
    | zero => intro v3_2 hu; exact absurd hu (Nat.not_lt_zero _)
    | succ n_2 ih_2 =>
      intro v3_2 hu_2 hT hn_2 H locs hP hD hS ls hl
      rw [m_k_X6_isGrounded_2_succ, m_k_X6_isGrounded_2s] at hT
      refine lv_iload_n hx hb dX6_isGrounded_2 rfl (lv_at hl 3 rfl) ?_
      refine lv_aload_n hx hb dX6_isGrounded_3 rfl (lv_at hl 0 rfl) ?_
      refine va_get (D := D) (ci := 8) (v := .int tn) (C := RX6) (T := TX6) (N := 10) hx hb hts iv_k_X6_isGrounded_X6 hown hK hP 0 rfl rfl 6 (by decide) (hts (.fieldLink RX6 27 "AnswerFold$Program" "timeCount" "I") (by decide +kernel)) (fun _ h9 => h9) rfl dX6_isGrounded_4 ?_
      refine lv_icmp_ge (tgt := 28) hx hb dX6_isGrounded_7 (by decide) (fun c_1 => ?_) (fun c_1 => ?_)
      · rw [if_pos c_1] at hT
        refine lv_iconst (v := 0) hx hb dX6_isGrounded_28 (by decide) ?_
        exact END 0 hT (by decide) _ _ hP hD hS _ _ dX6_isGrounded_29
      · rw [if_neg c_1] at hT
        refine lv_aload_n hx hb dX6_isGrounded_10 rfl (lv_at hl 0 rfl) ?_
        refine lv_iload_n hx hb dX6_isGrounded_11 rfl (lv_at hl 3 rfl) ?_
        refine lv_iload_n hx hb dX6_isGrounded_12 rfl (lv_at hl 1 rfl) ?_
        obtain ⟨t_13, ht_13⟩ : ∃ t, t = m_k_X6_parameterAt tp tq v3_2 a1 := ⟨_, rfl⟩
        rw [lE_eq ht_13] at hT
        refine wq_iW (wc := (wW_k_X6_parameterAt ty X pn rn tn en tp tq)) (va_runV (As := [.int v3_2, .int a1]) (rest := []) ⟨hx, hb, hml, hown, hts⟩ (k_X6_parameterAt l D ty td mi H.size X pn rn tn en tp tq v3_2 a1 t_13 ht_13) (cwV 2 hts gv_k_X6_isGrounded_0 rfl rfl rfl (by decide +kernel) ⟨(Nat.le_of_ble_eq_true rfl), (Nat.le_of_ble_eq_true rfl)⟩) (wm_V (wm_preS hP hD hK hE hS hA [true, true, true] rfl) (va_recv (q0 := 0) (ci := 8) hK hP rfl rfl)) rfl rfl hl.1 rfl (lv_room (Nat.le_of_ble_eq_true rfl)) dX6_isGrounded_13 ⟨(Nat.le_of_ble_eq_true rfl), (Nat.le_of_ble_eq_true rfl)⟩) hS hA hP hD [true, true, true] rfl (fun _ _ h => by rcases h with ⟨-, rfl⟩; rfl) (fun r u H locs hw hP hD hS => ?_)
        obtain ⟨hr0, rfl⟩ := hw
        subst r
        have hP : va_P D vwCl (wW_k_X6_isGrounded ty X pn rn tn en tp tq) H := hP
        have hD : va_D A (wW_k_X6_isGrounded ty X pn rn tn en tp tq) := hD
        refine W.widen (k := 0) (n := 0) (Nat.le_of_ble_eq_true rfl) (Nat.le_of_ble_eq_true rfl) ?_
        refine lv_iload_n hx hb dX6_isGrounded_16 rfl (lv_at hl 2 rfl) ?_
        refine lv_icmp_ne (tgt := 22) hx hb dX6_isGrounded_17 (by decide) (fun c_4 => ?_) (fun c_4 => ?_)
        · rw [if_neg c_4] at hT
          refine lv_iinc (v := v3_2 + 1) (lv' := [(3, .int (v3_2 + 1)), (0, .ref (X 1)), (1, .int a1), (2, .int a2)]) hx hb dX6_isGrounded_22 hl (k := 3) rfl (by rfl) (by decide) rfl (fun ls hl => ?_)
          refine lv_goto (tgt := 2) hx hb dX6_isGrounded_25 (by decide) ?_
          exact ih_2 (v3_2 + 1) (wi_up hu_2 (Int32.not_le.mp c_1)) hT (wi_inc hn_2 (Int32.not_le.mp c_1)) _ _ hP hD hS _ (lv_sub hl [1, 2, 3, 0] rfl)
        · rw [if_pos c_4] at hT
          refine lv_iconst (v := 1) hx hb dX6_isGrounded_20 (by decide) ?_
          exact END 1 hT (by decide) _ _ hP hD hS _ _ dX6_isGrounded_21
  exact L_2 wF 0 (wF_up 0) hT (by decide) _ _ hP hD hS _ (lv_sub hl [1, 2, 3, 0] rfl)
theorem dX6_tellExternal_0 : decode cX6_tellExternal 0 = .ok (.aload_n 0, 1) := by decide +kernel
theorem dX6_tellExternal_1 : decode cX6_tellExternal 1 = .ok (.getfield 52, 3) := by decide +kernel
theorem dX6_tellExternal_4 : decode cX6_tellExternal 4 = .ok (.ifCond .lt 12, 3) := by decide +kernel
theorem dX6_tellExternal_7 : decode cX6_tellExternal 7 = .ok (.aload_n 0, 1) := by decide +kernel
theorem dX6_tellExternal_8 : decode cX6_tellExternal 8 = .ok (.getfield 52, 3) := by decide +kernel
theorem dX6_tellExternal_11 : decode cX6_tellExternal 11 = .ok (.bipush 6, 2) := by decide +kernel
theorem dX6_tellExternal_13 : decode cX6_tellExternal 13 = .ok (.if_icmp .lt 5, 3) := by decide +kernel
theorem dX6_tellExternal_16 : decode cX6_tellExternal 16 = .ok (.iconst (-1), 1) := by decide +kernel
theorem dX6_tellExternal_17 : decode cX6_tellExternal 17 = .ok (.ireturn, 1) := by decide +kernel
theorem dX6_tellExternal_18 : decode cX6_tellExternal 18 = .ok (.aload_n 0, 1) := by decide +kernel
theorem dX6_tellExternal_19 : decode cX6_tellExternal 19 = .ok (.getfield 31, 3) := by decide +kernel
theorem dX6_tellExternal_22 : decode cX6_tellExternal 22 = .ok (.aload_n 0, 1) := by decide +kernel
theorem dX6_tellExternal_23 : decode cX6_tellExternal 23 = .ok (.getfield 52, 3) := by decide +kernel
theorem dX6_tellExternal_26 : decode cX6_tellExternal 26 = .ok (.iload_n 1, 1) := by decide +kernel
theorem dX6_tellExternal_27 : decode cX6_tellExternal 27 = .ok (.iastore, 1) := by decide +kernel
theorem dX6_tellExternal_28 : decode cX6_tellExternal 28 = .ok (.aload_n 0, 1) := by decide +kernel
theorem dX6_tellExternal_29 : decode cX6_tellExternal 29 = .ok (.getfield 34, 3) := by decide +kernel
theorem dX6_tellExternal_32 : decode cX6_tellExternal 32 = .ok (.aload_n 0, 1) := by decide +kernel
theorem dX6_tellExternal_33 : decode cX6_tellExternal 33 = .ok (.getfield 52, 3) := by decide +kernel
theorem dX6_tellExternal_36 : decode cX6_tellExternal 36 = .ok (.bipush 102, 2) := by decide +kernel
theorem dX6_tellExternal_38 : decode cX6_tellExternal 38 = .ok (.castore, 1) := by decide +kernel
theorem dX6_tellExternal_39 : decode cX6_tellExternal 39 = .ok (.aload_n 0, 1) := by decide +kernel
theorem dX6_tellExternal_40 : decode cX6_tellExternal 40 = .ok (.dup, 1) := by decide +kernel
theorem dX6_tellExternal_41 : decode cX6_tellExternal 41 = .ok (.getfield 52, 3) := by decide +kernel
theorem dX6_tellExternal_44 : decode cX6_tellExternal 44 = .ok (.dup_x1, 1) := by decide +kernel
theorem dX6_tellExternal_45 : decode cX6_tellExternal 45 = .ok (.iconst 1, 1) := by decide +kernel
theorem dX6_tellExternal_46 : decode cX6_tellExternal 46 = .ok (.iadd, 1) := by decide +kernel
theorem dX6_tellExternal_47 : decode cX6_tellExternal 47 = .ok (.putfield 52, 3) := by decide +kernel
theorem dX6_tellExternal_50 : decode cX6_tellExternal 50 = .ok (.ireturn, 1) := by decide +kernel
def wW_k_X6_tellExternal (ty : Nat → ClassId) (X : Nat → Nat) (z9_0 : Int32) (z9_1 : Int32) (z9_2 : Int32) (z9_3 : Int32) (z9_4 : Nat → Int32) (z9_5 : Nat → Int32) : va_W := [((X 1), .inr (8, [.ref (X 2), .int z9_0, .ref (X 3), .int z9_1, .ref (X 4), .ref (X 5), .int z9_2, .ref (X 6), .ref (X 7), .int z9_3])), ((X 6), .inl (ty 0, 6, .inl z9_4)), ((X 7), .inl (ty 2, 6, .inl z9_5))]
def vs_k_X6_tellExternal : List Cond := .code yX6_tellExternal cX6_tellExternal 2 (some .int) :: ([.fieldLink RX6 52 "AnswerFold$Program" "externalCount" "I", .fieldLink RX6 31 "AnswerFold$Program" "externalAtom" "[I", .fieldLink RX6 34 "AnswerFold$Program" "externalState" "[C"] ++ (u_ws RX6 TX6 10))
theorem iv_k_X6_tellExternal_X6 : ∀ w ∈ u_ws RX6 TX6 10, w ∈ vs_k_X6_tellExternal := (fun _ h => List.mem_cons_of_mem _ (List.mem_append_right _ (h)))
set_option maxHeartbeats 4000000 in
set_option maxRecDepth 100000 in
theorem k_X6_tellExternal (l : Launch) (D : va_G) (ty : Nat → ClassId) (td mi sz : Nat) (X : Nat → Nat) (pn : Int32) (rn : Int32) (tn : Int32) (en : Int32) (ea : Nat → Int32) (es : Nat → Int32) (a1 : Int32) (TT : r_k_X6_tellExternal) (hTT : TT = m_k_X6_tellExternal en ea es a1) : Met l yX6_tellExternal vs_k_X6_tellExternal { frames := 0, cells := 0, slots := 0, locals := 0 } (va_Pc [.ref (X 1), .int a1] (wq_P D ty td mi (wW_k_X6_tellExternal ty X pn rn tn en ea es) sz)) (va_Qi (fun (r : Int32) (u : va_W) => (r = TT.1 ∧ (u = (wW_k_X6_tellExternal ty X pn rn tn TT.2.1 TT.2.2.1 TT.2.2.2)))) (wq_B D (va_A (wW_k_X6_tellExternal ty X pn rn tn en ea es) sz)) (va_A (wW_k_X6_tellExternal ty X pn rn tn en ea es) sz)) 0 0 (va_A (wW_k_X6_tellExternal ty X pn rn tn en ea es) sz) := by
  refine Met.ofW (cc := cX6_tellExternal) (maxL := 2) (ret := (some .int)) (by decide) rfl ?_
  intro p e s m args below meth c s₁ B hml hv
  obtain ⟨rfl, hsz, hP, hK, hD0, hE⟩ := hv
  have hx := B.exec
  have hb := B.bytes
  have hr := B.returns
  have hts := atoms_spec (ws := vs_k_X6_tellExternal) B.pre
  have hown : s.vm.findClass RX6 = some m.cls := findClass_of_methodNamed B.named
  have hlocks := B.notSynchronized
  subst hsz
  have hD := hD0.self (sz := s.heap.size)
  generalize hAe : va_A (wW_k_X6_tellExternal ty X pn rn tn en ea es) s.heap.size = A at hD hE ⊢
  have hA : ∀ q : Nat, s.heap.size ≤ q → A q := fun q h => by rw [← hAe]; exact Or.inr h
  have hS : va_S A s.heap s.heap [] := va_S.rf
  have hP : va_P D vwCl (wW_k_X6_tellExternal ty X pn rn tn en ea es) s.heap := hP
  have hl := lv_entry ([.ref (X 1), .int a1]) (n := 2) (Nat.le_of_ble_eq_true rfl)
  rw [lg_entry_eq]
  generalize (lg_sl ([.ref (X 1), .int a1]) ++ List.replicate (2 - (lg_sl ([.ref (X 1), .int a1])).length) Slot.unset).toArray = ls at hl ⊢
  have hl : lv_has ls 2 [(0, .ref (X 1)), (1, .int a1)] := hl
  have END : ∀ (r : Int32) (w9_0 : Int32) (w9_1 : Nat → Int32) (w9_2 : Nat → Int32), TT = (r, w9_0, w9_1, w9_2) → ∀ (H : Heap) (locs : List Loc), va_P D vwCl (wW_k_X6_tellExternal ty X pn rn tn w9_0 w9_1 w9_2) H → va_D A (wW_k_X6_tellExternal ty X pn rn tn w9_0 w9_1 w9_2) → va_S A s.heap H locs → ∀ (ls : Array Slot) (pc : Nat), decode cX6_tellExternal pc = .ok (.ireturn, 1) → W p l e (headSpec vs_k_X6_tellExternal { frames := 0, cells := 0, slots := 0, locals := 0 }).room s m ([.ref (X 1), .int a1] : List Value).toArray below meth c H locs 0 0 (MQ below (va_Qi (fun (r : Int32) (u : va_W) => (r = TT.1 ∧ (u = (wW_k_X6_tellExternal ty X pn rn tn TT.2.1 TT.2.2.1 TT.2.2.2)))) (wq_B D A) A) ([.ref (X 1), .int a1] : List Value).toArray s 0 0 A) (F0 m pc ls [.int r]) := by
    intro r w9_0 w9_1 w9_2 hT H locs hP hD hS ls pc hd
    have hM : TT = (r, w9_0, w9_1, w9_2) := hT
    exact W.iret (v := r) hx hb hr (fun t ht hW => ⟨⟨r, (wW_k_X6_tellExternal ty X pn rn tn w9_0 w9_1 w9_2), rfl, ⟨(by rw [hM]), (by rw [hM])⟩, wq_B.of ht hP hD⟩, hS.F ht⟩) hS.2.2 hd
  have hT := hTT
  rw [m_k_X6_tellExternal] at hT
  refine lv_aload_n hx hb dX6_tellExternal_0 rfl (lv_at hl 0 rfl) ?_
  refine va_get (D := D) (ci := 8) (v := .int en) (C := RX6) (T := TX6) (N := 10) hx hb hts iv_k_X6_tellExternal_X6 hown hK hP 0 rfl rfl 9 (by decide) (hts (.fieldLink RX6 52 "AnswerFold$Program" "externalCount" "I") (by decide +kernel)) (fun _ h9 => h9) rfl dX6_tellExternal_1 ?_
  refine lv_if_lt (tgt := 16) hx hb dX6_tellExternal_4 (by decide) (fun c_1 => ?_) (fun c_1 => ?_)
  · rw [if_pos c_1] at hT
    refine lv_iconst (v := (-1)) hx hb dX6_tellExternal_16 (by decide) ?_
    exact END (-1) en ea es hT _ _ hP hD hS _ _ dX6_tellExternal_17
  · rw [if_neg c_1] at hT
    refine lv_aload_n hx hb dX6_tellExternal_7 rfl (lv_at hl 0 rfl) ?_
    refine va_get (D := D) (ci := 8) (v := .int en) (C := RX6) (T := TX6) (N := 10) hx hb hts iv_k_X6_tellExternal_X6 hown hK hP 0 rfl rfl 9 (by decide) (hts (.fieldLink RX6 52 "AnswerFold$Program" "externalCount" "I") (by decide +kernel)) (fun _ h9 => h9) rfl dX6_tellExternal_8 ?_
    refine lv_bipush (v := 6) hx hb dX6_tellExternal_11 (by decide) ?_
    refine lv_icmp_lt (tgt := 18) hx hb dX6_tellExternal_13 (by decide) (fun c_2 => ?_) (fun c_2 => ?_)
    · rw [if_pos c_2] at hT
      refine lv_aload_n hx hb dX6_tellExternal_18 rfl (lv_at hl 0 rfl) ?_
      refine va_get (D := D) (ci := 8) (v := .ref (X 6)) (C := RX6) (T := TX6) (N := 10) hx hb hts iv_k_X6_tellExternal_X6 hown hK hP 0 rfl rfl 7 (by decide) (hts (.fieldLink RX6 31 "AnswerFold$Program" "externalAtom" "[I") (by decide +kernel)) (fun _ h9 => h9) rfl dX6_tellExternal_19 ?_
      refine lv_aload_n hx hb dX6_tellExternal_22 rfl (lv_at hl 0 rfl) ?_
      refine va_get (D := D) (ci := 8) (v := .int en) (C := RX6) (T := TX6) (N := 10) hx hb hts iv_k_X6_tellExternal_X6 hown hK hP 0 rfl rfl 9 (by decide) (hts (.fieldLink RX6 52 "AnswerFold$Program" "externalCount" "I") (by decide +kernel)) (fun _ h9 => h9) rfl dX6_tellExternal_23 ?_
      refine lv_iload_n hx hb dX6_tellExternal_26 rfl (lv_at hl 1 rfl) ?_
      refine va_iast (D := D) hx hb hK hP hD hS 1 0 rfl rfl (wi_in (wi_lo c_1) (wi_hi (Int32.not_le.mpr c_2) (by decide))) dX6_tellExternal_27 (fun H locs hP hD hS => ?_)
      have hP : va_P D vwCl (wW_k_X6_tellExternal ty X pn rn tn en (upd ea en.toNatClampNeg a1) es) H := hP
      have hD : va_D A (wW_k_X6_tellExternal ty X pn rn tn en (upd ea en.toNatClampNeg a1) es) := hD
      refine lv_aload_n hx hb dX6_tellExternal_28 rfl (lv_at hl 0 rfl) ?_
      refine va_get (D := D) (ci := 8) (v := .ref (X 7)) (C := RX6) (T := TX6) (N := 10) hx hb hts iv_k_X6_tellExternal_X6 hown hK hP 0 rfl rfl 8 (by decide) (hts (.fieldLink RX6 34 "AnswerFold$Program" "externalState" "[C") (by decide +kernel)) (fun _ h9 => h9) rfl dX6_tellExternal_29 ?_
      refine lv_aload_n hx hb dX6_tellExternal_32 rfl (lv_at hl 0 rfl) ?_
      refine va_get (D := D) (ci := 8) (v := .int en) (C := RX6) (T := TX6) (N := 10) hx hb hts iv_k_X6_tellExternal_X6 hown hK hP 0 rfl rfl 9 (by decide) (hts (.fieldLink RX6 52 "AnswerFold$Program" "externalCount" "I") (by decide +kernel)) (fun _ h9 => h9) rfl dX6_tellExternal_33 ?_
      refine lv_bipush (v := 102) hx hb dX6_tellExternal_36 (by decide) ?_
      refine va_cast (D := D) hx hb hK hP hD hS 2 2 rfl rfl (wi_in (wi_lo c_1) (wi_hi (Int32.not_le.mpr c_2) (by decide))) dX6_tellExternal_38 (fun H locs hP hD hS => ?_)
      have hP : va_P D vwCl (wW_k_X6_tellExternal ty X pn rn tn en (upd ea en.toNatClampNeg a1) (upd es en.toNatClampNeg (vp_nar .char 102))) H := hP
      have hD : va_D A (wW_k_X6_tellExternal ty X pn rn tn en (upd ea en.toNatClampNeg a1) (upd es en.toNatClampNeg (vp_nar .char 102))) := hD
      refine lv_aload_n hx hb dX6_tellExternal_39 rfl (lv_at hl 0 rfl) ?_
      refine lv_dup hx hb dX6_tellExternal_40 rfl ?_
      refine va_get (D := D) (ci := 8) (v := .int en) (C := RX6) (T := TX6) (N := 10) hx hb hts iv_k_X6_tellExternal_X6 hown hK hP 0 rfl rfl 9 (by decide) (hts (.fieldLink RX6 52 "AnswerFold$Program" "externalCount" "I") (by decide +kernel)) (fun _ h9 => h9) rfl dX6_tellExternal_41 ?_
      refine lv_dup_x1 hx hb dX6_tellExternal_44 rfl rfl ?_
      refine lv_iconst (v := 1) hx hb dX6_tellExternal_45 (by decide) ?_
      refine lv_iadd hx hb dX6_tellExternal_46 ?_
      refine va_put (D := D) (ci := 8) (v := .int (en + 1)) (ty := tyX6 9) (C := RX6) (T := TX6) (N := 10) hx hb hts iv_k_X6_tellExternal_X6 tyX6 tyX6_ok nmX6 hown hK hP hD hS 0 rfl rfl 9 (by decide) (hts (.fieldLink RX6 52 "AnswerFold$Program" "externalCount" "I") (by decide +kernel)) (fun _ h9 => h9) rfl (by decide +kernel) rfl rfl (Nat.le_of_ble_eq_true rfl) dX6_tellExternal_47 (fun H locs hP hD hS => ?_)
      have hP : va_P D vwCl (wW_k_X6_tellExternal ty X pn rn tn (en + 1) (upd ea en.toNatClampNeg a1) (upd es en.toNatClampNeg (vp_nar .char 102))) H := hP
      have hD : va_D A (wW_k_X6_tellExternal ty X pn rn tn (en + 1) (upd ea en.toNatClampNeg a1) (upd es en.toNatClampNeg (vp_nar .char 102))) := hD
      exact END en (en + 1) (upd ea en.toNatClampNeg a1) (upd es en.toNatClampNeg (vp_nar .char 102)) hT _ _ hP hD hS _ _ dX6_tellExternal_50
    · rw [if_neg c_2] at hT
      refine lv_iconst (v := (-1)) hx hb dX6_tellExternal_16 (by decide) ?_
      exact END (-1) en ea es hT _ _ hP hD hS _ _ dX6_tellExternal_17
theorem dX6_externalAtom_0 : decode cX6_externalAtom 0 = .ok (.iload_n 1, 1) := by decide +kernel
theorem dX6_externalAtom_1 : decode cX6_externalAtom 1 = .ok (.ifCond .lt 26, 3) := by decide +kernel
theorem dX6_externalAtom_4 : decode cX6_externalAtom 4 = .ok (.iload_n 1, 1) := by decide +kernel
theorem dX6_externalAtom_5 : decode cX6_externalAtom 5 = .ok (.aload_n 0, 1) := by decide +kernel
theorem dX6_externalAtom_6 : decode cX6_externalAtom 6 = .ok (.getfield 52, 3) := by decide +kernel
theorem dX6_externalAtom_9 : decode cX6_externalAtom 9 = .ok (.if_icmp .ge 18, 3) := by decide +kernel
theorem dX6_externalAtom_12 : decode cX6_externalAtom 12 = .ok (.iload_n 1, 1) := by decide +kernel
theorem dX6_externalAtom_13 : decode cX6_externalAtom 13 = .ok (.bipush 6, 2) := by decide +kernel
theorem dX6_externalAtom_15 : decode cX6_externalAtom 15 = .ok (.if_icmp .ge 12, 3) := by decide +kernel
theorem dX6_externalAtom_18 : decode cX6_externalAtom 18 = .ok (.aload_n 0, 1) := by decide +kernel
theorem dX6_externalAtom_19 : decode cX6_externalAtom 19 = .ok (.getfield 31, 3) := by decide +kernel
theorem dX6_externalAtom_22 : decode cX6_externalAtom 22 = .ok (.iload_n 1, 1) := by decide +kernel
theorem dX6_externalAtom_23 : decode cX6_externalAtom 23 = .ok (.iaload, 1) := by decide +kernel
theorem dX6_externalAtom_24 : decode cX6_externalAtom 24 = .ok (.goto 4, 3) := by decide +kernel
theorem dX6_externalAtom_27 : decode cX6_externalAtom 27 = .ok (.iconst (-1), 1) := by decide +kernel
theorem dX6_externalAtom_28 : decode cX6_externalAtom 28 = .ok (.ireturn, 1) := by decide +kernel
def wW_k_X6_externalAtom (ty : Nat → ClassId) (X : Nat → Nat) (z9_0 : Int32) (z9_1 : Int32) (z9_2 : Int32) (z9_3 : Int32) (z9_4 : Nat → Int32) : va_W := [((X 1), .inr (8, [.ref (X 2), .int z9_0, .ref (X 3), .int z9_1, .ref (X 4), .ref (X 5), .int z9_2, .ref (X 6), .ref (X 7), .int z9_3])), ((X 6), .inl (ty 0, 6, .inl z9_4))]
def vs_k_X6_externalAtom : List Cond := .code yX6_externalAtom cX6_externalAtom 2 (some .int) :: ([.fieldLink RX6 52 "AnswerFold$Program" "externalCount" "I", .fieldLink RX6 31 "AnswerFold$Program" "externalAtom" "[I"] ++ (u_ws RX6 TX6 10))
theorem iv_k_X6_externalAtom_X6 : ∀ w ∈ u_ws RX6 TX6 10, w ∈ vs_k_X6_externalAtom := (fun _ h => List.mem_cons_of_mem _ (List.mem_append_right _ (h)))
set_option maxHeartbeats 4000000 in
set_option maxRecDepth 100000 in
theorem k_X6_externalAtom (l : Launch) (D : va_G) (ty : Nat → ClassId) (td mi sz : Nat) (X : Nat → Nat) (pn : Int32) (rn : Int32) (tn : Int32) (en : Int32) (ea : Nat → Int32) (a1 : Int32) (TT : r_k_X6_externalAtom) (hTT : TT = m_k_X6_externalAtom en ea a1) : Met l yX6_externalAtom vs_k_X6_externalAtom { frames := 0, cells := 0, slots := 0, locals := 0 } (va_Pc [.ref (X 1), .int a1] (wq_P D ty td mi (wW_k_X6_externalAtom ty X pn rn tn en ea) sz)) (va_Qi (fun (r : Int32) (u : va_W) => (r = TT ∧ (u = (wW_k_X6_externalAtom ty X pn rn tn en ea)))) (wq_B D (va_A (wW_k_X6_externalAtom ty X pn rn tn en ea) sz)) (va_A (wW_k_X6_externalAtom ty X pn rn tn en ea) sz)) 0 0 (va_A (wW_k_X6_externalAtom ty X pn rn tn en ea) sz) := by
  refine Met.ofW (cc := cX6_externalAtom) (maxL := 2) (ret := (some .int)) (by decide) rfl ?_
  intro p e s m args below meth c s₁ B hml hv
  obtain ⟨rfl, hsz, hP, hK, hD0, hE⟩ := hv
  have hx := B.exec
  have hb := B.bytes
  have hr := B.returns
  have hts := atoms_spec (ws := vs_k_X6_externalAtom) B.pre
  have hown : s.vm.findClass RX6 = some m.cls := findClass_of_methodNamed B.named
  have hlocks := B.notSynchronized
  subst hsz
  have hD := hD0.self (sz := s.heap.size)
  generalize hAe : va_A (wW_k_X6_externalAtom ty X pn rn tn en ea) s.heap.size = A at hD hE ⊢
  have hA : ∀ q : Nat, s.heap.size ≤ q → A q := fun q h => by rw [← hAe]; exact Or.inr h
  have hS : va_S A s.heap s.heap [] := va_S.rf
  have hP : va_P D vwCl (wW_k_X6_externalAtom ty X pn rn tn en ea) s.heap := hP
  have hl := lv_entry ([.ref (X 1), .int a1]) (n := 2) (Nat.le_of_ble_eq_true rfl)
  rw [lg_entry_eq]
  generalize (lg_sl ([.ref (X 1), .int a1]) ++ List.replicate (2 - (lg_sl ([.ref (X 1), .int a1])).length) Slot.unset).toArray = ls at hl ⊢
  have hl : lv_has ls 2 [(0, .ref (X 1)), (1, .int a1)] := hl
  have END : ∀ (r : Int32), TT = r → ∀ (H : Heap) (locs : List Loc), va_P D vwCl (wW_k_X6_externalAtom ty X pn rn tn en ea) H → va_D A (wW_k_X6_externalAtom ty X pn rn tn en ea) → va_S A s.heap H locs → ∀ (ls : Array Slot) (pc : Nat), decode cX6_externalAtom pc = .ok (.ireturn, 1) → W p l e (headSpec vs_k_X6_externalAtom { frames := 0, cells := 0, slots := 0, locals := 0 }).room s m ([.ref (X 1), .int a1] : List Value).toArray below meth c H locs 0 0 (MQ below (va_Qi (fun (r : Int32) (u : va_W) => (r = TT ∧ (u = (wW_k_X6_externalAtom ty X pn rn tn en ea)))) (wq_B D A) A) ([.ref (X 1), .int a1] : List Value).toArray s 0 0 A) (F0 m pc ls [.int r]) := by
    intro r hT H locs hP hD hS ls pc hd
    have hM : TT = r := hT
    exact W.iret (v := r) hx hb hr (fun t ht hW => ⟨⟨r, (wW_k_X6_externalAtom ty X pn rn tn en ea), rfl, ⟨(by rw [hM]), rfl⟩, wq_B.of ht hP hD⟩, hS.F ht⟩) hS.2.2 hd
  have hT := hTT
  rw [m_k_X6_externalAtom] at hT
  refine lv_iload_n hx hb dX6_externalAtom_0 rfl (lv_at hl 1 rfl) ?_
  refine lv_if_lt (tgt := 27) hx hb dX6_externalAtom_1 (by decide) (fun c_1 => ?_) (fun c_1 => ?_)
  · rw [if_pos c_1] at hT
    refine lv_iconst (v := (-1)) hx hb dX6_externalAtom_27 (by decide) ?_
    exact END (-1) hT _ _ hP hD hS _ _ dX6_externalAtom_28
  · rw [if_neg c_1] at hT
    refine lv_iload_n hx hb dX6_externalAtom_4 rfl (lv_at hl 1 rfl) ?_
    refine lv_aload_n hx hb dX6_externalAtom_5 rfl (lv_at hl 0 rfl) ?_
    refine va_get (D := D) (ci := 8) (v := .int en) (C := RX6) (T := TX6) (N := 10) hx hb hts iv_k_X6_externalAtom_X6 hown hK hP 0 rfl rfl 9 (by decide) (hts (.fieldLink RX6 52 "AnswerFold$Program" "externalCount" "I") (by decide +kernel)) (fun _ h9 => h9) rfl dX6_externalAtom_6 ?_
    refine lv_icmp_ge (tgt := 27) hx hb dX6_externalAtom_9 (by decide) (fun c_2 => ?_) (fun c_2 => ?_)
    · rw [if_pos c_2] at hT
      refine lv_iconst (v := (-1)) hx hb dX6_externalAtom_27 (by decide) ?_
      exact END (-1) hT _ _ hP hD hS _ _ dX6_externalAtom_28
    · rw [if_neg c_2] at hT
      refine lv_iload_n hx hb dX6_externalAtom_12 rfl (lv_at hl 1 rfl) ?_
      refine lv_bipush (v := 6) hx hb dX6_externalAtom_13 (by decide) ?_
      refine lv_icmp_ge (tgt := 27) hx hb dX6_externalAtom_15 (by decide) (fun c_3 => ?_) (fun c_3 => ?_)
      · rw [if_pos c_3] at hT
        refine lv_iconst (v := (-1)) hx hb dX6_externalAtom_27 (by decide) ?_
        exact END (-1) hT _ _ hP hD hS _ _ dX6_externalAtom_28
      · rw [if_neg c_3] at hT
        refine lv_aload_n hx hb dX6_externalAtom_18 rfl (lv_at hl 0 rfl) ?_
        refine va_get (D := D) (ci := 8) (v := .ref (X 6)) (C := RX6) (T := TX6) (N := 10) hx hb hts iv_k_X6_externalAtom_X6 hown hK hP 0 rfl rfl 7 (by decide) (hts (.fieldLink RX6 31 "AnswerFold$Program" "externalAtom" "[I") (by decide +kernel)) (fun _ h9 => h9) rfl dX6_externalAtom_19 ?_
        refine lv_iload_n hx hb dX6_externalAtom_22 rfl (lv_at hl 1 rfl) ?_
        refine va_iald (D := D) hx hb hK hP 1 0 rfl rfl (wi_in (wi_lo c_1) (wi_hi c_3 (by decide))) dX6_externalAtom_23 ?_
        refine lv_goto (tgt := 28) hx hb dX6_externalAtom_24 (by decide) ?_
        exact END (ea a1.toNatClampNeg) hT _ _ hP hD hS _ _ dX6_externalAtom_28
theorem dX6_externalState_0 : decode cX6_externalState 0 = .ok (.iload_n 1, 1) := by decide +kernel
theorem dX6_externalState_1 : decode cX6_externalState 1 = .ok (.ifCond .lt 26, 3) := by decide +kernel
theorem dX6_externalState_4 : decode cX6_externalState 4 = .ok (.iload_n 1, 1) := by decide +kernel
theorem dX6_externalState_5 : decode cX6_externalState 5 = .ok (.aload_n 0, 1) := by decide +kernel
theorem dX6_externalState_6 : decode cX6_externalState 6 = .ok (.getfield 52, 3) := by decide +kernel
theorem dX6_externalState_9 : decode cX6_externalState 9 = .ok (.if_icmp .ge 18, 3) := by decide +kernel
theorem dX6_externalState_12 : decode cX6_externalState 12 = .ok (.iload_n 1, 1) := by decide +kernel
theorem dX6_externalState_13 : decode cX6_externalState 13 = .ok (.bipush 6, 2) := by decide +kernel
theorem dX6_externalState_15 : decode cX6_externalState 15 = .ok (.if_icmp .ge 12, 3) := by decide +kernel
theorem dX6_externalState_18 : decode cX6_externalState 18 = .ok (.aload_n 0, 1) := by decide +kernel
theorem dX6_externalState_19 : decode cX6_externalState 19 = .ok (.getfield 34, 3) := by decide +kernel
theorem dX6_externalState_22 : decode cX6_externalState 22 = .ok (.iload_n 1, 1) := by decide +kernel
theorem dX6_externalState_23 : decode cX6_externalState 23 = .ok (.caload, 1) := by decide +kernel
theorem dX6_externalState_24 : decode cX6_externalState 24 = .ok (.goto 5, 3) := by decide +kernel
theorem dX6_externalState_27 : decode cX6_externalState 27 = .ok (.bipush 114, 2) := by decide +kernel
theorem dX6_externalState_29 : decode cX6_externalState 29 = .ok (.ireturn, 1) := by decide +kernel
def wW_k_X6_externalState (ty : Nat → ClassId) (X : Nat → Nat) (z9_0 : Int32) (z9_1 : Int32) (z9_2 : Int32) (z9_3 : Int32) (z9_4 : Nat → Int32) : va_W := [((X 1), .inr (8, [.ref (X 2), .int z9_0, .ref (X 3), .int z9_1, .ref (X 4), .ref (X 5), .int z9_2, .ref (X 6), .ref (X 7), .int z9_3])), ((X 7), .inl (ty 2, 6, .inl z9_4))]
def vs_k_X6_externalState : List Cond := .code yX6_externalState cX6_externalState 2 (some .char) :: ([.fieldLink RX6 52 "AnswerFold$Program" "externalCount" "I", .fieldLink RX6 34 "AnswerFold$Program" "externalState" "[C"] ++ (u_ws RX6 TX6 10))
theorem iv_k_X6_externalState_X6 : ∀ w ∈ u_ws RX6 TX6 10, w ∈ vs_k_X6_externalState := (fun _ h => List.mem_cons_of_mem _ (List.mem_append_right _ (h)))
set_option maxHeartbeats 4000000 in
set_option maxRecDepth 100000 in
theorem k_X6_externalState (l : Launch) (D : va_G) (ty : Nat → ClassId) (td mi sz : Nat) (X : Nat → Nat) (pn : Int32) (rn : Int32) (tn : Int32) (en : Int32) (es : Nat → Int32) (a1 : Int32) (hch : ∀ i : Nat, narrow .char (.int (es i)) = .int (es i)) (TT : r_k_X6_externalState) (hTT : TT = m_k_X6_externalState en es a1) : Met l yX6_externalState vs_k_X6_externalState { frames := 0, cells := 0, slots := 0, locals := 0 } (va_Pc [.ref (X 1), .int a1] (wq_P D ty td mi (wW_k_X6_externalState ty X pn rn tn en es) sz)) (va_Qi (fun (r : Int32) (u : va_W) => (r = TT ∧ (u = (wW_k_X6_externalState ty X pn rn tn en es)))) (wq_B D (va_A (wW_k_X6_externalState ty X pn rn tn en es) sz)) (va_A (wW_k_X6_externalState ty X pn rn tn en es) sz)) 0 0 (va_A (wW_k_X6_externalState ty X pn rn tn en es) sz) := by
  refine Met.ofW (cc := cX6_externalState) (maxL := 2) (ret := (some .char)) (by decide) rfl ?_
  intro p e s m args below meth c s₁ B hml hv
  obtain ⟨rfl, hsz, hP, hK, hD0, hE⟩ := hv
  have hx := B.exec
  have hb := B.bytes
  have hr := B.returns
  have hts := atoms_spec (ws := vs_k_X6_externalState) B.pre
  have hown : s.vm.findClass RX6 = some m.cls := findClass_of_methodNamed B.named
  have hlocks := B.notSynchronized
  subst hsz
  have hD := hD0.self (sz := s.heap.size)
  generalize hAe : va_A (wW_k_X6_externalState ty X pn rn tn en es) s.heap.size = A at hD hE ⊢
  have hA : ∀ q : Nat, s.heap.size ≤ q → A q := fun q h => by rw [← hAe]; exact Or.inr h
  have hS : va_S A s.heap s.heap [] := va_S.rf
  have hP : va_P D vwCl (wW_k_X6_externalState ty X pn rn tn en es) s.heap := hP
  have hl := lv_entry ([.ref (X 1), .int a1]) (n := 2) (Nat.le_of_ble_eq_true rfl)
  rw [lg_entry_eq]
  generalize (lg_sl ([.ref (X 1), .int a1]) ++ List.replicate (2 - (lg_sl ([.ref (X 1), .int a1])).length) Slot.unset).toArray = ls at hl ⊢
  have hl : lv_has ls 2 [(0, .ref (X 1)), (1, .int a1)] := hl
  have END : ∀ (r : Int32), TT = r → narrow .char (.int r) = .int r → ∀ (H : Heap) (locs : List Loc), va_P D vwCl (wW_k_X6_externalState ty X pn rn tn en es) H → va_D A (wW_k_X6_externalState ty X pn rn tn en es) → va_S A s.heap H locs → ∀ (ls : Array Slot) (pc : Nat), decode cX6_externalState pc = .ok (.ireturn, 1) → W p l e (headSpec vs_k_X6_externalState { frames := 0, cells := 0, slots := 0, locals := 0 }).room s m ([.ref (X 1), .int a1] : List Value).toArray below meth c H locs 0 0 (MQ below (va_Qi (fun (r : Int32) (u : va_W) => (r = TT ∧ (u = (wW_k_X6_externalState ty X pn rn tn en es)))) (wq_B D A) A) ([.ref (X 1), .int a1] : List Value).toArray s 0 0 A) (F0 m pc ls [.int r]) := by
    intro r hT hb01 H locs hP hD hS ls pc hd
    have hM : TT = r := hT
    exact W.zret (v := r) hx hb hr hb01 (fun t ht hW => ⟨⟨r, (wW_k_X6_externalState ty X pn rn tn en es), rfl, ⟨(by rw [hM]), rfl⟩, wq_B.of ht hP hD⟩, hS.F ht⟩) hS.2.2 hd
  have hT := hTT
  rw [m_k_X6_externalState] at hT
  refine lv_iload_n hx hb dX6_externalState_0 rfl (lv_at hl 1 rfl) ?_
  have J_27 : ∀ (_ : Unit), TT = m_k_X6_externalState_27 → ∀ (H : Heap) (locs : List Loc), va_P D vwCl (wW_k_X6_externalState ty X pn rn tn en es) H → va_D A (wW_k_X6_externalState ty X pn rn tn en es) → va_S A s.heap H locs → ∀ ls : Array Slot, lv_has ls 2 [] → W p l e (headSpec vs_k_X6_externalState { frames := 0, cells := 0, slots := 0, locals := 0 }).room s m ([.ref (X 1), .int a1] : List Value).toArray below meth c H locs 0 0 (MQ below (va_Qi (fun (r : Int32) (u : va_W) => (r = TT ∧ (u = (wW_k_X6_externalState ty X pn rn tn en es)))) (wq_B D A) A) ([.ref (X 1), .int a1] : List Value).toArray s 0 0 A) (F0 m 27 ls []) := by
    intro _ hT  H locs hP hD hS ls hl
    rw [m_k_X6_externalState_27] at hT
    refine lv_bipush (v := 114) hx hb dX6_externalState_27 (by decide) ?_
    exact END 114 hT rfl _ _ hP hD hS _ _ dX6_externalState_29
  refine lv_if_lt (tgt := 27) hx hb dX6_externalState_1 (by decide) (fun c_1 => ?_) (fun c_1 => ?_)
  · rw [if_pos c_1] at hT
    exact J_27 () hT _ _ hP hD hS _ (lv_sub hl [] rfl)
  · rw [if_neg c_1] at hT
    refine lv_iload_n hx hb dX6_externalState_4 rfl (lv_at hl 1 rfl) ?_
    refine lv_aload_n hx hb dX6_externalState_5 rfl (lv_at hl 0 rfl) ?_
    refine va_get (D := D) (ci := 8) (v := .int en) (C := RX6) (T := TX6) (N := 10) hx hb hts iv_k_X6_externalState_X6 hown hK hP 0 rfl rfl 9 (by decide) (hts (.fieldLink RX6 52 "AnswerFold$Program" "externalCount" "I") (by decide +kernel)) (fun _ h9 => h9) rfl dX6_externalState_6 ?_
    refine lv_icmp_ge (tgt := 27) hx hb dX6_externalState_9 (by decide) (fun c_2 => ?_) (fun c_2 => ?_)
    · rw [if_pos c_2] at hT
      exact J_27 () hT _ _ hP hD hS _ (lv_sub hl [] rfl)
    · rw [if_neg c_2] at hT
      refine lv_iload_n hx hb dX6_externalState_12 rfl (lv_at hl 1 rfl) ?_
      refine lv_bipush (v := 6) hx hb dX6_externalState_13 (by decide) ?_
      refine lv_icmp_ge (tgt := 27) hx hb dX6_externalState_15 (by decide) (fun c_3 => ?_) (fun c_3 => ?_)
      · rw [if_pos c_3] at hT
        exact J_27 () hT _ _ hP hD hS _ (lv_sub hl [] rfl)
      · rw [if_neg c_3] at hT
        refine lv_aload_n hx hb dX6_externalState_18 rfl (lv_at hl 0 rfl) ?_
        refine va_get (D := D) (ci := 8) (v := .ref (X 7)) (C := RX6) (T := TX6) (N := 10) hx hb hts iv_k_X6_externalState_X6 hown hK hP 0 rfl rfl 8 (by decide) (hts (.fieldLink RX6 34 "AnswerFold$Program" "externalState" "[C") (by decide +kernel)) (fun _ h9 => h9) rfl dX6_externalState_19 ?_
        refine lv_iload_n hx hb dX6_externalState_22 rfl (lv_at hl 1 rfl) ?_
        refine va_cald (D := D) hx hb hK hP 1 2 rfl rfl (wi_in (wi_lo c_1) (wi_hi c_3 (by decide))) dX6_externalState_23 ?_
        refine lv_goto (tgt := 29) hx hb dX6_externalState_24 (by decide) ?_
        exact END (es a1.toNatClampNeg) hT (hch _) _ _ hP hD hS _ _ dX6_externalState_29
theorem dX6_externalOf_0 : decode cX6_externalOf 0 = .ok (.iconst 0, 1) := by decide +kernel
theorem dX6_externalOf_1 : decode cX6_externalOf 1 = .ok (.istore_n 2, 1) := by decide +kernel
theorem dX6_externalOf_2 : decode cX6_externalOf 2 = .ok (.iload_n 2, 1) := by decide +kernel
theorem dX6_externalOf_3 : decode cX6_externalOf 3 = .ok (.aload_n 0, 1) := by decide +kernel
theorem dX6_externalOf_4 : decode cX6_externalOf 4 = .ok (.getfield 52, 3) := by decide +kernel
theorem dX6_externalOf_7 : decode cX6_externalOf 7 = .ok (.if_icmp .ge 20, 3) := by decide +kernel
theorem dX6_externalOf_10 : decode cX6_externalOf 10 = .ok (.aload_n 0, 1) := by decide +kernel
theorem dX6_externalOf_11 : decode cX6_externalOf 11 = .ok (.iload_n 2, 1) := by decide +kernel
theorem dX6_externalOf_12 : decode cX6_externalOf 12 = .ok (.invokevirtual 55, 3) := by decide +kernel
theorem dX6_externalOf_15 : decode cX6_externalOf 15 = .ok (.iload_n 1, 1) := by decide +kernel
theorem dX6_externalOf_16 : decode cX6_externalOf 16 = .ok (.if_icmp .ne 5, 3) := by decide +kernel
theorem dX6_externalOf_19 : decode cX6_externalOf 19 = .ok (.iload_n 2, 1) := by decide +kernel
theorem dX6_externalOf_20 : decode cX6_externalOf 20 = .ok (.ireturn, 1) := by decide +kernel
theorem dX6_externalOf_21 : decode cX6_externalOf 21 = .ok (.iinc 2 1, 3) := by decide +kernel
theorem dX6_externalOf_24 : decode cX6_externalOf 24 = .ok (.goto (-22), 3) := by decide +kernel
theorem dX6_externalOf_27 : decode cX6_externalOf 27 = .ok (.iconst (-1), 1) := by decide +kernel
theorem dX6_externalOf_28 : decode cX6_externalOf 28 = .ok (.ireturn, 1) := by decide +kernel
def wW_k_X6_externalOf (ty : Nat → ClassId) (X : Nat → Nat) (z9_0 : Int32) (z9_1 : Int32) (z9_2 : Int32) (z9_3 : Int32) (z9_4 : Nat → Int32) : va_W := [((X 1), .inr (8, [.ref (X 2), .int z9_0, .ref (X 3), .int z9_1, .ref (X 4), .ref (X 5), .int z9_2, .ref (X 6), .ref (X 7), .int z9_3])), ((X 6), .inl (ty 0, 6, .inl z9_4))]
def vs_k_X6_externalOf : List Cond := .code yX6_externalOf cX6_externalOf 3 (some .int) :: ([.fieldLink RX6 52 "AnswerFold$Program" "externalCount" "I", .methodLink RX6 55 yX6_externalAtom, .instanceMethod yX6_externalAtom, .selects RX6 yX6_externalAtom yX6_externalAtom, .initialized RX6] ++ (u_ws RX6 TX6 10 ++ (vs_k_X6_externalAtom)))
theorem iv_k_X6_externalOf_X6 : ∀ w ∈ u_ws RX6 TX6 10, w ∈ vs_k_X6_externalOf := (fun _ h => List.mem_cons_of_mem _ (List.mem_append_right _ (List.mem_append_left _ h)))
set_option maxRecDepth 20000 in
theorem gv_k_X6_externalOf_0 : GoodIn vs_k_X6_externalOf (wsV RX6 55 RX6 yX6_externalAtom vs_k_X6_externalAtom) := goodIn_app (goodIn_sub (by decide +kernel) (by decide +kernel)) (goodIn_sub (fun _ h => List.mem_cons_of_mem _ (List.mem_append_right _ (List.mem_append_right _ (h)))) (by decide +kernel))
set_option maxHeartbeats 4000000 in
set_option maxRecDepth 100000 in
theorem k_X6_externalOf (l : Launch) (D : va_G) (ty : Nat → ClassId) (td mi sz : Nat) (X : Nat → Nat) (pn : Int32) (rn : Int32) (tn : Int32) (en : Int32) (ea : Nat → Int32) (a1 : Int32) (TT : r_k_X6_externalOf) (hTT : TT = m_k_X6_externalOf en ea a1) : Met l yX6_externalOf vs_k_X6_externalOf { frames := 1, cells := 0, slots := 0, locals := 21 } (va_Pc [.ref (X 1), .int a1] (wq_P D ty td mi (wW_k_X6_externalOf ty X pn rn tn en ea) sz)) (va_Qi (fun (r : Int32) (u : va_W) => (r = TT ∧ (u = (wW_k_X6_externalOf ty X pn rn tn en ea)))) (wq_B D (va_A (wW_k_X6_externalOf ty X pn rn tn en ea) sz)) (va_A (wW_k_X6_externalOf ty X pn rn tn en ea) sz)) 0 0 (va_A (wW_k_X6_externalOf ty X pn rn tn en ea) sz) := by
  refine Met.ofW (cc := cX6_externalOf) (maxL := 3) (ret := (some .int)) (by decide) rfl ?_
  intro p e s m args below meth c s₁ B hml hv
  obtain ⟨rfl, hsz, hP, hK, hD0, hE⟩ := hv
  have hx := B.exec
  have hb := B.bytes
  have hr := B.returns
  have hts := atoms_spec (ws := vs_k_X6_externalOf) B.pre
  have hown : s.vm.findClass RX6 = some m.cls := findClass_of_methodNamed B.named
  have hlocks := B.notSynchronized
  subst hsz
  have hD := hD0.self (sz := s.heap.size)
  generalize hAe : va_A (wW_k_X6_externalOf ty X pn rn tn en ea) s.heap.size = A at hD hE ⊢
  have hA : ∀ q : Nat, s.heap.size ≤ q → A q := fun q h => by rw [← hAe]; exact Or.inr h
  have hS : va_S A s.heap s.heap [] := va_S.rf
  have hP : va_P D vwCl (wW_k_X6_externalOf ty X pn rn tn en ea) s.heap := hP
  have hl := lv_entry ([.ref (X 1), .int a1]) (n := 3) (Nat.le_of_ble_eq_true rfl)
  rw [lg_entry_eq]
  generalize (lg_sl ([.ref (X 1), .int a1]) ++ List.replicate (3 - (lg_sl ([.ref (X 1), .int a1])).length) Slot.unset).toArray = ls at hl ⊢
  have hl : lv_has ls 3 [(0, .ref (X 1)), (1, .int a1)] := hl
  have END : ∀ (r : Int32), TT = r → ∀ (H : Heap) (locs : List Loc), va_P D vwCl (wW_k_X6_externalOf ty X pn rn tn en ea) H → va_D A (wW_k_X6_externalOf ty X pn rn tn en ea) → va_S A s.heap H locs → ∀ (ls : Array Slot) (pc : Nat), decode cX6_externalOf pc = .ok (.ireturn, 1) → W p l e (headSpec vs_k_X6_externalOf { frames := 1, cells := 0, slots := 0, locals := 21 }).room s m ([.ref (X 1), .int a1] : List Value).toArray below meth c H locs 0 0 (MQ below (va_Qi (fun (r : Int32) (u : va_W) => (r = TT ∧ (u = (wW_k_X6_externalOf ty X pn rn tn en ea)))) (wq_B D A) A) ([.ref (X 1), .int a1] : List Value).toArray s 0 0 A) (F0 m pc ls [.int r]) := by
    intro r hT H locs hP hD hS ls pc hd
    have hM : TT = r := hT
    exact W.iret (v := r) hx hb hr (fun t ht hW => ⟨⟨r, (wW_k_X6_externalOf ty X pn rn tn en ea), rfl, ⟨(by rw [hM]), rfl⟩, wq_B.of ht hP hD⟩, hS.F ht⟩) hS.2.2 hd
  have hT := hTT
  rw [m_k_X6_externalOf] at hT
  refine lv_iconst (v := 0) hx hb dX6_externalOf_0 (by decide) ?_
  refine lv_istore_n (lv' := [(2, .int 0), (0, .ref (X 1)), (1, .int a1)]) hx hb dX6_externalOf_1 rfl hl (by decide) rfl (fun ls hl => ?_)
  have L_2 : ∀ (n_2 : Nat) (v2_2 : Int32), (2147483648 - v2_2.toInt).toNat < n_2 → TT = m_k_X6_externalOf_2 en ea a1 n_2 v2_2 → 0 ≤ v2_2.toInt → ∀ (H : Heap) (locs : List Loc), va_P D vwCl (wW_k_X6_externalOf ty X pn rn tn en ea) H → va_D A (wW_k_X6_externalOf ty X pn rn tn en ea) → va_S A s.heap H locs → ∀ ls : Array Slot, lv_has ls 3 [(0, .ref (X 1)), (1, .int a1), (2, .int v2_2)] → W p l e (headSpec vs_k_X6_externalOf { frames := 1, cells := 0, slots := 0, locals := 21 }).room s m ([.ref (X 1), .int a1] : List Value).toArray below meth c H locs 0 0 (MQ below (va_Qi (fun (r : Int32) (u : va_W) => (r = TT ∧ (u = (wW_k_X6_externalOf ty X pn rn tn en ea)))) (wq_B D A) A) ([.ref (X 1), .int a1] : List Value).toArray s 0 0 A) (F0 m 2 ls []) := by
    intro n_2
    induction n_2 with
    | zero => intro v2_2 hu; exact absurd hu (Nat.not_lt_zero _)
    | succ n_2 ih_2 =>
      intro v2_2 hu_2 hT hn_2 H locs hP hD hS ls hl
      rw [m_k_X6_externalOf_2_succ, m_k_X6_externalOf_2s] at hT
      refine lv_iload_n hx hb dX6_externalOf_2 rfl (lv_at hl 2 rfl) ?_
      refine lv_aload_n hx hb dX6_externalOf_3 rfl (lv_at hl 0 rfl) ?_
      refine va_get (D := D) (ci := 8) (v := .int en) (C := RX6) (T := TX6) (N := 10) hx hb hts iv_k_X6_externalOf_X6 hown hK hP 0 rfl rfl 9 (by decide) (hts (.fieldLink RX6 52 "AnswerFold$Program" "externalCount" "I") (by decide +kernel)) (fun _ h9 => h9) rfl dX6_externalOf_4 ?_
      refine lv_icmp_ge (tgt := 27) hx hb dX6_externalOf_7 (by decide) (fun c_1 => ?_) (fun c_1 => ?_)
      · rw [if_pos c_1] at hT
        refine lv_iconst (v := (-1)) hx hb dX6_externalOf_27 (by decide) ?_
        exact END (-1) hT _ _ hP hD hS _ _ dX6_externalOf_28
      · rw [if_neg c_1] at hT
        refine lv_aload_n hx hb dX6_externalOf_10 rfl (lv_at hl 0 rfl) ?_
        refine lv_iload_n hx hb dX6_externalOf_11 rfl (lv_at hl 2 rfl) ?_
        obtain ⟨t_12, ht_12⟩ : ∃ t, t = m_k_X6_externalAtom en ea v2_2 := ⟨_, rfl⟩
        rw [lE_eq ht_12] at hT
        refine wq_iW (wc := (wW_k_X6_externalAtom ty X pn rn tn en ea)) (va_runV (As := [.int v2_2]) (rest := []) ⟨hx, hb, hml, hown, hts⟩ (k_X6_externalAtom l D ty td mi H.size X pn rn tn en ea v2_2 t_12 ht_12) (cwV 1 hts gv_k_X6_externalOf_0 rfl rfl rfl (by decide +kernel) ⟨(Nat.le_of_ble_eq_true rfl), (Nat.le_of_ble_eq_true rfl)⟩) (wm_V (wm_preS hP hD hK hE hS hA [true, true] rfl) (va_recv (q0 := 0) (ci := 8) hK hP rfl rfl)) rfl rfl hl.1 rfl (lv_room (Nat.le_of_ble_eq_true rfl)) dX6_externalOf_12 ⟨(Nat.le_of_ble_eq_true rfl), (Nat.le_of_ble_eq_true rfl)⟩) hS hA hP hD [true, true] rfl (fun _ _ h => by rcases h with ⟨-, rfl⟩; rfl) (fun r u H locs hw hP hD hS => ?_)
        obtain ⟨hr0, rfl⟩ := hw
        subst r
        have hP : va_P D vwCl (wW_k_X6_externalOf ty X pn rn tn en ea) H := hP
        have hD : va_D A (wW_k_X6_externalOf ty X pn rn tn en ea) := hD
        refine W.widen (k := 0) (n := 0) (Nat.le_of_ble_eq_true rfl) (Nat.le_of_ble_eq_true rfl) ?_
        refine lv_iload_n hx hb dX6_externalOf_15 rfl (lv_at hl 1 rfl) ?_
        refine lv_icmp_ne (tgt := 21) hx hb dX6_externalOf_16 (by decide) (fun c_4 => ?_) (fun c_4 => ?_)
        · rw [if_neg c_4] at hT
          refine lv_iinc (v := v2_2 + 1) (lv' := [(2, .int (v2_2 + 1)), (0, .ref (X 1)), (1, .int a1)]) hx hb dX6_externalOf_21 hl (k := 2) rfl (by rfl) (by decide) rfl (fun ls hl => ?_)
          refine lv_goto (tgt := 2) hx hb dX6_externalOf_24 (by decide) ?_
          exact ih_2 (v2_2 + 1) (wi_up hu_2 (Int32.not_le.mp c_1)) hT (wi_inc hn_2 (Int32.not_le.mp c_1)) _ _ hP hD hS _ (lv_sub hl [1, 2, 0] rfl)
        · rw [if_pos c_4] at hT
          refine lv_iload_n hx hb dX6_externalOf_19 rfl (lv_at hl 2 rfl) ?_
          exact END v2_2 hT _ _ hP hD hS _ _ dX6_externalOf_20
  exact L_2 wF 0 (wF_up 0) hT (by decide) _ _ hP hD hS _ (lv_sub hl [1, 2, 0] rfl)
theorem dX4_isCount_0 : decode cX4_isCount 0 = .ok (.aload_n 0, 1) := by decide +kernel
theorem dX4_isCount_1 : decode cX4_isCount 1 = .ok (.getfield 9, 3) := by decide +kernel
theorem dX4_isCount_4 : decode cX4_isCount 4 = .ok (.bipush 103, 2) := by decide +kernel
theorem dX4_isCount_6 : decode cX4_isCount 6 = .ok (.if_icmp .eq 12, 3) := by decide +kernel
theorem dX4_isCount_9 : decode cX4_isCount 9 = .ok (.aload_n 0, 1) := by decide +kernel
theorem dX4_isCount_10 : decode cX4_isCount 10 = .ok (.getfield 9, 3) := by decide +kernel
theorem dX4_isCount_13 : decode cX4_isCount 13 = .ok (.bipush 108, 2) := by decide +kernel
theorem dX4_isCount_15 : decode cX4_isCount 15 = .ok (.if_icmp .ne 7, 3) := by decide +kernel
theorem dX4_isCount_18 : decode cX4_isCount 18 = .ok (.iconst 1, 1) := by decide +kernel
theorem dX4_isCount_19 : decode cX4_isCount 19 = .ok (.goto 4, 3) := by decide +kernel
theorem dX4_isCount_22 : decode cX4_isCount 22 = .ok (.iconst 0, 1) := by decide +kernel
theorem dX4_isCount_23 : decode cX4_isCount 23 = .ok (.ireturn, 1) := by decide +kernel
def vs_k_X4_isCount : List Cond := .code yX4_isCount cX4_isCount 1 (some .boolean) :: ([.fieldLink RX4 9 "AnswerFold$Literal" "kind" "C"] ++ (u_ws RX4 TX4 8))
theorem iv_k_X4_isCount_X4 : ∀ w ∈ u_ws RX4 TX4 8, w ∈ vs_k_X4_isCount := (fun _ h => List.mem_cons_of_mem _ (List.mem_append_right _ (h)))
set_option maxHeartbeats 4000000 in
set_option maxRecDepth 100000 in
theorem k_X4_isCount (l : Launch) (D : va_G) (ty : Nat → ClassId) (td mi sz : Nat) (pp : pT) (a0 : Nat) (hok : pOK pp) (hm_a0 : a0 ∈ pLA pp) (TT : r_k_X4_isCount) (hTT : TT = m_k_X4_isCount pp a0) : Met l yX4_isCount vs_k_X4_isCount { frames := 0, cells := 0, slots := 0, locals := 0 } (va_Pc [.ref a0] (wq_P D ty td mi ([] ++ pw ty pp) sz)) (va_Qi (fun (r : Int32) (u : va_W) => (r = TT ∧ (TT = 0 ∨ TT = 1) ∧ (u = ([] ++ pw ty pp)))) (wq_B D (va_A ([] ++ pw ty pp) sz)) (va_A ([] ++ pw ty pp) sz)) 0 0 (va_A ([] ++ pw ty pp) sz) := by
  refine Met.ofW (cc := cX4_isCount) (maxL := 1) (ret := (some .boolean)) (by decide) rfl ?_
  intro p e s m args below meth c s₁ B hml hv
  obtain ⟨rfl, hsz, hP, hK, hD0, hE⟩ := hv
  have hx := B.exec
  have hb := B.bytes
  have hr := B.returns
  have hts := atoms_spec (ws := vs_k_X4_isCount) B.pre
  have hown : s.vm.findClass RX4 = some m.cls := findClass_of_methodNamed B.named
  have hlocks := B.notSynchronized
  subst hsz
  have hD := hD0.self (sz := s.heap.size)
  generalize hAe : va_A ([] ++ pw ty pp) s.heap.size = A at hD hE ⊢
  have hA : ∀ q : Nat, s.heap.size ≤ q → A q := fun q h => by rw [← hAe]; exact Or.inr h
  have hS : va_S A s.heap s.heap [] := va_S.rf
  have hP : va_P D vwCl ([] ++ pw ty pp) s.heap := hP
  have hl := lv_entry ([.ref a0]) (n := 1) (Nat.le_of_ble_eq_true rfl)
  rw [lg_entry_eq]
  generalize (lg_sl ([.ref a0]) ++ List.replicate (1 - (lg_sl ([.ref a0])).length) Slot.unset).toArray = ls at hl ⊢
  have hl : lv_has ls 1 [(0, .ref a0)] := hl
  have END : ∀ (r : Int32), TT = r → (r = 0 ∨ r = 1) → ∀ (H : Heap) (locs : List Loc), va_P D vwCl ([] ++ pw ty pp) H → va_D A ([] ++ pw ty pp) → va_S A s.heap H locs → ∀ (ls : Array Slot) (pc : Nat), decode cX4_isCount pc = .ok (.ireturn, 1) → W p l e (headSpec vs_k_X4_isCount { frames := 0, cells := 0, slots := 0, locals := 0 }).room s m ([.ref a0] : List Value).toArray below meth c H locs 0 0 (MQ below (va_Qi (fun (r : Int32) (u : va_W) => (r = TT ∧ (TT = 0 ∨ TT = 1) ∧ (u = ([] ++ pw ty pp)))) (wq_B D A) A) ([.ref a0] : List Value).toArray s 0 0 A) (F0 m pc ls [.int r]) := by
    intro r hT hb01 H locs hP hD hS ls pc hd
    have hM : TT = r := hT
    exact W.zret (v := r) hx hb hr (wz_nar hb01) (fun t ht hW => ⟨⟨r, ([] ++ pw ty pp), rfl, ⟨(by rw [hM]), (by rw [hM]; exact hb01), rfl⟩, wq_B.of ht hP hD⟩, hS.F ht⟩) hS.2.2 hd
  have hT := hTT
  rw [m_k_X4_isCount] at hT
  refine lv_aload_n hx hb dX4_isCount_0 rfl (lv_at hl 0 rfl) ?_
  obtain ⟨k_1, hk_1⟩ := List.getElem?_of_mem (pw_lit (ty := ty) (p := pp) (L := []) hm_a0)
  refine va_get (D := D) (ci := 6) (v := .int (pI pp a0 0)) (C := RX4) (T := TX4) (N := 8) hx hb hts iv_k_X4_isCount_X4 hown hK hP k_1 hk_1 rfl 0 (by decide) (hts (.fieldLink RX4 9 "AnswerFold$Literal" "kind" "C") (by decide +kernel)) (fun _ h9 => h9) rfl dX4_isCount_1 ?_
  refine lv_bipush (v := 103) hx hb dX4_isCount_4 (by decide) ?_
  have J_18 : ∀ (_ : Unit), TT = m_k_X4_isCount_18 → ∀ (H : Heap) (locs : List Loc), va_P D vwCl ([] ++ pw ty pp) H → va_D A ([] ++ pw ty pp) → va_S A s.heap H locs → ∀ ls : Array Slot, lv_has ls 1 [] → W p l e (headSpec vs_k_X4_isCount { frames := 0, cells := 0, slots := 0, locals := 0 }).room s m ([.ref a0] : List Value).toArray below meth c H locs 0 0 (MQ below (va_Qi (fun (r : Int32) (u : va_W) => (r = TT ∧ (TT = 0 ∨ TT = 1) ∧ (u = ([] ++ pw ty pp)))) (wq_B D A) A) ([.ref a0] : List Value).toArray s 0 0 A) (F0 m 18 ls []) := by
    intro _ hT  H locs hP hD hS ls hl
    rw [m_k_X4_isCount_18] at hT
    refine lv_iconst (v := 1) hx hb dX4_isCount_18 (by decide) ?_
    refine lv_goto (tgt := 23) hx hb dX4_isCount_19 (by decide) ?_
    exact END 1 hT (by decide) _ _ hP hD hS _ _ dX4_isCount_23
  refine lv_icmp_eq (tgt := 18) hx hb dX4_isCount_6 (by decide) (fun c_2 => ?_) (fun c_2 => ?_)
  · rw [if_pos c_2] at hT
    exact J_18 () hT _ _ hP hD hS _ (lv_sub hl [] rfl)
  · rw [if_neg c_2] at hT
    refine lv_aload_n hx hb dX4_isCount_9 rfl (lv_at hl 0 rfl) ?_
    obtain ⟨k_3, hk_3⟩ := List.getElem?_of_mem (pw_lit (ty := ty) (p := pp) (L := []) hm_a0)
    refine va_get (D := D) (ci := 6) (v := .int (pI pp a0 0)) (C := RX4) (T := TX4) (N := 8) hx hb hts iv_k_X4_isCount_X4 hown hK hP k_3 hk_3 rfl 0 (by decide) (hts (.fieldLink RX4 9 "AnswerFold$Literal" "kind" "C") (by decide +kernel)) (fun _ h9 => h9) rfl dX4_isCount_10 ?_
    refine lv_bipush (v := 108) hx hb dX4_isCount_13 (by decide) ?_
    refine lv_icmp_ne (tgt := 22) hx hb dX4_isCount_15 (by decide) (fun c_4 => ?_) (fun c_4 => ?_)
    · rw [if_neg c_4] at hT
      refine lv_iconst (v := 0) hx hb dX4_isCount_22 (by decide) ?_
      exact END 0 hT (by decide) _ _ hP hD hS _ _ dX4_isCount_23
    · rw [if_pos c_4] at hT
      exact J_18 () hT _ _ hP hD hS _ (lv_sub hl [] rfl)
theorem dX4_names_0 : decode cX4_names 0 = .ok (.aload_n 0, 1) := by decide +kernel
theorem dX4_names_1 : decode cX4_names 1 = .ok (.getfield 26, 3) := by decide +kernel
theorem dX4_names_4 : decode cX4_names 4 = .ok (.iload_n 1, 1) := by decide +kernel
theorem dX4_names_5 : decode cX4_names 5 = .ok (.if_icmp .eq 11, 3) := by decide +kernel
theorem dX4_names_8 : decode cX4_names 8 = .ok (.aload_n 0, 1) := by decide +kernel
theorem dX4_names_9 : decode cX4_names 9 = .ok (.getfield 35, 3) := by decide +kernel
theorem dX4_names_12 : decode cX4_names 12 = .ok (.iload_n 1, 1) := by decide +kernel
theorem dX4_names_13 : decode cX4_names 13 = .ok (.if_icmp .ne 7, 3) := by decide +kernel
theorem dX4_names_16 : decode cX4_names 16 = .ok (.iconst 1, 1) := by decide +kernel
theorem dX4_names_17 : decode cX4_names 17 = .ok (.goto 4, 3) := by decide +kernel
theorem dX4_names_20 : decode cX4_names 20 = .ok (.iconst 0, 1) := by decide +kernel
theorem dX4_names_21 : decode cX4_names 21 = .ok (.ireturn, 1) := by decide +kernel
def vs_k_X4_names : List Cond := .code yX4_names cX4_names 2 (some .boolean) :: ([.fieldLink RX4 26 "AnswerFold$Literal" "firstSlot" "I", .fieldLink RX4 35 "AnswerFold$Literal" "secondSlot" "I"] ++ (u_ws RX4 TX4 8))
theorem iv_k_X4_names_X4 : ∀ w ∈ u_ws RX4 TX4 8, w ∈ vs_k_X4_names := (fun _ h => List.mem_cons_of_mem _ (List.mem_append_right _ (h)))
set_option maxHeartbeats 4000000 in
set_option maxRecDepth 100000 in
theorem k_X4_names (l : Launch) (D : va_G) (ty : Nat → ClassId) (td mi sz : Nat) (pp : pT) (a0 : Nat) (a1 : Int32) (hok : pOK pp) (hm_a0 : a0 ∈ pLA pp) (TT : r_k_X4_names) (hTT : TT = m_k_X4_names pp a0 a1) : Met l yX4_names vs_k_X4_names { frames := 0, cells := 0, slots := 0, locals := 0 } (va_Pc [.ref a0, .int a1] (wq_P D ty td mi ([] ++ pw ty pp) sz)) (va_Qi (fun (r : Int32) (u : va_W) => (r = TT ∧ (TT = 0 ∨ TT = 1) ∧ (u = ([] ++ pw ty pp)))) (wq_B D (va_A ([] ++ pw ty pp) sz)) (va_A ([] ++ pw ty pp) sz)) 0 0 (va_A ([] ++ pw ty pp) sz) := by
  refine Met.ofW (cc := cX4_names) (maxL := 2) (ret := (some .boolean)) (by decide) rfl ?_
  intro p e s m args below meth c s₁ B hml hv
  obtain ⟨rfl, hsz, hP, hK, hD0, hE⟩ := hv
  have hx := B.exec
  have hb := B.bytes
  have hr := B.returns
  have hts := atoms_spec (ws := vs_k_X4_names) B.pre
  have hown : s.vm.findClass RX4 = some m.cls := findClass_of_methodNamed B.named
  have hlocks := B.notSynchronized
  subst hsz
  have hD := hD0.self (sz := s.heap.size)
  generalize hAe : va_A ([] ++ pw ty pp) s.heap.size = A at hD hE ⊢
  have hA : ∀ q : Nat, s.heap.size ≤ q → A q := fun q h => by rw [← hAe]; exact Or.inr h
  have hS : va_S A s.heap s.heap [] := va_S.rf
  have hP : va_P D vwCl ([] ++ pw ty pp) s.heap := hP
  have hl := lv_entry ([.ref a0, .int a1]) (n := 2) (Nat.le_of_ble_eq_true rfl)
  rw [lg_entry_eq]
  generalize (lg_sl ([.ref a0, .int a1]) ++ List.replicate (2 - (lg_sl ([.ref a0, .int a1])).length) Slot.unset).toArray = ls at hl ⊢
  have hl : lv_has ls 2 [(0, .ref a0), (1, .int a1)] := hl
  have END : ∀ (r : Int32), TT = r → (r = 0 ∨ r = 1) → ∀ (H : Heap) (locs : List Loc), va_P D vwCl ([] ++ pw ty pp) H → va_D A ([] ++ pw ty pp) → va_S A s.heap H locs → ∀ (ls : Array Slot) (pc : Nat), decode cX4_names pc = .ok (.ireturn, 1) → W p l e (headSpec vs_k_X4_names { frames := 0, cells := 0, slots := 0, locals := 0 }).room s m ([.ref a0, .int a1] : List Value).toArray below meth c H locs 0 0 (MQ below (va_Qi (fun (r : Int32) (u : va_W) => (r = TT ∧ (TT = 0 ∨ TT = 1) ∧ (u = ([] ++ pw ty pp)))) (wq_B D A) A) ([.ref a0, .int a1] : List Value).toArray s 0 0 A) (F0 m pc ls [.int r]) := by
    intro r hT hb01 H locs hP hD hS ls pc hd
    have hM : TT = r := hT
    exact W.zret (v := r) hx hb hr (wz_nar hb01) (fun t ht hW => ⟨⟨r, ([] ++ pw ty pp), rfl, ⟨(by rw [hM]), (by rw [hM]; exact hb01), rfl⟩, wq_B.of ht hP hD⟩, hS.F ht⟩) hS.2.2 hd
  have hT := hTT
  rw [m_k_X4_names] at hT
  refine lv_aload_n hx hb dX4_names_0 rfl (lv_at hl 0 rfl) ?_
  obtain ⟨k_1, hk_1⟩ := List.getElem?_of_mem (pw_lit (ty := ty) (p := pp) (L := []) hm_a0)
  refine va_get (D := D) (ci := 6) (v := .int (pI pp a0 3)) (C := RX4) (T := TX4) (N := 8) hx hb hts iv_k_X4_names_X4 hown hK hP k_1 hk_1 rfl 3 (by decide) (hts (.fieldLink RX4 26 "AnswerFold$Literal" "firstSlot" "I") (by decide +kernel)) (fun _ h9 => h9) rfl dX4_names_1 ?_
  refine lv_iload_n hx hb dX4_names_4 rfl (lv_at hl 1 rfl) ?_
  have J_16 : ∀ (_ : Unit), TT = m_k_X4_names_16 → ∀ (H : Heap) (locs : List Loc), va_P D vwCl ([] ++ pw ty pp) H → va_D A ([] ++ pw ty pp) → va_S A s.heap H locs → ∀ ls : Array Slot, lv_has ls 2 [] → W p l e (headSpec vs_k_X4_names { frames := 0, cells := 0, slots := 0, locals := 0 }).room s m ([.ref a0, .int a1] : List Value).toArray below meth c H locs 0 0 (MQ below (va_Qi (fun (r : Int32) (u : va_W) => (r = TT ∧ (TT = 0 ∨ TT = 1) ∧ (u = ([] ++ pw ty pp)))) (wq_B D A) A) ([.ref a0, .int a1] : List Value).toArray s 0 0 A) (F0 m 16 ls []) := by
    intro _ hT  H locs hP hD hS ls hl
    rw [m_k_X4_names_16] at hT
    refine lv_iconst (v := 1) hx hb dX4_names_16 (by decide) ?_
    refine lv_goto (tgt := 21) hx hb dX4_names_17 (by decide) ?_
    exact END 1 hT (by decide) _ _ hP hD hS _ _ dX4_names_21
  refine lv_icmp_eq (tgt := 16) hx hb dX4_names_5 (by decide) (fun c_2 => ?_) (fun c_2 => ?_)
  · rw [if_pos c_2] at hT
    exact J_16 () hT _ _ hP hD hS _ (lv_sub hl [] rfl)
  · rw [if_neg c_2] at hT
    refine lv_aload_n hx hb dX4_names_8 rfl (lv_at hl 0 rfl) ?_
    obtain ⟨k_3, hk_3⟩ := List.getElem?_of_mem (pw_lit (ty := ty) (p := pp) (L := []) hm_a0)
    refine va_get (D := D) (ci := 6) (v := .int (pI pp a0 5)) (C := RX4) (T := TX4) (N := 8) hx hb hts iv_k_X4_names_X4 hown hK hP k_3 hk_3 rfl 5 (by decide) (hts (.fieldLink RX4 35 "AnswerFold$Literal" "secondSlot" "I") (by decide +kernel)) (fun _ h9 => h9) rfl dX4_names_9 ?_
    refine lv_iload_n hx hb dX4_names_12 rfl (lv_at hl 1 rfl) ?_
    refine lv_icmp_ne (tgt := 20) hx hb dX4_names_13 (by decide) (fun c_4 => ?_) (fun c_4 => ?_)
    · rw [if_neg c_4] at hT
      refine lv_iconst (v := 0) hx hb dX4_names_20 (by decide) ?_
      exact END 0 hT (by decide) _ _ hP hD hS _ _ dX4_names_21
    · rw [if_pos c_4] at hT
      exact J_16 () hT _ _ hP hD hS _ (lv_sub hl [] rfl)
theorem dX8_hasSpan_0 : decode cX8_hasSpan 0 = .ok (.aload_n 0, 1) := by decide +kernel
theorem dX8_hasSpan_1 : decode cX8_hasSpan 1 = .ok (.getfield 9, 3) := by decide +kernel
theorem dX8_hasSpan_4 : decode cX8_hasSpan 4 = .ok (.iconst (-1), 1) := by decide +kernel
theorem dX8_hasSpan_5 : decode cX8_hasSpan 5 = .ok (.if_icmp .eq 7, 3) := by decide +kernel
theorem dX8_hasSpan_8 : decode cX8_hasSpan 8 = .ok (.iconst 1, 1) := by decide +kernel
theorem dX8_hasSpan_9 : decode cX8_hasSpan 9 = .ok (.goto 4, 3) := by decide +kernel
theorem dX8_hasSpan_12 : decode cX8_hasSpan 12 = .ok (.iconst 0, 1) := by decide +kernel
theorem dX8_hasSpan_13 : decode cX8_hasSpan 13 = .ok (.ireturn, 1) := by decide +kernel
def vs_k_X8_hasSpan : List Cond := .code yX8_hasSpan cX8_hasSpan 1 (some .boolean) :: ([.fieldLink RX8 9 "AnswerFold$Rule" "span" "I"] ++ (u_ws RX8 TX8 11))
theorem iv_k_X8_hasSpan_X8 : ∀ w ∈ u_ws RX8 TX8 11, w ∈ vs_k_X8_hasSpan := (fun _ h => List.mem_cons_of_mem _ (List.mem_append_right _ (h)))
set_option maxHeartbeats 4000000 in
set_option maxRecDepth 100000 in
theorem k_X8_hasSpan (l : Launch) (D : va_G) (ty : Nat → ClassId) (td mi sz : Nat) (pp : pT) (a0 : Nat) (hok : pOK pp) (hm_a0 : a0 ∈ pRA pp) (TT : r_k_X8_hasSpan) (hTT : TT = m_k_X8_hasSpan pp a0) : Met l yX8_hasSpan vs_k_X8_hasSpan { frames := 0, cells := 0, slots := 0, locals := 0 } (va_Pc [.ref a0] (wq_P D ty td mi ([] ++ pw ty pp) sz)) (va_Qi (fun (r : Int32) (u : va_W) => (r = TT ∧ (TT = 0 ∨ TT = 1) ∧ (u = ([] ++ pw ty pp)))) (wq_B D (va_A ([] ++ pw ty pp) sz)) (va_A ([] ++ pw ty pp) sz)) 0 0 (va_A ([] ++ pw ty pp) sz) := by
  refine Met.ofW (cc := cX8_hasSpan) (maxL := 1) (ret := (some .boolean)) (by decide) rfl ?_
  intro p e s m args below meth c s₁ B hml hv
  obtain ⟨rfl, hsz, hP, hK, hD0, hE⟩ := hv
  have hx := B.exec
  have hb := B.bytes
  have hr := B.returns
  have hts := atoms_spec (ws := vs_k_X8_hasSpan) B.pre
  have hown : s.vm.findClass RX8 = some m.cls := findClass_of_methodNamed B.named
  have hlocks := B.notSynchronized
  subst hsz
  have hD := hD0.self (sz := s.heap.size)
  generalize hAe : va_A ([] ++ pw ty pp) s.heap.size = A at hD hE ⊢
  have hA : ∀ q : Nat, s.heap.size ≤ q → A q := fun q h => by rw [← hAe]; exact Or.inr h
  have hS : va_S A s.heap s.heap [] := va_S.rf
  have hP : va_P D vwCl ([] ++ pw ty pp) s.heap := hP
  have hl := lv_entry ([.ref a0]) (n := 1) (Nat.le_of_ble_eq_true rfl)
  rw [lg_entry_eq]
  generalize (lg_sl ([.ref a0]) ++ List.replicate (1 - (lg_sl ([.ref a0])).length) Slot.unset).toArray = ls at hl ⊢
  have hl : lv_has ls 1 [(0, .ref a0)] := hl
  have END : ∀ (r : Int32), TT = r → (r = 0 ∨ r = 1) → ∀ (H : Heap) (locs : List Loc), va_P D vwCl ([] ++ pw ty pp) H → va_D A ([] ++ pw ty pp) → va_S A s.heap H locs → ∀ (ls : Array Slot) (pc : Nat), decode cX8_hasSpan pc = .ok (.ireturn, 1) → W p l e (headSpec vs_k_X8_hasSpan { frames := 0, cells := 0, slots := 0, locals := 0 }).room s m ([.ref a0] : List Value).toArray below meth c H locs 0 0 (MQ below (va_Qi (fun (r : Int32) (u : va_W) => (r = TT ∧ (TT = 0 ∨ TT = 1) ∧ (u = ([] ++ pw ty pp)))) (wq_B D A) A) ([.ref a0] : List Value).toArray s 0 0 A) (F0 m pc ls [.int r]) := by
    intro r hT hb01 H locs hP hD hS ls pc hd
    have hM : TT = r := hT
    exact W.zret (v := r) hx hb hr (wz_nar hb01) (fun t ht hW => ⟨⟨r, ([] ++ pw ty pp), rfl, ⟨(by rw [hM]), (by rw [hM]; exact hb01), rfl⟩, wq_B.of ht hP hD⟩, hS.F ht⟩) hS.2.2 hd
  have hT := hTT
  rw [m_k_X8_hasSpan] at hT
  refine lv_aload_n hx hb dX8_hasSpan_0 rfl (lv_at hl 0 rfl) ?_
  obtain ⟨k_1, hk_1⟩ := List.getElem?_of_mem (pw_rule (ty := ty) (p := pp) (L := []) hm_a0)
  refine va_get (D := D) (ci := 10) (v := .int (pI pp a0 4)) (C := RX8) (T := TX8) (N := 11) hx hb hts iv_k_X8_hasSpan_X8 hown hK hP k_1 hk_1 rfl 4 (by decide) (hts (.fieldLink RX8 9 "AnswerFold$Rule" "span" "I") (by decide +kernel)) (fun _ h9 => h9) rfl dX8_hasSpan_1 ?_
  refine lv_iconst (v := (-1)) hx hb dX8_hasSpan_4 (by decide) ?_
  refine lv_icmp_eq (tgt := 12) hx hb dX8_hasSpan_5 (by decide) (fun c_2 => ?_) (fun c_2 => ?_)
  · rw [if_pos c_2] at hT
    refine lv_iconst (v := 0) hx hb dX8_hasSpan_12 (by decide) ?_
    exact END 0 hT (by decide) _ _ hP hD hS _ _ dX8_hasSpan_13
  · rw [if_neg c_2] at hT
    refine lv_iconst (v := 1) hx hb dX8_hasSpan_8 (by decide) ?_
    refine lv_goto (tgt := 13) hx hb dX8_hasSpan_9 (by decide) ?_
    exact END 1 hT (by decide) _ _ hP hD hS _ _ dX8_hasSpan_13
theorem dX8_headAt_0 : decode cX8_headAt 0 = .ok (.iload_n 1, 1) := by decide +kernel
theorem dX8_headAt_1 : decode cX8_headAt 1 = .ok (.ifCond .lt 25, 3) := by decide +kernel
theorem dX8_headAt_4 : decode cX8_headAt 4 = .ok (.iload_n 1, 1) := by decide +kernel
theorem dX8_headAt_5 : decode cX8_headAt 5 = .ok (.aload_n 0, 1) := by decide +kernel
theorem dX8_headAt_6 : decode cX8_headAt 6 = .ok (.getfield 31, 3) := by decide +kernel
theorem dX8_headAt_9 : decode cX8_headAt 9 = .ok (.if_icmp .ge 17, 3) := by decide +kernel
theorem dX8_headAt_12 : decode cX8_headAt 12 = .ok (.iload_n 1, 1) := by decide +kernel
theorem dX8_headAt_13 : decode cX8_headAt 13 = .ok (.iconst 2, 1) := by decide +kernel
theorem dX8_headAt_14 : decode cX8_headAt 14 = .ok (.if_icmp .ge 12, 3) := by decide +kernel
theorem dX8_headAt_17 : decode cX8_headAt 17 = .ok (.aload_n 0, 1) := by decide +kernel
theorem dX8_headAt_18 : decode cX8_headAt 18 = .ok (.getfield 17, 3) := by decide +kernel
theorem dX8_headAt_21 : decode cX8_headAt 21 = .ok (.iload_n 1, 1) := by decide +kernel
theorem dX8_headAt_22 : decode cX8_headAt 22 = .ok (.aaload, 1) := by decide +kernel
theorem dX8_headAt_23 : decode cX8_headAt 23 = .ok (.goto 4, 3) := by decide +kernel
theorem dX8_headAt_26 : decode cX8_headAt 26 = .ok (.aconst_null, 1) := by decide +kernel
theorem dX8_headAt_27 : decode cX8_headAt 27 = .ok (.areturn, 1) := by decide +kernel
theorem mm_k_X8_headAt (pp : pT) (a0 : Nat) (a1 : Int32) (hok : pOK pp) (hm_a0 : a0 ∈ pRA pp) (a : Nat) (h : m_k_X8_headAt pp a0 a1 = some a) : a ∈ pLA pp := by
  rw [m_k_X8_headAt] at h
  by_cases c_7 : a1 < 0
  · rw [if_pos c_7] at h
    cases h
  · rw [if_neg c_7] at h
    by_cases c_8 : (pI pp a0 8) ≤ a1
    · rw [if_pos c_8] at h
      cases h
    · rw [if_neg c_8] at h
      by_cases c_9 : 2 ≤ a1
      · rw [if_pos c_9] at h
        cases h
      · rw [if_neg c_9] at h
        rcases ho_22 : pF pp a0 0 a1.toNatClampNeg with _ | o_22
        · rw [ho_22, oE_none] at h
          cases h
        · rw [ho_22, oE_some] at h
          cases h
          exact (hok _ hm_a0 _ _ _ ho_22)
def vs_k_X8_headAt : List Cond := .code yX8_headAt cX8_headAt 2 (some (.object "AnswerFold$Literal")) :: ([.fieldLink RX8 31 "AnswerFold$Rule" "headCount" "I", .fieldLink RX8 17 "AnswerFold$Rule" "heads" "[LAnswerFold$Literal;"] ++ (u_ws RX8 TX8 11))
theorem iv_k_X8_headAt_X8 : ∀ w ∈ u_ws RX8 TX8 11, w ∈ vs_k_X8_headAt := (fun _ h => List.mem_cons_of_mem _ (List.mem_append_right _ (h)))
set_option maxHeartbeats 4000000 in
set_option maxRecDepth 100000 in
theorem k_X8_headAt (l : Launch) (D : va_G) (ty : Nat → ClassId) (td mi sz : Nat) (pp : pT) (a0 : Nat) (a1 : Int32) (hok : pOK pp) (hm_a0 : a0 ∈ pRA pp) (TT : r_k_X8_headAt) (hTT : TT = m_k_X8_headAt pp a0 a1) : Met l yX8_headAt vs_k_X8_headAt { frames := 0, cells := 0, slots := 0, locals := 0 } (va_Pc [.ref a0, .int a1] (wq_P D ty td mi ([] ++ pw ty pp) sz)) (wq_Qr (fun (r : Value) (u : va_W) => (r = va_rf TT ∧ (u = ([] ++ pw ty pp)))) (wq_B D (va_A ([] ++ pw ty pp) sz)) (va_A ([] ++ pw ty pp) sz)) 0 0 (va_A ([] ++ pw ty pp) sz) := by
  refine Met.ofW (cc := cX8_headAt) (maxL := 2) (ret := (some (.object "AnswerFold$Literal"))) (by decide) rfl ?_
  intro p e s m args below meth c s₁ B hml hv
  obtain ⟨rfl, hsz, hP, hK, hD0, hE⟩ := hv
  have hx := B.exec
  have hb := B.bytes
  have hr := B.returns
  have hts := atoms_spec (ws := vs_k_X8_headAt) B.pre
  have hown : s.vm.findClass RX8 = some m.cls := findClass_of_methodNamed B.named
  have hlocks := B.notSynchronized
  subst hsz
  have hD := hD0.self (sz := s.heap.size)
  generalize hAe : va_A ([] ++ pw ty pp) s.heap.size = A at hD hE ⊢
  have hA : ∀ q : Nat, s.heap.size ≤ q → A q := fun q h => by rw [← hAe]; exact Or.inr h
  have hS : va_S A s.heap s.heap [] := va_S.rf
  have hP : va_P D vwCl ([] ++ pw ty pp) s.heap := hP
  have hl := lv_entry ([.ref a0, .int a1]) (n := 2) (Nat.le_of_ble_eq_true rfl)
  rw [lg_entry_eq]
  generalize (lg_sl ([.ref a0, .int a1]) ++ List.replicate (2 - (lg_sl ([.ref a0, .int a1])).length) Slot.unset).toArray = ls at hl ⊢
  have hl : lv_has ls 2 [(0, .ref a0), (1, .int a1)] := hl
  have END : ∀ (r : Option Nat), TT = r → ∀ (H : Heap) (locs : List Loc), va_P D vwCl ([] ++ pw ty pp) H → va_D A ([] ++ pw ty pp) → va_S A s.heap H locs → ∀ (ls : Array Slot) (pc : Nat), decode cX8_headAt pc = .ok (.areturn, 1) → W p l e (headSpec vs_k_X8_headAt { frames := 0, cells := 0, slots := 0, locals := 0 }).room s m ([.ref a0, .int a1] : List Value).toArray below meth c H locs 0 0 (MQ below (wq_Qr (fun (r : Value) (u : va_W) => (r = va_rf TT ∧ (u = ([] ++ pw ty pp)))) (wq_B D A) A) ([.ref a0, .int a1] : List Value).toArray s 0 0 A) (F0 m pc ls [va_rf r]) := by
    intro r hT H locs hP hD hS ls pc hd
    have hM : TT = r := hT
    cases r with
    | none => exact W.aret (v := .null) hx hb hr (Or.inl ⟨_, rfl⟩) (Or.inl rfl) (fun t ht hW => ⟨⟨.null, ([] ++ pw ty pp), rfl, ⟨(by rw [hM]; rfl), rfl⟩, wq_B.of ht hP hD⟩, hS.F ht⟩) hS.2.2 hd
    | some r => exact W.aret (v := .ref r) hx hb hr (Or.inl ⟨_, rfl⟩) (Or.inr ⟨_, rfl⟩) (fun t ht hW => ⟨⟨.ref r, ([] ++ pw ty pp), rfl, ⟨(by rw [hM]; rfl), rfl⟩, wq_B.of ht hP hD⟩, hS.F ht⟩) hS.2.2 hd
  have hT := hTT
  rw [m_k_X8_headAt] at hT
  refine lv_iload_n hx hb dX8_headAt_0 rfl (lv_at hl 1 rfl) ?_
  refine lv_if_lt (tgt := 26) hx hb dX8_headAt_1 (by decide) (fun c_1 => ?_) (fun c_1 => ?_)
  · rw [if_pos c_1] at hT
    refine lv_null hx hb dX8_headAt_26 ?_
    exact END none hT _ _ hP hD hS _ _ dX8_headAt_27
  · rw [if_neg c_1] at hT
    refine lv_iload_n hx hb dX8_headAt_4 rfl (lv_at hl 1 rfl) ?_
    refine lv_aload_n hx hb dX8_headAt_5 rfl (lv_at hl 0 rfl) ?_
    obtain ⟨k_2, hk_2⟩ := List.getElem?_of_mem (pw_rule (ty := ty) (p := pp) (L := []) hm_a0)
    refine va_get (D := D) (ci := 10) (v := .int (pI pp a0 8)) (C := RX8) (T := TX8) (N := 11) hx hb hts iv_k_X8_headAt_X8 hown hK hP k_2 hk_2 rfl 8 (by decide) (hts (.fieldLink RX8 31 "AnswerFold$Rule" "headCount" "I") (by decide +kernel)) (fun _ h9 => h9) rfl dX8_headAt_6 ?_
    refine lv_icmp_ge (tgt := 26) hx hb dX8_headAt_9 (by decide) (fun c_3 => ?_) (fun c_3 => ?_)
    · rw [if_pos c_3] at hT
      refine lv_null hx hb dX8_headAt_26 ?_
      exact END none hT _ _ hP hD hS _ _ dX8_headAt_27
    · rw [if_neg c_3] at hT
      refine lv_iload_n hx hb dX8_headAt_12 rfl (lv_at hl 1 rfl) ?_
      refine lv_iconst (v := 2) hx hb dX8_headAt_13 (by decide) ?_
      refine lv_icmp_ge (tgt := 26) hx hb dX8_headAt_14 (by decide) (fun c_4 => ?_) (fun c_4 => ?_)
      · rw [if_pos c_4] at hT
        refine lv_null hx hb dX8_headAt_26 ?_
        exact END none hT _ _ hP hD hS _ _ dX8_headAt_27
      · rw [if_neg c_4] at hT
        refine lv_aload_n hx hb dX8_headAt_17 rfl (lv_at hl 0 rfl) ?_
        obtain ⟨k_5, hk_5⟩ := List.getElem?_of_mem (pw_rule (ty := ty) (p := pp) (L := []) hm_a0)
        refine va_get (D := D) (ci := 10) (v := .ref (pA pp a0 0)) (C := RX8) (T := TX8) (N := 11) hx hb hts iv_k_X8_headAt_X8 hown hK hP k_5 hk_5 rfl 7 (by decide) (hts (.fieldLink RX8 17 "AnswerFold$Rule" "heads" "[LAnswerFold$Literal;") (by decide +kernel)) (fun _ h9 => h9) rfl dX8_headAt_18 ?_
        refine lv_iload_n hx hb dX8_headAt_21 rfl (lv_at hl 1 rfl) ?_
        obtain ⟨k_6, hk_6⟩ := List.getElem?_of_mem (pw_heads (ty := ty) (p := pp) (L := []) hm_a0)
        refine va_aldq (D := D) hx hb hK hP k_6 5 hk_6 rfl (wi_in (wi_lo c_1) (wi_hi c_4 (by decide))) dX8_headAt_22 ?_
        rcases ho_22 : pF pp a0 0 a1.toNatClampNeg with _ | o_22
        · rw [ho_22, oE_none] at hT
          refine W.eq (g2 := F0 m 23 ls [.null]) rfl ?_
          refine lv_goto (tgt := 27) hx hb dX8_headAt_23 (by decide) ?_
          exact END none hT _ _ hP hD hS _ _ dX8_headAt_27
        · rw [ho_22, oE_some] at hT
          refine W.eq (g2 := F0 m 23 ls [.ref o_22]) rfl ?_
          refine lv_goto (tgt := 27) hx hb dX8_headAt_23 (by decide) ?_
          exact END (some o_22) hT _ _ hP hD hS _ _ dX8_headAt_27
theorem dX8_conditionAt_0 : decode cX8_conditionAt 0 = .ok (.iload_n 1, 1) := by decide +kernel
theorem dX8_conditionAt_1 : decode cX8_conditionAt 1 = .ok (.ifCond .lt 25, 3) := by decide +kernel
theorem dX8_conditionAt_4 : decode cX8_conditionAt 4 = .ok (.iload_n 1, 1) := by decide +kernel
theorem dX8_conditionAt_5 : decode cX8_conditionAt 5 = .ok (.aload_n 0, 1) := by decide +kernel
theorem dX8_conditionAt_6 : decode cX8_conditionAt 6 = .ok (.getfield 34, 3) := by decide +kernel
theorem dX8_conditionAt_9 : decode cX8_conditionAt 9 = .ok (.if_icmp .ge 17, 3) := by decide +kernel
theorem dX8_conditionAt_12 : decode cX8_conditionAt 12 = .ok (.iload_n 1, 1) := by decide +kernel
theorem dX8_conditionAt_13 : decode cX8_conditionAt 13 = .ok (.iconst 5, 1) := by decide +kernel
theorem dX8_conditionAt_14 : decode cX8_conditionAt 14 = .ok (.if_icmp .ge 12, 3) := by decide +kernel
theorem dX8_conditionAt_17 : decode cX8_conditionAt 17 = .ok (.aload_n 0, 1) := by decide +kernel
theorem dX8_conditionAt_18 : decode cX8_conditionAt 18 = .ok (.getfield 21, 3) := by decide +kernel
theorem dX8_conditionAt_21 : decode cX8_conditionAt 21 = .ok (.iload_n 1, 1) := by decide +kernel
theorem dX8_conditionAt_22 : decode cX8_conditionAt 22 = .ok (.aaload, 1) := by decide +kernel
theorem dX8_conditionAt_23 : decode cX8_conditionAt 23 = .ok (.goto 4, 3) := by decide +kernel
theorem dX8_conditionAt_26 : decode cX8_conditionAt 26 = .ok (.aconst_null, 1) := by decide +kernel
theorem dX8_conditionAt_27 : decode cX8_conditionAt 27 = .ok (.areturn, 1) := by decide +kernel
theorem mm_k_X8_conditionAt (pp : pT) (a0 : Nat) (a1 : Int32) (hok : pOK pp) (hm_a0 : a0 ∈ pRA pp) (a : Nat) (h : m_k_X8_conditionAt pp a0 a1 = some a) : a ∈ pLA pp := by
  rw [m_k_X8_conditionAt] at h
  by_cases c_7 : a1 < 0
  · rw [if_pos c_7] at h
    cases h
  · rw [if_neg c_7] at h
    by_cases c_8 : (pI pp a0 10) ≤ a1
    · rw [if_pos c_8] at h
      cases h
    · rw [if_neg c_8] at h
      by_cases c_9 : 5 ≤ a1
      · rw [if_pos c_9] at h
        cases h
      · rw [if_neg c_9] at h
        rcases ho_22 : pF pp a0 1 a1.toNatClampNeg with _ | o_22
        · rw [ho_22, oE_none] at h
          cases h
        · rw [ho_22, oE_some] at h
          cases h
          exact (hok _ hm_a0 _ _ _ ho_22)
def vs_k_X8_conditionAt : List Cond := .code yX8_conditionAt cX8_conditionAt 2 (some (.object "AnswerFold$Literal")) :: ([.fieldLink RX8 34 "AnswerFold$Rule" "conditionCount" "I", .fieldLink RX8 21 "AnswerFold$Rule" "conditions" "[LAnswerFold$Literal;"] ++ (u_ws RX8 TX8 11))
theorem iv_k_X8_conditionAt_X8 : ∀ w ∈ u_ws RX8 TX8 11, w ∈ vs_k_X8_conditionAt := (fun _ h => List.mem_cons_of_mem _ (List.mem_append_right _ (h)))
set_option maxHeartbeats 4000000 in
set_option maxRecDepth 100000 in
theorem k_X8_conditionAt (l : Launch) (D : va_G) (ty : Nat → ClassId) (td mi sz : Nat) (pp : pT) (a0 : Nat) (a1 : Int32) (hok : pOK pp) (hm_a0 : a0 ∈ pRA pp) (TT : r_k_X8_conditionAt) (hTT : TT = m_k_X8_conditionAt pp a0 a1) : Met l yX8_conditionAt vs_k_X8_conditionAt { frames := 0, cells := 0, slots := 0, locals := 0 } (va_Pc [.ref a0, .int a1] (wq_P D ty td mi ([] ++ pw ty pp) sz)) (wq_Qr (fun (r : Value) (u : va_W) => (r = va_rf TT ∧ (u = ([] ++ pw ty pp)))) (wq_B D (va_A ([] ++ pw ty pp) sz)) (va_A ([] ++ pw ty pp) sz)) 0 0 (va_A ([] ++ pw ty pp) sz) := by
  refine Met.ofW (cc := cX8_conditionAt) (maxL := 2) (ret := (some (.object "AnswerFold$Literal"))) (by decide) rfl ?_
  intro p e s m args below meth c s₁ B hml hv
  obtain ⟨rfl, hsz, hP, hK, hD0, hE⟩ := hv
  have hx := B.exec
  have hb := B.bytes
  have hr := B.returns
  have hts := atoms_spec (ws := vs_k_X8_conditionAt) B.pre
  have hown : s.vm.findClass RX8 = some m.cls := findClass_of_methodNamed B.named
  have hlocks := B.notSynchronized
  subst hsz
  have hD := hD0.self (sz := s.heap.size)
  generalize hAe : va_A ([] ++ pw ty pp) s.heap.size = A at hD hE ⊢
  have hA : ∀ q : Nat, s.heap.size ≤ q → A q := fun q h => by rw [← hAe]; exact Or.inr h
  have hS : va_S A s.heap s.heap [] := va_S.rf
  have hP : va_P D vwCl ([] ++ pw ty pp) s.heap := hP
  have hl := lv_entry ([.ref a0, .int a1]) (n := 2) (Nat.le_of_ble_eq_true rfl)
  rw [lg_entry_eq]
  generalize (lg_sl ([.ref a0, .int a1]) ++ List.replicate (2 - (lg_sl ([.ref a0, .int a1])).length) Slot.unset).toArray = ls at hl ⊢
  have hl : lv_has ls 2 [(0, .ref a0), (1, .int a1)] := hl
  have END : ∀ (r : Option Nat), TT = r → ∀ (H : Heap) (locs : List Loc), va_P D vwCl ([] ++ pw ty pp) H → va_D A ([] ++ pw ty pp) → va_S A s.heap H locs → ∀ (ls : Array Slot) (pc : Nat), decode cX8_conditionAt pc = .ok (.areturn, 1) → W p l e (headSpec vs_k_X8_conditionAt { frames := 0, cells := 0, slots := 0, locals := 0 }).room s m ([.ref a0, .int a1] : List Value).toArray below meth c H locs 0 0 (MQ below (wq_Qr (fun (r : Value) (u : va_W) => (r = va_rf TT ∧ (u = ([] ++ pw ty pp)))) (wq_B D A) A) ([.ref a0, .int a1] : List Value).toArray s 0 0 A) (F0 m pc ls [va_rf r]) := by
    intro r hT H locs hP hD hS ls pc hd
    have hM : TT = r := hT
    cases r with
    | none => exact W.aret (v := .null) hx hb hr (Or.inl ⟨_, rfl⟩) (Or.inl rfl) (fun t ht hW => ⟨⟨.null, ([] ++ pw ty pp), rfl, ⟨(by rw [hM]; rfl), rfl⟩, wq_B.of ht hP hD⟩, hS.F ht⟩) hS.2.2 hd
    | some r => exact W.aret (v := .ref r) hx hb hr (Or.inl ⟨_, rfl⟩) (Or.inr ⟨_, rfl⟩) (fun t ht hW => ⟨⟨.ref r, ([] ++ pw ty pp), rfl, ⟨(by rw [hM]; rfl), rfl⟩, wq_B.of ht hP hD⟩, hS.F ht⟩) hS.2.2 hd
  have hT := hTT
  rw [m_k_X8_conditionAt] at hT
  refine lv_iload_n hx hb dX8_conditionAt_0 rfl (lv_at hl 1 rfl) ?_
  refine lv_if_lt (tgt := 26) hx hb dX8_conditionAt_1 (by decide) (fun c_1 => ?_) (fun c_1 => ?_)
  · rw [if_pos c_1] at hT
    refine lv_null hx hb dX8_conditionAt_26 ?_
    exact END none hT _ _ hP hD hS _ _ dX8_conditionAt_27
  · rw [if_neg c_1] at hT
    refine lv_iload_n hx hb dX8_conditionAt_4 rfl (lv_at hl 1 rfl) ?_
    refine lv_aload_n hx hb dX8_conditionAt_5 rfl (lv_at hl 0 rfl) ?_
    obtain ⟨k_2, hk_2⟩ := List.getElem?_of_mem (pw_rule (ty := ty) (p := pp) (L := []) hm_a0)
    refine va_get (D := D) (ci := 10) (v := .int (pI pp a0 10)) (C := RX8) (T := TX8) (N := 11) hx hb hts iv_k_X8_conditionAt_X8 hown hK hP k_2 hk_2 rfl 10 (by decide) (hts (.fieldLink RX8 34 "AnswerFold$Rule" "conditionCount" "I") (by decide +kernel)) (fun _ h9 => h9) rfl dX8_conditionAt_6 ?_
    refine lv_icmp_ge (tgt := 26) hx hb dX8_conditionAt_9 (by decide) (fun c_3 => ?_) (fun c_3 => ?_)
    · rw [if_pos c_3] at hT
      refine lv_null hx hb dX8_conditionAt_26 ?_
      exact END none hT _ _ hP hD hS _ _ dX8_conditionAt_27
    · rw [if_neg c_3] at hT
      refine lv_iload_n hx hb dX8_conditionAt_12 rfl (lv_at hl 1 rfl) ?_
      refine lv_iconst (v := 5) hx hb dX8_conditionAt_13 (by decide) ?_
      refine lv_icmp_ge (tgt := 26) hx hb dX8_conditionAt_14 (by decide) (fun c_4 => ?_) (fun c_4 => ?_)
      · rw [if_pos c_4] at hT
        refine lv_null hx hb dX8_conditionAt_26 ?_
        exact END none hT _ _ hP hD hS _ _ dX8_conditionAt_27
      · rw [if_neg c_4] at hT
        refine lv_aload_n hx hb dX8_conditionAt_17 rfl (lv_at hl 0 rfl) ?_
        obtain ⟨k_5, hk_5⟩ := List.getElem?_of_mem (pw_rule (ty := ty) (p := pp) (L := []) hm_a0)
        refine va_get (D := D) (ci := 10) (v := .ref (pA pp a0 1)) (C := RX8) (T := TX8) (N := 11) hx hb hts iv_k_X8_conditionAt_X8 hown hK hP k_5 hk_5 rfl 9 (by decide) (hts (.fieldLink RX8 21 "AnswerFold$Rule" "conditions" "[LAnswerFold$Literal;") (by decide +kernel)) (fun _ h9 => h9) rfl dX8_conditionAt_18 ?_
        refine lv_iload_n hx hb dX8_conditionAt_21 rfl (lv_at hl 1 rfl) ?_
        obtain ⟨k_6, hk_6⟩ := List.getElem?_of_mem (pw_conds (ty := ty) (p := pp) (L := []) hm_a0)
        refine va_aldq (D := D) hx hb hK hP k_6 5 hk_6 rfl (wi_in (wi_lo c_1) (wi_hi c_4 (by decide))) dX8_conditionAt_22 ?_
        rcases ho_22 : pF pp a0 1 a1.toNatClampNeg with _ | o_22
        · rw [ho_22, oE_none] at hT
          refine W.eq (g2 := F0 m 23 ls [.null]) rfl ?_
          refine lv_goto (tgt := 27) hx hb dX8_conditionAt_23 (by decide) ?_
          exact END none hT _ _ hP hD hS _ _ dX8_conditionAt_27
        · rw [ho_22, oE_some] at hT
          refine W.eq (g2 := F0 m 23 ls [.ref o_22]) rfl ?_
          refine lv_goto (tgt := 27) hx hb dX8_conditionAt_23 (by decide) ?_
          exact END (some o_22) hT _ _ hP hD hS _ _ dX8_conditionAt_27
theorem dX8_isDefinite_0 : decode cX8_isDefinite 0 = .ok (.iconst 0, 1) := by decide +kernel
theorem dX8_isDefinite_1 : decode cX8_isDefinite 1 = .ok (.istore_n 1, 1) := by decide +kernel
theorem dX8_isDefinite_2 : decode cX8_isDefinite 2 = .ok (.iload_n 1, 1) := by decide +kernel
theorem dX8_isDefinite_3 : decode cX8_isDefinite 3 = .ok (.aload_n 0, 1) := by decide +kernel
theorem dX8_isDefinite_4 : decode cX8_isDefinite 4 = .ok (.getfield 34, 3) := by decide +kernel
theorem dX8_isDefinite_7 : decode cX8_isDefinite 7 = .ok (.if_icmp .ge 37, 3) := by decide +kernel
theorem dX8_isDefinite_10 : decode cX8_isDefinite 10 = .ok (.aload_n 0, 1) := by decide +kernel
theorem dX8_isDefinite_11 : decode cX8_isDefinite 11 = .ok (.iload_n 1, 1) := by decide +kernel
theorem dX8_isDefinite_12 : decode cX8_isDefinite 12 = .ok (.invokevirtual 49, 3) := by decide +kernel
theorem dX8_isDefinite_15 : decode cX8_isDefinite 15 = .ok (.astore_n 2, 1) := by decide +kernel
theorem dX8_isDefinite_16 : decode cX8_isDefinite 16 = .ok (.aload_n 2, 1) := by decide +kernel
theorem dX8_isDefinite_17 : decode cX8_isDefinite 17 = .ok (.ifnull 21, 3) := by decide +kernel
theorem dX8_isDefinite_20 : decode cX8_isDefinite 20 = .ok (.aload_n 2, 1) := by decide +kernel
theorem dX8_isDefinite_21 : decode cX8_isDefinite 21 = .ok (.getfield 52, 3) := by decide +kernel
theorem dX8_isDefinite_24 : decode cX8_isDefinite 24 = .ok (.bipush 102, 2) := by decide +kernel
theorem dX8_isDefinite_26 : decode cX8_isDefinite 26 = .ok (.if_icmp .eq 10, 3) := by decide +kernel
theorem dX8_isDefinite_29 : decode cX8_isDefinite 29 = .ok (.aload_n 2, 1) := by decide +kernel
theorem dX8_isDefinite_30 : decode cX8_isDefinite 30 = .ok (.invokevirtual 53, 3) := by decide +kernel
theorem dX8_isDefinite_33 : decode cX8_isDefinite 33 = .ok (.ifCond .eq 5, 3) := by decide +kernel
theorem dX8_isDefinite_36 : decode cX8_isDefinite 36 = .ok (.iconst 0, 1) := by decide +kernel
theorem dX8_isDefinite_37 : decode cX8_isDefinite 37 = .ok (.ireturn, 1) := by decide +kernel
theorem dX8_isDefinite_38 : decode cX8_isDefinite 38 = .ok (.iinc 1 1, 3) := by decide +kernel
theorem dX8_isDefinite_41 : decode cX8_isDefinite 41 = .ok (.goto (-39), 3) := by decide +kernel
theorem dX8_isDefinite_44 : decode cX8_isDefinite 44 = .ok (.aload_n 0, 1) := by decide +kernel
theorem dX8_isDefinite_45 : decode cX8_isDefinite 45 = .ok (.getfield 24, 3) := by decide +kernel
theorem dX8_isDefinite_48 : decode cX8_isDefinite 48 = .ok (.bipush 100, 2) := by decide +kernel
theorem dX8_isDefinite_50 : decode cX8_isDefinite 50 = .ok (.if_icmp .ne 15, 3) := by decide +kernel
theorem dX8_isDefinite_53 : decode cX8_isDefinite 53 = .ok (.aload_n 0, 1) := by decide +kernel
theorem dX8_isDefinite_54 : decode cX8_isDefinite 54 = .ok (.getfield 31, 3) := by decide +kernel
theorem dX8_isDefinite_57 : decode cX8_isDefinite 57 = .ok (.iconst 1, 1) := by decide +kernel
theorem dX8_isDefinite_58 : decode cX8_isDefinite 58 = .ok (.if_icmp .ne 7, 3) := by decide +kernel
theorem dX8_isDefinite_61 : decode cX8_isDefinite 61 = .ok (.iconst 1, 1) := by decide +kernel
theorem dX8_isDefinite_62 : decode cX8_isDefinite 62 = .ok (.goto 4, 3) := by decide +kernel
theorem dX8_isDefinite_65 : decode cX8_isDefinite 65 = .ok (.iconst 0, 1) := by decide +kernel
theorem dX8_isDefinite_66 : decode cX8_isDefinite 66 = .ok (.ireturn, 1) := by decide +kernel
def vs_k_X8_isDefinite : List Cond := .code yX8_isDefinite cX8_isDefinite 3 (some .boolean) :: ([.fieldLink RX8 34 "AnswerFold$Rule" "conditionCount" "I", .fieldLink RX8 24 "AnswerFold$Rule" "kind" "C", .fieldLink RX8 31 "AnswerFold$Rule" "headCount" "I", .methodLink RX8 49 yX8_conditionAt, .instanceMethod yX8_conditionAt, .selects RX8 yX8_conditionAt yX8_conditionAt, .initialized RX8, .methodLink RX8 53 yX4_isCount, .instanceMethod yX4_isCount, .selects RX4 yX4_isCount yX4_isCount, .initialized RX4] ++ (u_ws RX8 TX8 11 ++ (vs_k_X8_conditionAt ++ (u_ws RX4 TX4 8 ++ (vs_k_X4_isCount)))))
theorem iv_k_X8_isDefinite_X4 : ∀ w ∈ u_ws RX4 TX4 8, w ∈ vs_k_X8_isDefinite := (fun _ h => List.mem_cons_of_mem _ (List.mem_append_right _ (List.mem_append_right _ (List.mem_append_right _ (List.mem_append_left _ h)))))
theorem iv_k_X8_isDefinite_X8 : ∀ w ∈ u_ws RX8 TX8 11, w ∈ vs_k_X8_isDefinite := (fun _ h => List.mem_cons_of_mem _ (List.mem_append_right _ (List.mem_append_left _ h)))
set_option maxRecDepth 20000 in
theorem gv_k_X8_isDefinite_0 : GoodIn vs_k_X8_isDefinite (wsV RX8 49 RX8 yX8_conditionAt vs_k_X8_conditionAt) := goodIn_app (goodIn_sub (by decide +kernel) (by decide +kernel)) (goodIn_sub (fun _ h => List.mem_cons_of_mem _ (List.mem_append_right _ (List.mem_append_right _ (List.mem_append_left _ h)))) (by decide +kernel))
set_option maxRecDepth 20000 in
theorem gv_k_X8_isDefinite_1 : GoodIn vs_k_X8_isDefinite (wsV RX8 53 RX4 yX4_isCount vs_k_X4_isCount) := goodIn_app (goodIn_sub (by decide +kernel) (by decide +kernel)) (goodIn_sub (fun _ h => List.mem_cons_of_mem _ (List.mem_append_right _ (List.mem_append_right _ (List.mem_append_right _ (List.mem_append_right _ (h)))))) (by decide +kernel))
set_option maxHeartbeats 4000000 in
set_option maxRecDepth 100000 in
theorem k_X8_isDefinite (l : Launch) (D : va_G) (ty : Nat → ClassId) (td mi sz : Nat) (pp : pT) (a0 : Nat) (hok : pOK pp) (hm_a0 : a0 ∈ pRA pp) (TT : r_k_X8_isDefinite) (hTT : TT = m_k_X8_isDefinite pp a0) : Met l yX8_isDefinite vs_k_X8_isDefinite { frames := 1, cells := 0, slots := 0, locals := 21 } (va_Pc [.ref a0] (wq_P D ty td mi ([] ++ pw ty pp) sz)) (va_Qi (fun (r : Int32) (u : va_W) => (r = TT ∧ (TT = 0 ∨ TT = 1) ∧ (u = ([] ++ pw ty pp)))) (wq_B D (va_A ([] ++ pw ty pp) sz)) (va_A ([] ++ pw ty pp) sz)) 0 0 (va_A ([] ++ pw ty pp) sz) := by
  refine Met.ofW (cc := cX8_isDefinite) (maxL := 3) (ret := (some .boolean)) (by decide) rfl ?_
  intro p e s m args below meth c s₁ B hml hv
  obtain ⟨rfl, hsz, hP, hK, hD0, hE⟩ := hv
  have hx := B.exec
  have hb := B.bytes
  have hr := B.returns
  have hts := atoms_spec (ws := vs_k_X8_isDefinite) B.pre
  have hown : s.vm.findClass RX8 = some m.cls := findClass_of_methodNamed B.named
  have hlocks := B.notSynchronized
  subst hsz
  have hD := hD0.self (sz := s.heap.size)
  generalize hAe : va_A ([] ++ pw ty pp) s.heap.size = A at hD hE ⊢
  have hA : ∀ q : Nat, s.heap.size ≤ q → A q := fun q h => by rw [← hAe]; exact Or.inr h
  have hS : va_S A s.heap s.heap [] := va_S.rf
  have hP : va_P D vwCl ([] ++ pw ty pp) s.heap := hP
  have hl := lv_entry ([.ref a0]) (n := 3) (Nat.le_of_ble_eq_true rfl)
  rw [lg_entry_eq]
  generalize (lg_sl ([.ref a0]) ++ List.replicate (3 - (lg_sl ([.ref a0])).length) Slot.unset).toArray = ls at hl ⊢
  have hl : lv_has ls 3 [(0, .ref a0)] := hl
  have END : ∀ (r : Int32), TT = r → (r = 0 ∨ r = 1) → ∀ (H : Heap) (locs : List Loc), va_P D vwCl ([] ++ pw ty pp) H → va_D A ([] ++ pw ty pp) → va_S A s.heap H locs → ∀ (ls : Array Slot) (pc : Nat), decode cX8_isDefinite pc = .ok (.ireturn, 1) → W p l e (headSpec vs_k_X8_isDefinite { frames := 1, cells := 0, slots := 0, locals := 21 }).room s m ([.ref a0] : List Value).toArray below meth c H locs 0 0 (MQ below (va_Qi (fun (r : Int32) (u : va_W) => (r = TT ∧ (TT = 0 ∨ TT = 1) ∧ (u = ([] ++ pw ty pp)))) (wq_B D A) A) ([.ref a0] : List Value).toArray s 0 0 A) (F0 m pc ls [.int r]) := by
    intro r hT hb01 H locs hP hD hS ls pc hd
    have hM : TT = r := hT
    exact W.zret (v := r) hx hb hr (wz_nar hb01) (fun t ht hW => ⟨⟨r, ([] ++ pw ty pp), rfl, ⟨(by rw [hM]), (by rw [hM]; exact hb01), rfl⟩, wq_B.of ht hP hD⟩, hS.F ht⟩) hS.2.2 hd
  have hT := hTT
  rw [m_k_X8_isDefinite] at hT
  refine lv_iconst (v := 0) hx hb dX8_isDefinite_0 (by decide) ?_
  refine lv_istore_n (lv' := [(1, .int 0), (0, .ref a0)]) hx hb dX8_isDefinite_1 rfl hl (by decide) rfl (fun ls hl => ?_)
  have L_2 : ∀ (n_2 : Nat) (v1_2 : Int32), (2147483648 - v1_2.toInt).toNat < n_2 → TT = m_k_X8_isDefinite_2 pp a0 n_2 v1_2 → 0 ≤ v1_2.toInt → ∀ (H : Heap) (locs : List Loc), va_P D vwCl ([] ++ pw ty pp) H → va_D A ([] ++ pw ty pp) → va_S A s.heap H locs → ∀ ls : Array Slot, lv_has ls 3 [(0, .ref a0), (1, .int v1_2)] → W p l e (headSpec vs_k_X8_isDefinite { frames := 1, cells := 0, slots := 0, locals := 21 }).room s m ([.ref a0] : List Value).toArray below meth c H locs 0 0 (MQ below (va_Qi (fun (r : Int32) (u : va_W) => (r = TT ∧ (TT = 0 ∨ TT = 1) ∧ (u = ([] ++ pw ty pp)))) (wq_B D A) A) ([.ref a0] : List Value).toArray s 0 0 A) (F0 m 2 ls []) := by
    intro n_2
    induction n_2 with
    | zero => intro v1_2 hu; exact absurd hu (Nat.not_lt_zero _)
    | succ n_2 ih_2 =>
      intro v1_2 hu_2 hT hn_2 H locs hP hD hS ls hl
      rw [m_k_X8_isDefinite_2_succ, m_k_X8_isDefinite_2s] at hT
      refine lv_iload_n hx hb dX8_isDefinite_2 rfl (lv_at hl 1 rfl) ?_
      refine lv_aload_n hx hb dX8_isDefinite_3 rfl (lv_at hl 0 rfl) ?_
      obtain ⟨k_1, hk_1⟩ := List.getElem?_of_mem (pw_rule (ty := ty) (p := pp) (L := []) hm_a0)
      refine va_get (D := D) (ci := 10) (v := .int (pI pp a0 10)) (C := RX8) (T := TX8) (N := 11) hx hb hts iv_k_X8_isDefinite_X8 hown hK hP k_1 hk_1 rfl 10 (by decide) (hts (.fieldLink RX8 34 "AnswerFold$Rule" "conditionCount" "I") (by decide +kernel)) (fun _ h9 => h9) rfl dX8_isDefinite_4 ?_
      refine lv_icmp_ge (tgt := 44) hx hb dX8_isDefinite_7 (by decide) (fun c_2 => ?_) (fun c_2 => ?_)
      · rw [if_pos c_2] at hT
        refine lv_aload_n hx hb dX8_isDefinite_44 rfl (lv_at hl 0 rfl) ?_
        obtain ⟨k_3, hk_3⟩ := List.getElem?_of_mem (pw_rule (ty := ty) (p := pp) (L := []) hm_a0)
        refine va_get (D := D) (ci := 10) (v := .int (pI pp a0 0)) (C := RX8) (T := TX8) (N := 11) hx hb hts iv_k_X8_isDefinite_X8 hown hK hP k_3 hk_3 rfl 0 (by decide) (hts (.fieldLink RX8 24 "AnswerFold$Rule" "kind" "C") (by decide +kernel)) (fun _ h9 => h9) rfl dX8_isDefinite_45 ?_
        refine lv_bipush (v := 100) hx hb dX8_isDefinite_48 (by decide) ?_
        refine lv_icmp_ne (tgt := 65) hx hb dX8_isDefinite_50 (by decide) (fun c_4 => ?_) (fun c_4 => ?_)
        · rw [if_neg c_4] at hT
          refine lv_iconst (v := 0) hx hb dX8_isDefinite_65 (by decide) ?_
          exact END 0 hT (by decide) _ _ hP hD hS _ _ dX8_isDefinite_66
        · rw [if_pos c_4] at hT
          refine lv_aload_n hx hb dX8_isDefinite_53 rfl (lv_at hl 0 rfl) ?_
          obtain ⟨k_5, hk_5⟩ := List.getElem?_of_mem (pw_rule (ty := ty) (p := pp) (L := []) hm_a0)
          refine va_get (D := D) (ci := 10) (v := .int (pI pp a0 8)) (C := RX8) (T := TX8) (N := 11) hx hb hts iv_k_X8_isDefinite_X8 hown hK hP k_5 hk_5 rfl 8 (by decide) (hts (.fieldLink RX8 31 "AnswerFold$Rule" "headCount" "I") (by decide +kernel)) (fun _ h9 => h9) rfl dX8_isDefinite_54 ?_
          refine lv_iconst (v := 1) hx hb dX8_isDefinite_57 (by decide) ?_
          refine lv_icmp_ne (tgt := 65) hx hb dX8_isDefinite_58 (by decide) (fun c_6 => ?_) (fun c_6 => ?_)
          · rw [if_neg c_6] at hT
            refine lv_iconst (v := 0) hx hb dX8_isDefinite_65 (by decide) ?_
            exact END 0 hT (by decide) _ _ hP hD hS _ _ dX8_isDefinite_66
          · rw [if_pos c_6] at hT
            refine lv_iconst (v := 1) hx hb dX8_isDefinite_61 (by decide) ?_
            refine lv_goto (tgt := 66) hx hb dX8_isDefinite_62 (by decide) ?_
            exact END 1 hT (by decide) _ _ hP hD hS _ _ dX8_isDefinite_66
      · rw [if_neg c_2] at hT
        refine lv_aload_n hx hb dX8_isDefinite_10 rfl (lv_at hl 0 rfl) ?_
        refine lv_iload_n hx hb dX8_isDefinite_11 rfl (lv_at hl 1 rfl) ?_
        obtain ⟨t_12, ht_12⟩ : ∃ t, t = m_k_X8_conditionAt pp a0 v1_2 := ⟨_, rfl⟩
        rw [lE_eq ht_12] at hT
        obtain ⟨k_7, hk_7⟩ := List.getElem?_of_mem (pw_rule (ty := ty) (p := pp) (L := []) hm_a0)
        refine wq_rPW (wc := []) (pl := pw ty pp) (ux := []) (va_runV (As := [.int v1_2]) (rest := []) ⟨hx, hb, hml, hown, hts⟩ (k_X8_conditionAt l D ty td mi H.size pp a0 v1_2 hok hm_a0 t_12 ht_12) (cwV 1 hts gv_k_X8_isDefinite_0 rfl rfl rfl (by decide +kernel) ⟨(Nat.le_of_ble_eq_true rfl), (Nat.le_of_ble_eq_true rfl)⟩) (wm_V (wm_preSP hP hD hK hE hS hA [] rfl) (va_recv (q0 := k_7) (ci := 10) hK hP rfl hk_7)) rfl rfl hl.1 rfl (lv_room (Nat.le_of_ble_eq_true rfl)) dX8_isDefinite_12 ⟨(Nat.le_of_ble_eq_true rfl), (Nat.le_of_ble_eq_true rfl)⟩) hS hA hP hD [] rfl rfl (fun _ _ h => h.2) (fun r H locs hw hP hD hS => ?_)
        obtain ⟨rfl, -⟩ := hw
        have hP : va_P D vwCl ([] ++ pw ty pp) H := hP
        have hD : va_D A ([] ++ pw ty pp) := hD
        refine W.widen (k := 0) (n := 0) (Nat.le_of_ble_eq_true rfl) (Nat.le_of_ble_eq_true rfl) ?_
        rcases ho_12 : t_12 with _ | o_12
        · rw [ho_12, oE_none] at hT
          refine W.eq (g2 := F0 m 15 ls [.null]) rfl ?_
          refine lv_astore_nN (lv' := [(2, .null), (0, .ref a0), (1, .int v1_2)]) hx hb dX8_isDefinite_15 rfl hl (by decide) rfl (fun ls hl => ?_)
          refine lv_aload_nN hx hb dX8_isDefinite_16 rfl (lv_at hl 0 rfl) ?_
          have J_38 : ∀ (_ : Unit), TT = m_k_X8_isDefinite_38 (m_k_X8_isDefinite_2 pp a0 n_2) v1_2 → ∀ (H : Heap) (locs : List Loc), va_P D vwCl ([] ++ pw ty pp) H → va_D A ([] ++ pw ty pp) → va_S A s.heap H locs → ∀ ls : Array Slot, lv_has ls 3 [(0, .ref a0), (1, .int v1_2)] → W p l e (headSpec vs_k_X8_isDefinite { frames := 1, cells := 0, slots := 0, locals := 21 }).room s m ([.ref a0] : List Value).toArray below meth c H locs 0 0 (MQ below (va_Qi (fun (r : Int32) (u : va_W) => (r = TT ∧ (TT = 0 ∨ TT = 1) ∧ (u = ([] ++ pw ty pp)))) (wq_B D A) A) ([.ref a0] : List Value).toArray s 0 0 A) (F0 m 38 ls []) := by
            intro _ hT  H locs hP hD hS ls hl
            rw [m_k_X8_isDefinite_38] at hT
            refine lv_iinc (v := v1_2 + 1) (lv' := [(1, .int (v1_2 + 1)), (0, .ref a0)]) hx hb dX8_isDefinite_38 hl (k := 1) rfl (by rfl) (by decide) rfl (fun ls hl => ?_)
            refine lv_goto (tgt := 2) hx hb dX8_isDefinite_41 (by decide) ?_
            exact ih_2 (v1_2 + 1) (wi_up hu_2 (Int32.not_le.mp c_2)) hT (wi_inc hn_2 (Int32.not_le.mp c_2)) _ _ hP hD hS _ (lv_sub hl [1, 0] rfl)
          refine lv_ifnullN (tgt := 38) hx hb dX8_isDefinite_17 (by decide) ?_
          exact J_38 () hT _ _ hP hD hS _ (lv_sub hl [1, 2] rfl)
        · rw [ho_12, oE_some] at hT
          refine W.eq (g2 := F0 m 15 ls [.ref o_12]) rfl ?_
          refine lv_astore_n (lv' := [(2, .ref o_12), (0, .ref a0), (1, .int v1_2)]) hx hb dX8_isDefinite_15 rfl hl (by decide) rfl (fun ls hl => ?_)
          refine lv_aload_n hx hb dX8_isDefinite_16 rfl (lv_at hl 0 rfl) ?_
          have J_38 : ∀ (_ : Unit), TT = m_k_X8_isDefinite_38 (m_k_X8_isDefinite_2 pp a0 n_2) v1_2 → ∀ (H : Heap) (locs : List Loc), va_P D vwCl ([] ++ pw ty pp) H → va_D A ([] ++ pw ty pp) → va_S A s.heap H locs → ∀ ls : Array Slot, lv_has ls 3 [(0, .ref a0), (1, .int v1_2)] → W p l e (headSpec vs_k_X8_isDefinite { frames := 1, cells := 0, slots := 0, locals := 21 }).room s m ([.ref a0] : List Value).toArray below meth c H locs 0 0 (MQ below (va_Qi (fun (r : Int32) (u : va_W) => (r = TT ∧ (TT = 0 ∨ TT = 1) ∧ (u = ([] ++ pw ty pp)))) (wq_B D A) A) ([.ref a0] : List Value).toArray s 0 0 A) (F0 m 38 ls []) := by
            intro _ hT  H locs hP hD hS ls hl
            rw [m_k_X8_isDefinite_38] at hT
            refine lv_iinc (v := v1_2 + 1) (lv' := [(1, .int (v1_2 + 1)), (0, .ref a0)]) hx hb dX8_isDefinite_38 hl (k := 1) rfl (by rfl) (by decide) rfl (fun ls hl => ?_)
            refine lv_goto (tgt := 2) hx hb dX8_isDefinite_41 (by decide) ?_
            exact ih_2 (v1_2 + 1) (wi_up hu_2 (Int32.not_le.mp c_2)) hT (wi_inc hn_2 (Int32.not_le.mp c_2)) _ _ hP hD hS _ (lv_sub hl [1, 0] rfl)
          refine lv_ifnull hx hb dX8_isDefinite_17 ?_
          refine lv_aload_n hx hb dX8_isDefinite_20 rfl (lv_at hl 0 rfl) ?_
          obtain ⟨k_10, hk_10⟩ := List.getElem?_of_mem (pw_lit (ty := ty) (p := pp) (L := []) (mm_k_X8_conditionAt pp a0 v1_2 hok hm_a0 _ (by rw [← ht_12]; exact ho_12)))
          refine va_getN (D := D) (ci := 6) (v := .int (pI pp o_12 0)) (C := RX4) (T := TX4) (N := 8) hx hb hts iv_k_X8_isDefinite_X4 hown hK hP k_10 hk_10 rfl 0 (by decide) (hE.at (.fieldLinkNest "AnswerFold$Rule" 52 "AnswerFold$Literal" "kind" "C" "AnswerFold") (by decide +kernel)) (fun _ h9 => h9) rfl dX8_isDefinite_21 ?_
          refine lv_bipush (v := 102) hx hb dX8_isDefinite_24 (by decide) ?_
          refine lv_icmp_eq (tgt := 36) hx hb dX8_isDefinite_26 (by decide) (fun c_11 => ?_) (fun c_11 => ?_)
          · rw [if_pos c_11] at hT
            refine lv_iconst (v := 0) hx hb dX8_isDefinite_36 (by decide) ?_
            exact END 0 hT (by decide) _ _ hP hD hS _ _ dX8_isDefinite_37
          · rw [if_neg c_11] at hT
            refine lv_aload_n hx hb dX8_isDefinite_29 rfl (lv_at hl 0 rfl) ?_
            obtain ⟨t_30, ht_30⟩ : ∃ t, t = m_k_X4_isCount pp o_12 := ⟨_, rfl⟩
            rw [lE_eq ht_30] at hT
            obtain ⟨k_12, hk_12⟩ := List.getElem?_of_mem (pw_lit (ty := ty) (p := pp) (L := []) (mm_k_X8_conditionAt pp a0 v1_2 hok hm_a0 _ (by rw [← ht_12]; exact ho_12)))
            refine wq_iPW (wc := []) (pl := pw ty pp) (ux := []) (va_runV (As := []) (rest := []) ⟨hx, hb, hml, hown, hts⟩ (k_X4_isCount l D ty td mi H.size pp o_12 hok (mm_k_X8_conditionAt pp a0 v1_2 hok hm_a0 _ (by rw [← ht_12]; exact ho_12)) t_30 ht_30) (cwV 0 hts gv_k_X8_isDefinite_1 rfl rfl rfl (by decide +kernel) ⟨(Nat.le_of_ble_eq_true rfl), (Nat.le_of_ble_eq_true rfl)⟩) (wm_V (wm_preSP hP hD hK hE hS hA [] rfl) (va_recv (q0 := k_12) (ci := 6) hK hP rfl hk_12)) rfl rfl hl.1 rfl (lv_room (Nat.le_of_ble_eq_true rfl)) dX8_isDefinite_30 ⟨(Nat.le_of_ble_eq_true rfl), (Nat.le_of_ble_eq_true rfl)⟩) hS hA hP hD [] rfl rfl (fun _ _ h => h.2.2) (fun r H locs hw hP hD hS => ?_)
            obtain ⟨hr0, c_15, -⟩ := hw
            subst r
            have hP : va_P D vwCl ([] ++ pw ty pp) H := hP
            have hD : va_D A ([] ++ pw ty pp) := hD
            refine W.widen (k := 0) (n := 0) (Nat.le_of_ble_eq_true rfl) (Nat.le_of_ble_eq_true rfl) ?_
            refine lv_if_eq (tgt := 38) hx hb dX8_isDefinite_33 (by decide) (fun c_16 => ?_) (fun c_16 => ?_)
            · rw [if_pos c_16] at hT
              exact J_38 () hT _ _ hP hD hS _ (lv_sub hl [1, 2] rfl)
            · rw [if_neg c_16] at hT
              refine lv_iconst (v := 0) hx hb dX8_isDefinite_36 (by decide) ?_
              exact END 0 hT (by decide) _ _ hP hD hS _ _ dX8_isDefinite_37
  exact L_2 wF 0 (wF_up 0) hT (by decide) _ _ hP hD hS _ (lv_sub hl [1, 0] rfl)
theorem dX8_hasCounts_0 : decode cX8_hasCounts 0 = .ok (.iconst 0, 1) := by decide +kernel
theorem dX8_hasCounts_1 : decode cX8_hasCounts 1 = .ok (.istore_n 1, 1) := by decide +kernel
theorem dX8_hasCounts_2 : decode cX8_hasCounts 2 = .ok (.iload_n 1, 1) := by decide +kernel
theorem dX8_hasCounts_3 : decode cX8_hasCounts 3 = .ok (.aload_n 0, 1) := by decide +kernel
theorem dX8_hasCounts_4 : decode cX8_hasCounts 4 = .ok (.getfield 34, 3) := by decide +kernel
theorem dX8_hasCounts_7 : decode cX8_hasCounts 7 = .ok (.if_icmp .ge 28, 3) := by decide +kernel
theorem dX8_hasCounts_10 : decode cX8_hasCounts 10 = .ok (.aload_n 0, 1) := by decide +kernel
theorem dX8_hasCounts_11 : decode cX8_hasCounts 11 = .ok (.iload_n 1, 1) := by decide +kernel
theorem dX8_hasCounts_12 : decode cX8_hasCounts 12 = .ok (.invokevirtual 49, 3) := by decide +kernel
theorem dX8_hasCounts_15 : decode cX8_hasCounts 15 = .ok (.astore_n 2, 1) := by decide +kernel
theorem dX8_hasCounts_16 : decode cX8_hasCounts 16 = .ok (.aload_n 2, 1) := by decide +kernel
theorem dX8_hasCounts_17 : decode cX8_hasCounts 17 = .ok (.ifnull 12, 3) := by decide +kernel
theorem dX8_hasCounts_20 : decode cX8_hasCounts 20 = .ok (.aload_n 2, 1) := by decide +kernel
theorem dX8_hasCounts_21 : decode cX8_hasCounts 21 = .ok (.invokevirtual 53, 3) := by decide +kernel
theorem dX8_hasCounts_24 : decode cX8_hasCounts 24 = .ok (.ifCond .eq 5, 3) := by decide +kernel
theorem dX8_hasCounts_27 : decode cX8_hasCounts 27 = .ok (.iconst 1, 1) := by decide +kernel
theorem dX8_hasCounts_28 : decode cX8_hasCounts 28 = .ok (.ireturn, 1) := by decide +kernel
theorem dX8_hasCounts_29 : decode cX8_hasCounts 29 = .ok (.iinc 1 1, 3) := by decide +kernel
theorem dX8_hasCounts_32 : decode cX8_hasCounts 32 = .ok (.goto (-30), 3) := by decide +kernel
theorem dX8_hasCounts_35 : decode cX8_hasCounts 35 = .ok (.iconst 0, 1) := by decide +kernel
theorem dX8_hasCounts_36 : decode cX8_hasCounts 36 = .ok (.ireturn, 1) := by decide +kernel
def vs_k_X8_hasCounts : List Cond := .code yX8_hasCounts cX8_hasCounts 3 (some .boolean) :: ([.fieldLink RX8 34 "AnswerFold$Rule" "conditionCount" "I", .methodLink RX8 49 yX8_conditionAt, .instanceMethod yX8_conditionAt, .selects RX8 yX8_conditionAt yX8_conditionAt, .initialized RX8, .methodLink RX8 53 yX4_isCount, .instanceMethod yX4_isCount, .selects RX4 yX4_isCount yX4_isCount, .initialized RX4] ++ (u_ws RX8 TX8 11 ++ (vs_k_X8_conditionAt ++ (vs_k_X4_isCount))))
theorem iv_k_X8_hasCounts_X8 : ∀ w ∈ u_ws RX8 TX8 11, w ∈ vs_k_X8_hasCounts := (fun _ h => List.mem_cons_of_mem _ (List.mem_append_right _ (List.mem_append_left _ h)))
set_option maxRecDepth 20000 in
theorem gv_k_X8_hasCounts_0 : GoodIn vs_k_X8_hasCounts (wsV RX8 49 RX8 yX8_conditionAt vs_k_X8_conditionAt) := goodIn_app (goodIn_sub (by decide +kernel) (by decide +kernel)) (goodIn_sub (fun _ h => List.mem_cons_of_mem _ (List.mem_append_right _ (List.mem_append_right _ (List.mem_append_left _ h)))) (by decide +kernel))
set_option maxRecDepth 20000 in
theorem gv_k_X8_hasCounts_1 : GoodIn vs_k_X8_hasCounts (wsV RX8 53 RX4 yX4_isCount vs_k_X4_isCount) := goodIn_app (goodIn_sub (by decide +kernel) (by decide +kernel)) (goodIn_sub (fun _ h => List.mem_cons_of_mem _ (List.mem_append_right _ (List.mem_append_right _ (List.mem_append_right _ (h))))) (by decide +kernel))
set_option maxHeartbeats 4000000 in
set_option maxRecDepth 100000 in
theorem k_X8_hasCounts (l : Launch) (D : va_G) (ty : Nat → ClassId) (td mi sz : Nat) (pp : pT) (a0 : Nat) (hok : pOK pp) (hm_a0 : a0 ∈ pRA pp) (TT : r_k_X8_hasCounts) (hTT : TT = m_k_X8_hasCounts pp a0) : Met l yX8_hasCounts vs_k_X8_hasCounts { frames := 1, cells := 0, slots := 0, locals := 21 } (va_Pc [.ref a0] (wq_P D ty td mi ([] ++ pw ty pp) sz)) (va_Qi (fun (r : Int32) (u : va_W) => (r = TT ∧ (TT = 0 ∨ TT = 1) ∧ (u = ([] ++ pw ty pp)))) (wq_B D (va_A ([] ++ pw ty pp) sz)) (va_A ([] ++ pw ty pp) sz)) 0 0 (va_A ([] ++ pw ty pp) sz) := by
  refine Met.ofW (cc := cX8_hasCounts) (maxL := 3) (ret := (some .boolean)) (by decide) rfl ?_
  intro p e s m args below meth c s₁ B hml hv
  obtain ⟨rfl, hsz, hP, hK, hD0, hE⟩ := hv
  have hx := B.exec
  have hb := B.bytes
  have hr := B.returns
  have hts := atoms_spec (ws := vs_k_X8_hasCounts) B.pre
  have hown : s.vm.findClass RX8 = some m.cls := findClass_of_methodNamed B.named
  have hlocks := B.notSynchronized
  subst hsz
  have hD := hD0.self (sz := s.heap.size)
  generalize hAe : va_A ([] ++ pw ty pp) s.heap.size = A at hD hE ⊢
  have hA : ∀ q : Nat, s.heap.size ≤ q → A q := fun q h => by rw [← hAe]; exact Or.inr h
  have hS : va_S A s.heap s.heap [] := va_S.rf
  have hP : va_P D vwCl ([] ++ pw ty pp) s.heap := hP
  have hl := lv_entry ([.ref a0]) (n := 3) (Nat.le_of_ble_eq_true rfl)
  rw [lg_entry_eq]
  generalize (lg_sl ([.ref a0]) ++ List.replicate (3 - (lg_sl ([.ref a0])).length) Slot.unset).toArray = ls at hl ⊢
  have hl : lv_has ls 3 [(0, .ref a0)] := hl
  have END : ∀ (r : Int32), TT = r → (r = 0 ∨ r = 1) → ∀ (H : Heap) (locs : List Loc), va_P D vwCl ([] ++ pw ty pp) H → va_D A ([] ++ pw ty pp) → va_S A s.heap H locs → ∀ (ls : Array Slot) (pc : Nat), decode cX8_hasCounts pc = .ok (.ireturn, 1) → W p l e (headSpec vs_k_X8_hasCounts { frames := 1, cells := 0, slots := 0, locals := 21 }).room s m ([.ref a0] : List Value).toArray below meth c H locs 0 0 (MQ below (va_Qi (fun (r : Int32) (u : va_W) => (r = TT ∧ (TT = 0 ∨ TT = 1) ∧ (u = ([] ++ pw ty pp)))) (wq_B D A) A) ([.ref a0] : List Value).toArray s 0 0 A) (F0 m pc ls [.int r]) := by
    intro r hT hb01 H locs hP hD hS ls pc hd
    have hM : TT = r := hT
    exact W.zret (v := r) hx hb hr (wz_nar hb01) (fun t ht hW => ⟨⟨r, ([] ++ pw ty pp), rfl, ⟨(by rw [hM]), (by rw [hM]; exact hb01), rfl⟩, wq_B.of ht hP hD⟩, hS.F ht⟩) hS.2.2 hd
  have hT := hTT
  rw [m_k_X8_hasCounts] at hT
  refine lv_iconst (v := 0) hx hb dX8_hasCounts_0 (by decide) ?_
  refine lv_istore_n (lv' := [(1, .int 0), (0, .ref a0)]) hx hb dX8_hasCounts_1 rfl hl (by decide) rfl (fun ls hl => ?_)
  have L_2 : ∀ (n_2 : Nat) (v1_2 : Int32), (2147483648 - v1_2.toInt).toNat < n_2 → TT = m_k_X8_hasCounts_2 pp a0 n_2 v1_2 → 0 ≤ v1_2.toInt → ∀ (H : Heap) (locs : List Loc), va_P D vwCl ([] ++ pw ty pp) H → va_D A ([] ++ pw ty pp) → va_S A s.heap H locs → ∀ ls : Array Slot, lv_has ls 3 [(0, .ref a0), (1, .int v1_2)] → W p l e (headSpec vs_k_X8_hasCounts { frames := 1, cells := 0, slots := 0, locals := 21 }).room s m ([.ref a0] : List Value).toArray below meth c H locs 0 0 (MQ below (va_Qi (fun (r : Int32) (u : va_W) => (r = TT ∧ (TT = 0 ∨ TT = 1) ∧ (u = ([] ++ pw ty pp)))) (wq_B D A) A) ([.ref a0] : List Value).toArray s 0 0 A) (F0 m 2 ls []) := by
    intro n_2
    induction n_2 with
    | zero => intro v1_2 hu; exact absurd hu (Nat.not_lt_zero _)
    | succ n_2 ih_2 =>
      intro v1_2 hu_2 hT hn_2 H locs hP hD hS ls hl
      rw [m_k_X8_hasCounts_2_succ, m_k_X8_hasCounts_2s] at hT
      refine lv_iload_n hx hb dX8_hasCounts_2 rfl (lv_at hl 1 rfl) ?_
      refine lv_aload_n hx hb dX8_hasCounts_3 rfl (lv_at hl 0 rfl) ?_
      obtain ⟨k_1, hk_1⟩ := List.getElem?_of_mem (pw_rule (ty := ty) (p := pp) (L := []) hm_a0)
      refine va_get (D := D) (ci := 10) (v := .int (pI pp a0 10)) (C := RX8) (T := TX8) (N := 11) hx hb hts iv_k_X8_hasCounts_X8 hown hK hP k_1 hk_1 rfl 10 (by decide) (hts (.fieldLink RX8 34 "AnswerFold$Rule" "conditionCount" "I") (by decide +kernel)) (fun _ h9 => h9) rfl dX8_hasCounts_4 ?_
      refine lv_icmp_ge (tgt := 35) hx hb dX8_hasCounts_7 (by decide) (fun c_2 => ?_) (fun c_2 => ?_)
      · rw [if_pos c_2] at hT
        refine lv_iconst (v := 0) hx hb dX8_hasCounts_35 (by decide) ?_
        exact END 0 hT (by decide) _ _ hP hD hS _ _ dX8_hasCounts_36
      · rw [if_neg c_2] at hT
        refine lv_aload_n hx hb dX8_hasCounts_10 rfl (lv_at hl 0 rfl) ?_
        refine lv_iload_n hx hb dX8_hasCounts_11 rfl (lv_at hl 1 rfl) ?_
        obtain ⟨t_12, ht_12⟩ : ∃ t, t = m_k_X8_conditionAt pp a0 v1_2 := ⟨_, rfl⟩
        rw [lE_eq ht_12] at hT
        obtain ⟨k_3, hk_3⟩ := List.getElem?_of_mem (pw_rule (ty := ty) (p := pp) (L := []) hm_a0)
        refine wq_rPW (wc := []) (pl := pw ty pp) (ux := []) (va_runV (As := [.int v1_2]) (rest := []) ⟨hx, hb, hml, hown, hts⟩ (k_X8_conditionAt l D ty td mi H.size pp a0 v1_2 hok hm_a0 t_12 ht_12) (cwV 1 hts gv_k_X8_hasCounts_0 rfl rfl rfl (by decide +kernel) ⟨(Nat.le_of_ble_eq_true rfl), (Nat.le_of_ble_eq_true rfl)⟩) (wm_V (wm_preSP hP hD hK hE hS hA [] rfl) (va_recv (q0 := k_3) (ci := 10) hK hP rfl hk_3)) rfl rfl hl.1 rfl (lv_room (Nat.le_of_ble_eq_true rfl)) dX8_hasCounts_12 ⟨(Nat.le_of_ble_eq_true rfl), (Nat.le_of_ble_eq_true rfl)⟩) hS hA hP hD [] rfl rfl (fun _ _ h => h.2) (fun r H locs hw hP hD hS => ?_)
        obtain ⟨rfl, -⟩ := hw
        have hP : va_P D vwCl ([] ++ pw ty pp) H := hP
        have hD : va_D A ([] ++ pw ty pp) := hD
        refine W.widen (k := 0) (n := 0) (Nat.le_of_ble_eq_true rfl) (Nat.le_of_ble_eq_true rfl) ?_
        rcases ho_12 : t_12 with _ | o_12
        · rw [ho_12, oE_none] at hT
          refine W.eq (g2 := F0 m 15 ls [.null]) rfl ?_
          refine lv_astore_nN (lv' := [(2, .null), (0, .ref a0), (1, .int v1_2)]) hx hb dX8_hasCounts_15 rfl hl (by decide) rfl (fun ls hl => ?_)
          refine lv_aload_nN hx hb dX8_hasCounts_16 rfl (lv_at hl 0 rfl) ?_
          have J_29 : ∀ (_ : Unit), TT = m_k_X8_hasCounts_29 (m_k_X8_hasCounts_2 pp a0 n_2) v1_2 → ∀ (H : Heap) (locs : List Loc), va_P D vwCl ([] ++ pw ty pp) H → va_D A ([] ++ pw ty pp) → va_S A s.heap H locs → ∀ ls : Array Slot, lv_has ls 3 [(0, .ref a0), (1, .int v1_2)] → W p l e (headSpec vs_k_X8_hasCounts { frames := 1, cells := 0, slots := 0, locals := 21 }).room s m ([.ref a0] : List Value).toArray below meth c H locs 0 0 (MQ below (va_Qi (fun (r : Int32) (u : va_W) => (r = TT ∧ (TT = 0 ∨ TT = 1) ∧ (u = ([] ++ pw ty pp)))) (wq_B D A) A) ([.ref a0] : List Value).toArray s 0 0 A) (F0 m 29 ls []) := by
            intro _ hT  H locs hP hD hS ls hl
            rw [m_k_X8_hasCounts_29] at hT
            refine lv_iinc (v := v1_2 + 1) (lv' := [(1, .int (v1_2 + 1)), (0, .ref a0)]) hx hb dX8_hasCounts_29 hl (k := 1) rfl (by rfl) (by decide) rfl (fun ls hl => ?_)
            refine lv_goto (tgt := 2) hx hb dX8_hasCounts_32 (by decide) ?_
            exact ih_2 (v1_2 + 1) (wi_up hu_2 (Int32.not_le.mp c_2)) hT (wi_inc hn_2 (Int32.not_le.mp c_2)) _ _ hP hD hS _ (lv_sub hl [1, 0] rfl)
          refine lv_ifnullN (tgt := 29) hx hb dX8_hasCounts_17 (by decide) ?_
          exact J_29 () hT _ _ hP hD hS _ (lv_sub hl [1, 2] rfl)
        · rw [ho_12, oE_some] at hT
          refine W.eq (g2 := F0 m 15 ls [.ref o_12]) rfl ?_
          refine lv_astore_n (lv' := [(2, .ref o_12), (0, .ref a0), (1, .int v1_2)]) hx hb dX8_hasCounts_15 rfl hl (by decide) rfl (fun ls hl => ?_)
          refine lv_aload_n hx hb dX8_hasCounts_16 rfl (lv_at hl 0 rfl) ?_
          have J_29 : ∀ (_ : Unit), TT = m_k_X8_hasCounts_29 (m_k_X8_hasCounts_2 pp a0 n_2) v1_2 → ∀ (H : Heap) (locs : List Loc), va_P D vwCl ([] ++ pw ty pp) H → va_D A ([] ++ pw ty pp) → va_S A s.heap H locs → ∀ ls : Array Slot, lv_has ls 3 [(0, .ref a0), (1, .int v1_2)] → W p l e (headSpec vs_k_X8_hasCounts { frames := 1, cells := 0, slots := 0, locals := 21 }).room s m ([.ref a0] : List Value).toArray below meth c H locs 0 0 (MQ below (va_Qi (fun (r : Int32) (u : va_W) => (r = TT ∧ (TT = 0 ∨ TT = 1) ∧ (u = ([] ++ pw ty pp)))) (wq_B D A) A) ([.ref a0] : List Value).toArray s 0 0 A) (F0 m 29 ls []) := by
            intro _ hT  H locs hP hD hS ls hl
            rw [m_k_X8_hasCounts_29] at hT
            refine lv_iinc (v := v1_2 + 1) (lv' := [(1, .int (v1_2 + 1)), (0, .ref a0)]) hx hb dX8_hasCounts_29 hl (k := 1) rfl (by rfl) (by decide) rfl (fun ls hl => ?_)
            refine lv_goto (tgt := 2) hx hb dX8_hasCounts_32 (by decide) ?_
            exact ih_2 (v1_2 + 1) (wi_up hu_2 (Int32.not_le.mp c_2)) hT (wi_inc hn_2 (Int32.not_le.mp c_2)) _ _ hP hD hS _ (lv_sub hl [1, 0] rfl)
          refine lv_ifnull hx hb dX8_hasCounts_17 ?_
          refine lv_aload_n hx hb dX8_hasCounts_20 rfl (lv_at hl 0 rfl) ?_
          obtain ⟨t_21, ht_21⟩ : ∃ t, t = m_k_X4_isCount pp o_12 := ⟨_, rfl⟩
          rw [lE_eq ht_21] at hT
          obtain ⟨k_6, hk_6⟩ := List.getElem?_of_mem (pw_lit (ty := ty) (p := pp) (L := []) (mm_k_X8_conditionAt pp a0 v1_2 hok hm_a0 _ (by rw [← ht_12]; exact ho_12)))
          refine wq_iPW (wc := []) (pl := pw ty pp) (ux := []) (va_runV (As := []) (rest := []) ⟨hx, hb, hml, hown, hts⟩ (k_X4_isCount l D ty td mi H.size pp o_12 hok (mm_k_X8_conditionAt pp a0 v1_2 hok hm_a0 _ (by rw [← ht_12]; exact ho_12)) t_21 ht_21) (cwV 0 hts gv_k_X8_hasCounts_1 rfl rfl rfl (by decide +kernel) ⟨(Nat.le_of_ble_eq_true rfl), (Nat.le_of_ble_eq_true rfl)⟩) (wm_V (wm_preSP hP hD hK hE hS hA [] rfl) (va_recv (q0 := k_6) (ci := 6) hK hP rfl hk_6)) rfl rfl hl.1 rfl (lv_room (Nat.le_of_ble_eq_true rfl)) dX8_hasCounts_21 ⟨(Nat.le_of_ble_eq_true rfl), (Nat.le_of_ble_eq_true rfl)⟩) hS hA hP hD [] rfl rfl (fun _ _ h => h.2.2) (fun r H locs hw hP hD hS => ?_)
          obtain ⟨hr0, c_9, -⟩ := hw
          subst r
          have hP : va_P D vwCl ([] ++ pw ty pp) H := hP
          have hD : va_D A ([] ++ pw ty pp) := hD
          refine W.widen (k := 0) (n := 0) (Nat.le_of_ble_eq_true rfl) (Nat.le_of_ble_eq_true rfl) ?_
          refine lv_if_eq (tgt := 29) hx hb dX8_hasCounts_24 (by decide) (fun c_10 => ?_) (fun c_10 => ?_)
          · rw [if_pos c_10] at hT
            exact J_29 () hT _ _ hP hD hS _ (lv_sub hl [1, 2] rfl)
          · rw [if_neg c_10] at hT
            refine lv_iconst (v := 1) hx hb dX8_hasCounts_27 (by decide) ?_
            exact END 1 hT (by decide) _ _ hP hD hS _ _ dX8_hasCounts_28
  exact L_2 wF 0 (wF_up 0) hT (by decide) _ _ hP hD hS _ (lv_sub hl [1, 0] rfl)
theorem dX8_neededPredicates_0 : decode cX8_neededPredicates 0 = .ok (.iconst 0, 1) := by decide +kernel
theorem dX8_neededPredicates_1 : decode cX8_neededPredicates 1 = .ok (.istore_n 1, 1) := by decide +kernel
theorem dX8_neededPredicates_2 : decode cX8_neededPredicates 2 = .ok (.iconst 0, 1) := by decide +kernel
theorem dX8_neededPredicates_3 : decode cX8_neededPredicates 3 = .ok (.istore_n 2, 1) := by decide +kernel
theorem dX8_neededPredicates_4 : decode cX8_neededPredicates 4 = .ok (.iload_n 2, 1) := by decide +kernel
theorem dX8_neededPredicates_5 : decode cX8_neededPredicates 5 = .ok (.aload_n 0, 1) := by decide +kernel
theorem dX8_neededPredicates_6 : decode cX8_neededPredicates 6 = .ok (.getfield 34, 3) := by decide +kernel
theorem dX8_neededPredicates_9 : decode cX8_neededPredicates 9 = .ok (.if_icmp .ge 37, 3) := by decide +kernel
theorem dX8_neededPredicates_12 : decode cX8_neededPredicates 12 = .ok (.aload_n 0, 1) := by decide +kernel
theorem dX8_neededPredicates_13 : decode cX8_neededPredicates 13 = .ok (.iload_n 2, 1) := by decide +kernel
theorem dX8_neededPredicates_14 : decode cX8_neededPredicates 14 = .ok (.invokevirtual 49, 3) := by decide +kernel
theorem dX8_neededPredicates_17 : decode cX8_neededPredicates 17 = .ok (.astore_n 3, 1) := by decide +kernel
theorem dX8_neededPredicates_18 : decode cX8_neededPredicates 18 = .ok (.aload_n 3, 1) := by decide +kernel
theorem dX8_neededPredicates_19 : decode cX8_neededPredicates 19 = .ok (.ifnull 21, 3) := by decide +kernel
theorem dX8_neededPredicates_22 : decode cX8_neededPredicates 22 = .ok (.aload_n 3, 1) := by decide +kernel
theorem dX8_neededPredicates_23 : decode cX8_neededPredicates 23 = .ok (.getfield 52, 3) := by decide +kernel
theorem dX8_neededPredicates_26 : decode cX8_neededPredicates 26 = .ok (.bipush 116, 2) := by decide +kernel
theorem dX8_neededPredicates_28 : decode cX8_neededPredicates 28 = .ok (.if_icmp .ne 12, 3) := by decide +kernel
theorem dX8_neededPredicates_31 : decode cX8_neededPredicates 31 = .ok (.iload_n 1, 1) := by decide +kernel
theorem dX8_neededPredicates_32 : decode cX8_neededPredicates 32 = .ok (.iconst 1, 1) := by decide +kernel
theorem dX8_neededPredicates_33 : decode cX8_neededPredicates 33 = .ok (.aload_n 3, 1) := by decide +kernel
theorem dX8_neededPredicates_34 : decode cX8_neededPredicates 34 = .ok (.getfield 56, 3) := by decide +kernel
theorem dX8_neededPredicates_37 : decode cX8_neededPredicates 37 = .ok (.ishl, 1) := by decide +kernel
theorem dX8_neededPredicates_38 : decode cX8_neededPredicates 38 = .ok (.ior, 1) := by decide +kernel
theorem dX8_neededPredicates_39 : decode cX8_neededPredicates 39 = .ok (.istore_n 1, 1) := by decide +kernel
theorem dX8_neededPredicates_40 : decode cX8_neededPredicates 40 = .ok (.iinc 2 1, 3) := by decide +kernel
theorem dX8_neededPredicates_43 : decode cX8_neededPredicates 43 = .ok (.goto (-39), 3) := by decide +kernel
theorem dX8_neededPredicates_46 : decode cX8_neededPredicates 46 = .ok (.iload_n 1, 1) := by decide +kernel
theorem dX8_neededPredicates_47 : decode cX8_neededPredicates 47 = .ok (.ireturn, 1) := by decide +kernel
def vs_k_X8_neededPredicates : List Cond := .code yX8_neededPredicates cX8_neededPredicates 4 (some .int) :: ([.fieldLink RX8 34 "AnswerFold$Rule" "conditionCount" "I", .methodLink RX8 49 yX8_conditionAt, .instanceMethod yX8_conditionAt, .selects RX8 yX8_conditionAt yX8_conditionAt, .initialized RX8] ++ (u_ws RX8 TX8 11 ++ (vs_k_X8_conditionAt ++ (u_ws RX4 TX4 8))))
theorem iv_k_X8_neededPredicates_X4 : ∀ w ∈ u_ws RX4 TX4 8, w ∈ vs_k_X8_neededPredicates := (fun _ h => List.mem_cons_of_mem _ (List.mem_append_right _ (List.mem_append_right _ (List.mem_append_right _ (h)))))
theorem iv_k_X8_neededPredicates_X8 : ∀ w ∈ u_ws RX8 TX8 11, w ∈ vs_k_X8_neededPredicates := (fun _ h => List.mem_cons_of_mem _ (List.mem_append_right _ (List.mem_append_left _ h)))
set_option maxRecDepth 20000 in
theorem gv_k_X8_neededPredicates_0 : GoodIn vs_k_X8_neededPredicates (wsV RX8 49 RX8 yX8_conditionAt vs_k_X8_conditionAt) := goodIn_app (goodIn_sub (by decide +kernel) (by decide +kernel)) (goodIn_sub (fun _ h => List.mem_cons_of_mem _ (List.mem_append_right _ (List.mem_append_right _ (List.mem_append_left _ h)))) (by decide +kernel))
set_option maxHeartbeats 4000000 in
set_option maxRecDepth 100000 in
theorem k_X8_neededPredicates (l : Launch) (D : va_G) (ty : Nat → ClassId) (td mi sz : Nat) (pp : pT) (a0 : Nat) (hok : pOK pp) (hm_a0 : a0 ∈ pRA pp) (TT : r_k_X8_neededPredicates) (hTT : TT = m_k_X8_neededPredicates pp a0) : Met l yX8_neededPredicates vs_k_X8_neededPredicates { frames := 1, cells := 0, slots := 0, locals := 21 } (va_Pc [.ref a0] (wq_P D ty td mi ([] ++ pw ty pp) sz)) (va_Qi (fun (r : Int32) (u : va_W) => (r = TT ∧ (u = ([] ++ pw ty pp)))) (wq_B D (va_A ([] ++ pw ty pp) sz)) (va_A ([] ++ pw ty pp) sz)) 0 0 (va_A ([] ++ pw ty pp) sz) := by
  refine Met.ofW (cc := cX8_neededPredicates) (maxL := 4) (ret := (some .int)) (by decide) rfl ?_
  intro p e s m args below meth c s₁ B hml hv
  obtain ⟨rfl, hsz, hP, hK, hD0, hE⟩ := hv
  have hx := B.exec
  have hb := B.bytes
  have hr := B.returns
  have hts := atoms_spec (ws := vs_k_X8_neededPredicates) B.pre
  have hown : s.vm.findClass RX8 = some m.cls := findClass_of_methodNamed B.named
  have hlocks := B.notSynchronized
  subst hsz
  have hD := hD0.self (sz := s.heap.size)
  generalize hAe : va_A ([] ++ pw ty pp) s.heap.size = A at hD hE ⊢
  have hA : ∀ q : Nat, s.heap.size ≤ q → A q := fun q h => by rw [← hAe]; exact Or.inr h
  have hS : va_S A s.heap s.heap [] := va_S.rf
  have hP : va_P D vwCl ([] ++ pw ty pp) s.heap := hP
  have hl := lv_entry ([.ref a0]) (n := 4) (Nat.le_of_ble_eq_true rfl)
  rw [lg_entry_eq]
  generalize (lg_sl ([.ref a0]) ++ List.replicate (4 - (lg_sl ([.ref a0])).length) Slot.unset).toArray = ls at hl ⊢
  have hl : lv_has ls 4 [(0, .ref a0)] := hl
  have END : ∀ (r : Int32), TT = r → ∀ (H : Heap) (locs : List Loc), va_P D vwCl ([] ++ pw ty pp) H → va_D A ([] ++ pw ty pp) → va_S A s.heap H locs → ∀ (ls : Array Slot) (pc : Nat), decode cX8_neededPredicates pc = .ok (.ireturn, 1) → W p l e (headSpec vs_k_X8_neededPredicates { frames := 1, cells := 0, slots := 0, locals := 21 }).room s m ([.ref a0] : List Value).toArray below meth c H locs 0 0 (MQ below (va_Qi (fun (r : Int32) (u : va_W) => (r = TT ∧ (u = ([] ++ pw ty pp)))) (wq_B D A) A) ([.ref a0] : List Value).toArray s 0 0 A) (F0 m pc ls [.int r]) := by
    intro r hT H locs hP hD hS ls pc hd
    have hM : TT = r := hT
    exact W.iret (v := r) hx hb hr (fun t ht hW => ⟨⟨r, ([] ++ pw ty pp), rfl, ⟨(by rw [hM]), rfl⟩, wq_B.of ht hP hD⟩, hS.F ht⟩) hS.2.2 hd
  have hT := hTT
  rw [m_k_X8_neededPredicates] at hT
  refine lv_iconst (v := 0) hx hb dX8_neededPredicates_0 (by decide) ?_
  refine lv_istore_n (lv' := [(1, .int 0), (0, .ref a0)]) hx hb dX8_neededPredicates_1 rfl hl (by decide) rfl (fun ls hl => ?_)
  refine lv_iconst (v := 0) hx hb dX8_neededPredicates_2 (by decide) ?_
  refine lv_istore_n (lv' := [(2, .int 0), (1, .int 0), (0, .ref a0)]) hx hb dX8_neededPredicates_3 rfl hl (by decide) rfl (fun ls hl => ?_)
  have L_4 : ∀ (n_4 : Nat) (v1_4 : Int32) (v2_4 : Int32), (2147483648 - v2_4.toInt).toNat < n_4 → TT = m_k_X8_neededPredicates_4 pp a0 n_4 v1_4 v2_4 → 0 ≤ v2_4.toInt → ∀ (H : Heap) (locs : List Loc), va_P D vwCl ([] ++ pw ty pp) H → va_D A ([] ++ pw ty pp) → va_S A s.heap H locs → ∀ ls : Array Slot, lv_has ls 4 [(0, .ref a0), (1, .int v1_4), (2, .int v2_4)] → W p l e (headSpec vs_k_X8_neededPredicates { frames := 1, cells := 0, slots := 0, locals := 21 }).room s m ([.ref a0] : List Value).toArray below meth c H locs 0 0 (MQ below (va_Qi (fun (r : Int32) (u : va_W) => (r = TT ∧ (u = ([] ++ pw ty pp)))) (wq_B D A) A) ([.ref a0] : List Value).toArray s 0 0 A) (F0 m 4 ls []) := by
    intro n_4
    induction n_4 with
    | zero => intro v1_4 v2_4 hu; exact absurd hu (Nat.not_lt_zero _)
    | succ n_4 ih_4 =>
      intro v1_4 v2_4 hu_4 hT hn_4 H locs hP hD hS ls hl
      rw [m_k_X8_neededPredicates_4_succ, m_k_X8_neededPredicates_4s] at hT
      refine lv_iload_n hx hb dX8_neededPredicates_4 rfl (lv_at hl 2 rfl) ?_
      refine lv_aload_n hx hb dX8_neededPredicates_5 rfl (lv_at hl 0 rfl) ?_
      obtain ⟨k_1, hk_1⟩ := List.getElem?_of_mem (pw_rule (ty := ty) (p := pp) (L := []) hm_a0)
      refine va_get (D := D) (ci := 10) (v := .int (pI pp a0 10)) (C := RX8) (T := TX8) (N := 11) hx hb hts iv_k_X8_neededPredicates_X8 hown hK hP k_1 hk_1 rfl 10 (by decide) (hts (.fieldLink RX8 34 "AnswerFold$Rule" "conditionCount" "I") (by decide +kernel)) (fun _ h9 => h9) rfl dX8_neededPredicates_6 ?_
      refine lv_icmp_ge (tgt := 46) hx hb dX8_neededPredicates_9 (by decide) (fun c_2 => ?_) (fun c_2 => ?_)
      · rw [if_pos c_2] at hT
        refine lv_iload_n hx hb dX8_neededPredicates_46 rfl (lv_at hl 1 rfl) ?_
        exact END v1_4 hT _ _ hP hD hS _ _ dX8_neededPredicates_47
      · rw [if_neg c_2] at hT
        refine lv_aload_n hx hb dX8_neededPredicates_12 rfl (lv_at hl 0 rfl) ?_
        refine lv_iload_n hx hb dX8_neededPredicates_13 rfl (lv_at hl 2 rfl) ?_
        obtain ⟨t_14, ht_14⟩ : ∃ t, t = m_k_X8_conditionAt pp a0 v2_4 := ⟨_, rfl⟩
        rw [lE_eq ht_14] at hT
        obtain ⟨k_3, hk_3⟩ := List.getElem?_of_mem (pw_rule (ty := ty) (p := pp) (L := []) hm_a0)
        refine wq_rPW (wc := []) (pl := pw ty pp) (ux := []) (va_runV (As := [.int v2_4]) (rest := []) ⟨hx, hb, hml, hown, hts⟩ (k_X8_conditionAt l D ty td mi H.size pp a0 v2_4 hok hm_a0 t_14 ht_14) (cwV 1 hts gv_k_X8_neededPredicates_0 rfl rfl rfl (by decide +kernel) ⟨(Nat.le_of_ble_eq_true rfl), (Nat.le_of_ble_eq_true rfl)⟩) (wm_V (wm_preSP hP hD hK hE hS hA [] rfl) (va_recv (q0 := k_3) (ci := 10) hK hP rfl hk_3)) rfl rfl hl.1 rfl (lv_room (Nat.le_of_ble_eq_true rfl)) dX8_neededPredicates_14 ⟨(Nat.le_of_ble_eq_true rfl), (Nat.le_of_ble_eq_true rfl)⟩) hS hA hP hD [] rfl rfl (fun _ _ h => h.2) (fun r H locs hw hP hD hS => ?_)
        obtain ⟨rfl, -⟩ := hw
        have hP : va_P D vwCl ([] ++ pw ty pp) H := hP
        have hD : va_D A ([] ++ pw ty pp) := hD
        refine W.widen (k := 0) (n := 0) (Nat.le_of_ble_eq_true rfl) (Nat.le_of_ble_eq_true rfl) ?_
        rcases ho_14 : t_14 with _ | o_14
        · rw [ho_14, oE_none] at hT
          refine W.eq (g2 := F0 m 17 ls [.null]) rfl ?_
          refine lv_astore_nN (lv' := [(3, .null), (0, .ref a0), (1, .int v1_4), (2, .int v2_4)]) hx hb dX8_neededPredicates_17 rfl hl (by decide) rfl (fun ls hl => ?_)
          refine lv_aload_nN hx hb dX8_neededPredicates_18 rfl (lv_at hl 0 rfl) ?_
          have J_40 : ∀ (v1_40 : Int32), TT = m_k_X8_neededPredicates_40 (m_k_X8_neededPredicates_4 pp a0 n_4) v2_4 v1_40 → ∀ (H : Heap) (locs : List Loc), va_P D vwCl ([] ++ pw ty pp) H → va_D A ([] ++ pw ty pp) → va_S A s.heap H locs → ∀ ls : Array Slot, lv_has ls 4 [(0, .ref a0), (1, .int v1_40), (2, .int v2_4)] → W p l e (headSpec vs_k_X8_neededPredicates { frames := 1, cells := 0, slots := 0, locals := 21 }).room s m ([.ref a0] : List Value).toArray below meth c H locs 0 0 (MQ below (va_Qi (fun (r : Int32) (u : va_W) => (r = TT ∧ (u = ([] ++ pw ty pp)))) (wq_B D A) A) ([.ref a0] : List Value).toArray s 0 0 A) (F0 m 40 ls []) := by
            intro v1_40 hT  H locs hP hD hS ls hl
            rw [m_k_X8_neededPredicates_40] at hT
            refine lv_iinc (v := v2_4 + 1) (lv' := [(2, .int (v2_4 + 1)), (0, .ref a0), (1, .int v1_40)]) hx hb dX8_neededPredicates_40 hl (k := 2) rfl (by rfl) (by decide) rfl (fun ls hl => ?_)
            refine lv_goto (tgt := 4) hx hb dX8_neededPredicates_43 (by decide) ?_
            exact ih_4 v1_40 (v2_4 + 1) (wi_up hu_4 (Int32.not_le.mp c_2)) hT (wi_inc hn_4 (Int32.not_le.mp c_2)) _ _ hP hD hS _ (lv_sub hl [1, 2, 0] rfl)
          refine lv_ifnullN (tgt := 40) hx hb dX8_neededPredicates_19 (by decide) ?_
          exact J_40 v1_4 hT _ _ hP hD hS _ (lv_sub hl [1, 2, 3] rfl)
        · rw [ho_14, oE_some] at hT
          refine W.eq (g2 := F0 m 17 ls [.ref o_14]) rfl ?_
          refine lv_astore_n (lv' := [(3, .ref o_14), (0, .ref a0), (1, .int v1_4), (2, .int v2_4)]) hx hb dX8_neededPredicates_17 rfl hl (by decide) rfl (fun ls hl => ?_)
          refine lv_aload_n hx hb dX8_neededPredicates_18 rfl (lv_at hl 0 rfl) ?_
          have J_40 : ∀ (v1_40 : Int32), TT = m_k_X8_neededPredicates_40 (m_k_X8_neededPredicates_4 pp a0 n_4) v2_4 v1_40 → ∀ (H : Heap) (locs : List Loc), va_P D vwCl ([] ++ pw ty pp) H → va_D A ([] ++ pw ty pp) → va_S A s.heap H locs → ∀ ls : Array Slot, lv_has ls 4 [(0, .ref a0), (1, .int v1_40), (2, .int v2_4)] → W p l e (headSpec vs_k_X8_neededPredicates { frames := 1, cells := 0, slots := 0, locals := 21 }).room s m ([.ref a0] : List Value).toArray below meth c H locs 0 0 (MQ below (va_Qi (fun (r : Int32) (u : va_W) => (r = TT ∧ (u = ([] ++ pw ty pp)))) (wq_B D A) A) ([.ref a0] : List Value).toArray s 0 0 A) (F0 m 40 ls []) := by
            intro v1_40 hT  H locs hP hD hS ls hl
            rw [m_k_X8_neededPredicates_40] at hT
            refine lv_iinc (v := v2_4 + 1) (lv' := [(2, .int (v2_4 + 1)), (0, .ref a0), (1, .int v1_40)]) hx hb dX8_neededPredicates_40 hl (k := 2) rfl (by rfl) (by decide) rfl (fun ls hl => ?_)
            refine lv_goto (tgt := 4) hx hb dX8_neededPredicates_43 (by decide) ?_
            exact ih_4 v1_40 (v2_4 + 1) (wi_up hu_4 (Int32.not_le.mp c_2)) hT (wi_inc hn_4 (Int32.not_le.mp c_2)) _ _ hP hD hS _ (lv_sub hl [1, 2, 0] rfl)
          refine lv_ifnull hx hb dX8_neededPredicates_19 ?_
          refine lv_aload_n hx hb dX8_neededPredicates_22 rfl (lv_at hl 0 rfl) ?_
          obtain ⟨k_6, hk_6⟩ := List.getElem?_of_mem (pw_lit (ty := ty) (p := pp) (L := []) (mm_k_X8_conditionAt pp a0 v2_4 hok hm_a0 _ (by rw [← ht_14]; exact ho_14)))
          refine va_getN (D := D) (ci := 6) (v := .int (pI pp o_14 0)) (C := RX4) (T := TX4) (N := 8) hx hb hts iv_k_X8_neededPredicates_X4 hown hK hP k_6 hk_6 rfl 0 (by decide) (hE.at (.fieldLinkNest "AnswerFold$Rule" 52 "AnswerFold$Literal" "kind" "C" "AnswerFold") (by decide +kernel)) (fun _ h9 => h9) rfl dX8_neededPredicates_23 ?_
          refine lv_bipush (v := 116) hx hb dX8_neededPredicates_26 (by decide) ?_
          refine lv_icmp_ne (tgt := 40) hx hb dX8_neededPredicates_28 (by decide) (fun c_7 => ?_) (fun c_7 => ?_)
          · rw [if_neg c_7] at hT
            exact J_40 v1_4 hT _ _ hP hD hS _ (lv_sub hl [1, 2, 3] rfl)
          · rw [if_pos c_7] at hT
            refine lv_iload_n hx hb dX8_neededPredicates_31 rfl (lv_at hl 2 rfl) ?_
            refine lv_iconst (v := 1) hx hb dX8_neededPredicates_32 (by decide) ?_
            refine lv_aload_n hx hb dX8_neededPredicates_33 rfl (lv_at hl 0 rfl) ?_
            obtain ⟨k_8, hk_8⟩ := List.getElem?_of_mem (pw_lit (ty := ty) (p := pp) (L := []) (mm_k_X8_conditionAt pp a0 v2_4 hok hm_a0 _ (by rw [← ht_14]; exact ho_14)))
            refine va_getN (D := D) (ci := 6) (v := .int (pI pp o_14 1)) (C := RX4) (T := TX4) (N := 8) hx hb hts iv_k_X8_neededPredicates_X4 hown hK hP k_8 hk_8 rfl 1 (by decide) (hE.at (.fieldLinkNest "AnswerFold$Rule" 56 "AnswerFold$Literal" "predicate" "I" "AnswerFold") (by decide +kernel)) (fun _ h9 => h9) rfl dX8_neededPredicates_34 ?_
            refine lv_ishl hx hb dX8_neededPredicates_37 ?_
            refine lv_ior hx hb dX8_neededPredicates_38 ?_
            refine lv_istore_n (lv' := [(1, .int (v1_4 ||| ((1 : Int32) <<< ((pI pp o_14 1) &&& 31)))), (3, .ref o_14), (0, .ref a0), (2, .int v2_4)]) hx hb dX8_neededPredicates_39 rfl hl (by decide) rfl (fun ls hl => ?_)
            exact J_40 (v1_4 ||| ((1 : Int32) <<< ((pI pp o_14 1) &&& 31))) hT _ _ hP hD hS _ (lv_sub hl [2, 0, 3] rfl)
  exact L_4 wF 0 0 (wF_up 0) hT (by decide) _ _ hP hD hS _ (lv_sub hl [2, 1, 0] rfl)
theorem dX8_valuesFor_0 : decode cX8_valuesFor 0 = .ok (.iload_n 1, 1) := by decide +kernel
theorem dX8_valuesFor_1 : decode cX8_valuesFor 1 = .ok (.iconst 3, 1) := by decide +kernel
theorem dX8_valuesFor_2 : decode cX8_valuesFor 2 = .ok (.if_icmp .ne 12, 3) := by decide +kernel
theorem dX8_valuesFor_5 : decode cX8_valuesFor 5 = .ok (.aload_n 0, 1) := by decide +kernel
theorem dX8_valuesFor_6 : decode cX8_valuesFor 6 = .ok (.invokevirtual 37, 3) := by decide +kernel
theorem dX8_valuesFor_9 : decode cX8_valuesFor 9 = .ok (.ifCond .eq 5, 3) := by decide +kernel
theorem dX8_valuesFor_12 : decode cX8_valuesFor 12 = .ok (.iconst 1, 1) := by decide +kernel
theorem dX8_valuesFor_13 : decode cX8_valuesFor 13 = .ok (.ireturn, 1) := by decide +kernel
theorem dX8_valuesFor_14 : decode cX8_valuesFor 14 = .ok (.iconst 0, 1) := by decide +kernel
theorem dX8_valuesFor_15 : decode cX8_valuesFor 15 = .ok (.istore_n 2, 1) := by decide +kernel
theorem dX8_valuesFor_16 : decode cX8_valuesFor 16 = .ok (.iload_n 2, 1) := by decide +kernel
theorem dX8_valuesFor_17 : decode cX8_valuesFor 17 = .ok (.aload_n 0, 1) := by decide +kernel
theorem dX8_valuesFor_18 : decode cX8_valuesFor 18 = .ok (.getfield 31, 3) := by decide +kernel
theorem dX8_valuesFor_21 : decode cX8_valuesFor 21 = .ok (.if_icmp .ge 30, 3) := by decide +kernel
theorem dX8_valuesFor_24 : decode cX8_valuesFor 24 = .ok (.aload_n 0, 1) := by decide +kernel
theorem dX8_valuesFor_25 : decode cX8_valuesFor 25 = .ok (.iload_n 2, 1) := by decide +kernel
theorem dX8_valuesFor_26 : decode cX8_valuesFor 26 = .ok (.invokevirtual 41, 3) := by decide +kernel
theorem dX8_valuesFor_29 : decode cX8_valuesFor 29 = .ok (.astore_n 3, 1) := by decide +kernel
theorem dX8_valuesFor_30 : decode cX8_valuesFor 30 = .ok (.aload_n 3, 1) := by decide +kernel
theorem dX8_valuesFor_31 : decode cX8_valuesFor 31 = .ok (.ifnull 14, 3) := by decide +kernel
theorem dX8_valuesFor_34 : decode cX8_valuesFor 34 = .ok (.aload_n 3, 1) := by decide +kernel
theorem dX8_valuesFor_35 : decode cX8_valuesFor 35 = .ok (.iload_n 1, 1) := by decide +kernel
theorem dX8_valuesFor_36 : decode cX8_valuesFor 36 = .ok (.invokevirtual 45, 3) := by decide +kernel
theorem dX8_valuesFor_39 : decode cX8_valuesFor 39 = .ok (.ifCond .eq 6, 3) := by decide +kernel
theorem dX8_valuesFor_42 : decode cX8_valuesFor 42 = .ok (.bipush 8, 2) := by decide +kernel
theorem dX8_valuesFor_44 : decode cX8_valuesFor 44 = .ok (.ireturn, 1) := by decide +kernel
theorem dX8_valuesFor_45 : decode cX8_valuesFor 45 = .ok (.iinc 2 1, 3) := by decide +kernel
theorem dX8_valuesFor_48 : decode cX8_valuesFor 48 = .ok (.goto (-32), 3) := by decide +kernel
theorem dX8_valuesFor_51 : decode cX8_valuesFor 51 = .ok (.iconst 0, 1) := by decide +kernel
theorem dX8_valuesFor_52 : decode cX8_valuesFor 52 = .ok (.istore_n 2, 1) := by decide +kernel
theorem dX8_valuesFor_53 : decode cX8_valuesFor 53 = .ok (.iload_n 2, 1) := by decide +kernel
theorem dX8_valuesFor_54 : decode cX8_valuesFor 54 = .ok (.aload_n 0, 1) := by decide +kernel
theorem dX8_valuesFor_55 : decode cX8_valuesFor 55 = .ok (.getfield 34, 3) := by decide +kernel
theorem dX8_valuesFor_58 : decode cX8_valuesFor 58 = .ok (.if_icmp .ge 30, 3) := by decide +kernel
theorem dX8_valuesFor_61 : decode cX8_valuesFor 61 = .ok (.aload_n 0, 1) := by decide +kernel
theorem dX8_valuesFor_62 : decode cX8_valuesFor 62 = .ok (.iload_n 2, 1) := by decide +kernel
theorem dX8_valuesFor_63 : decode cX8_valuesFor 63 = .ok (.invokevirtual 49, 3) := by decide +kernel
theorem dX8_valuesFor_66 : decode cX8_valuesFor 66 = .ok (.astore_n 3, 1) := by decide +kernel
theorem dX8_valuesFor_67 : decode cX8_valuesFor 67 = .ok (.aload_n 3, 1) := by decide +kernel
theorem dX8_valuesFor_68 : decode cX8_valuesFor 68 = .ok (.ifnull 14, 3) := by decide +kernel
theorem dX8_valuesFor_71 : decode cX8_valuesFor 71 = .ok (.aload_n 3, 1) := by decide +kernel
theorem dX8_valuesFor_72 : decode cX8_valuesFor 72 = .ok (.iload_n 1, 1) := by decide +kernel
theorem dX8_valuesFor_73 : decode cX8_valuesFor 73 = .ok (.invokevirtual 45, 3) := by decide +kernel
theorem dX8_valuesFor_76 : decode cX8_valuesFor 76 = .ok (.ifCond .eq 6, 3) := by decide +kernel
theorem dX8_valuesFor_79 : decode cX8_valuesFor 79 = .ok (.bipush 8, 2) := by decide +kernel
theorem dX8_valuesFor_81 : decode cX8_valuesFor 81 = .ok (.ireturn, 1) := by decide +kernel
theorem dX8_valuesFor_82 : decode cX8_valuesFor 82 = .ok (.iinc 2 1, 3) := by decide +kernel
theorem dX8_valuesFor_85 : decode cX8_valuesFor 85 = .ok (.goto (-32), 3) := by decide +kernel
theorem dX8_valuesFor_88 : decode cX8_valuesFor 88 = .ok (.iconst 1, 1) := by decide +kernel
theorem dX8_valuesFor_89 : decode cX8_valuesFor 89 = .ok (.ireturn, 1) := by decide +kernel
def vs_k_X8_valuesFor : List Cond := .code yX8_valuesFor cX8_valuesFor 4 (some .int) :: ([.fieldLink RX8 31 "AnswerFold$Rule" "headCount" "I", .fieldLink RX8 34 "AnswerFold$Rule" "conditionCount" "I", .methodLink RX8 49 yX8_conditionAt, .instanceMethod yX8_conditionAt, .selects RX8 yX8_conditionAt yX8_conditionAt, .initialized RX8, .methodLink RX8 45 yX4_names, .instanceMethod yX4_names, .selects RX4 yX4_names yX4_names, .initialized RX4, .methodLink RX8 41 yX8_headAt, .instanceMethod yX8_headAt, .selects RX8 yX8_headAt yX8_headAt, .methodLink RX8 37 yX8_hasSpan, .instanceMethod yX8_hasSpan, .selects RX8 yX8_hasSpan yX8_hasSpan] ++ (u_ws RX8 TX8 11 ++ (vs_k_X8_conditionAt ++ (vs_k_X4_names ++ (vs_k_X8_headAt ++ (vs_k_X8_hasSpan))))))
theorem iv_k_X8_valuesFor_X8 : ∀ w ∈ u_ws RX8 TX8 11, w ∈ vs_k_X8_valuesFor := (fun _ h => List.mem_cons_of_mem _ (List.mem_append_right _ (List.mem_append_left _ h)))
set_option maxRecDepth 20000 in
theorem gv_k_X8_valuesFor_0 : GoodIn vs_k_X8_valuesFor (wsV RX8 49 RX8 yX8_conditionAt vs_k_X8_conditionAt) := goodIn_app (goodIn_sub (by decide +kernel) (by decide +kernel)) (goodIn_sub (fun _ h => List.mem_cons_of_mem _ (List.mem_append_right _ (List.mem_append_right _ (List.mem_append_left _ h)))) (by decide +kernel))
set_option maxRecDepth 20000 in
theorem gv_k_X8_valuesFor_1 : GoodIn vs_k_X8_valuesFor (wsV RX8 45 RX4 yX4_names vs_k_X4_names) := goodIn_app (goodIn_sub (by decide +kernel) (by decide +kernel)) (goodIn_sub (fun _ h => List.mem_cons_of_mem _ (List.mem_append_right _ (List.mem_append_right _ (List.mem_append_right _ (List.mem_append_left _ h))))) (by decide +kernel))
set_option maxRecDepth 20000 in
theorem gv_k_X8_valuesFor_2 : GoodIn vs_k_X8_valuesFor (wsV RX8 41 RX8 yX8_headAt vs_k_X8_headAt) := goodIn_app (goodIn_sub (by decide +kernel) (by decide +kernel)) (goodIn_sub (fun _ h => List.mem_cons_of_mem _ (List.mem_append_right _ (List.mem_append_right _ (List.mem_append_right _ (List.mem_append_right _ (List.mem_append_left _ h)))))) (by decide +kernel))
set_option maxRecDepth 20000 in
theorem gv_k_X8_valuesFor_3 : GoodIn vs_k_X8_valuesFor (wsV RX8 45 RX4 yX4_names vs_k_X4_names) := goodIn_app (goodIn_sub (by decide +kernel) (by decide +kernel)) (goodIn_sub (fun _ h => List.mem_cons_of_mem _ (List.mem_append_right _ (List.mem_append_right _ (List.mem_append_right _ (List.mem_append_left _ h))))) (by decide +kernel))
set_option maxRecDepth 20000 in
theorem gv_k_X8_valuesFor_4 : GoodIn vs_k_X8_valuesFor (wsV RX8 37 RX8 yX8_hasSpan vs_k_X8_hasSpan) := goodIn_app (goodIn_sub (by decide +kernel) (by decide +kernel)) (goodIn_sub (fun _ h => List.mem_cons_of_mem _ (List.mem_append_right _ (List.mem_append_right _ (List.mem_append_right _ (List.mem_append_right _ (List.mem_append_right _ (h))))))) (by decide +kernel))
set_option maxHeartbeats 4000000 in
set_option maxRecDepth 100000 in
theorem k_X8_valuesFor (l : Launch) (D : va_G) (ty : Nat → ClassId) (td mi sz : Nat) (pp : pT) (a0 : Nat) (a1 : Int32) (hok : pOK pp) (hm_a0 : a0 ∈ pRA pp) (TT : r_k_X8_valuesFor) (hTT : TT = m_k_X8_valuesFor pp a0 a1) : Met l yX8_valuesFor vs_k_X8_valuesFor { frames := 1, cells := 0, slots := 0, locals := 21 } (va_Pc [.ref a0, .int a1] (wq_P D ty td mi ([] ++ pw ty pp) sz)) (va_Qi (fun (r : Int32) (u : va_W) => (r = TT ∧ (u = ([] ++ pw ty pp)))) (wq_B D (va_A ([] ++ pw ty pp) sz)) (va_A ([] ++ pw ty pp) sz)) 0 0 (va_A ([] ++ pw ty pp) sz) := by
  refine Met.ofW (cc := cX8_valuesFor) (maxL := 4) (ret := (some .int)) (by decide) rfl ?_
  intro p e s m args below meth c s₁ B hml hv
  obtain ⟨rfl, hsz, hP, hK, hD0, hE⟩ := hv
  have hx := B.exec
  have hb := B.bytes
  have hr := B.returns
  have hts := atoms_spec (ws := vs_k_X8_valuesFor) B.pre
  have hown : s.vm.findClass RX8 = some m.cls := findClass_of_methodNamed B.named
  have hlocks := B.notSynchronized
  subst hsz
  have hD := hD0.self (sz := s.heap.size)
  generalize hAe : va_A ([] ++ pw ty pp) s.heap.size = A at hD hE ⊢
  have hA : ∀ q : Nat, s.heap.size ≤ q → A q := fun q h => by rw [← hAe]; exact Or.inr h
  have hS : va_S A s.heap s.heap [] := va_S.rf
  have hP : va_P D vwCl ([] ++ pw ty pp) s.heap := hP
  have hl := lv_entry ([.ref a0, .int a1]) (n := 4) (Nat.le_of_ble_eq_true rfl)
  rw [lg_entry_eq]
  generalize (lg_sl ([.ref a0, .int a1]) ++ List.replicate (4 - (lg_sl ([.ref a0, .int a1])).length) Slot.unset).toArray = ls at hl ⊢
  have hl : lv_has ls 4 [(0, .ref a0), (1, .int a1)] := hl
  have END : ∀ (r : Int32), TT = r → ∀ (H : Heap) (locs : List Loc), va_P D vwCl ([] ++ pw ty pp) H → va_D A ([] ++ pw ty pp) → va_S A s.heap H locs → ∀ (ls : Array Slot) (pc : Nat), decode cX8_valuesFor pc = .ok (.ireturn, 1) → W p l e (headSpec vs_k_X8_valuesFor { frames := 1, cells := 0, slots := 0, locals := 21 }).room s m ([.ref a0, .int a1] : List Value).toArray below meth c H locs 0 0 (MQ below (va_Qi (fun (r : Int32) (u : va_W) => (r = TT ∧ (u = ([] ++ pw ty pp)))) (wq_B D A) A) ([.ref a0, .int a1] : List Value).toArray s 0 0 A) (F0 m pc ls [.int r]) := by
    intro r hT H locs hP hD hS ls pc hd
    have hM : TT = r := hT
    exact W.iret (v := r) hx hb hr (fun t ht hW => ⟨⟨r, ([] ++ pw ty pp), rfl, ⟨(by rw [hM]), rfl⟩, wq_B.of ht hP hD⟩, hS.F ht⟩) hS.2.2 hd
  have hT := hTT
  rw [m_k_X8_valuesFor] at hT
  refine lv_iload_n hx hb dX8_valuesFor_0 rfl (lv_at hl 1 rfl) ?_
  refine lv_iconst (v := 3) hx hb dX8_valuesFor_1 (by decide) ?_
  have J_14 : ∀ (_ : Unit), TT = m_k_X8_valuesFor_14 pp a0 a1 → ∀ (H : Heap) (locs : List Loc), va_P D vwCl ([] ++ pw ty pp) H → va_D A ([] ++ pw ty pp) → va_S A s.heap H locs → ∀ ls : Array Slot, lv_has ls 4 [(0, .ref a0), (1, .int a1)] → W p l e (headSpec vs_k_X8_valuesFor { frames := 1, cells := 0, slots := 0, locals := 21 }).room s m ([.ref a0, .int a1] : List Value).toArray below meth c H locs 0 0 (MQ below (va_Qi (fun (r : Int32) (u : va_W) => (r = TT ∧ (u = ([] ++ pw ty pp)))) (wq_B D A) A) ([.ref a0, .int a1] : List Value).toArray s 0 0 A) (F0 m 14 ls []) := by
    intro _ hT  H locs hP hD hS ls hl
    rw [m_k_X8_valuesFor_14] at hT
    refine lv_iconst (v := 0) hx hb dX8_valuesFor_14 (by decide) ?_
    refine lv_istore_n (lv' := [(2, .int 0), (0, .ref a0), (1, .int a1)]) hx hb dX8_valuesFor_15 rfl hl (by decide) rfl (fun ls hl => ?_)
    have L_16 : ∀ (n_16 : Nat) (v2_16 : Int32), (2147483648 - v2_16.toInt).toNat < n_16 → TT = m_k_X8_valuesFor_16 pp a0 a1 n_16 v2_16 → 0 ≤ v2_16.toInt → ∀ (H : Heap) (locs : List Loc), va_P D vwCl ([] ++ pw ty pp) H → va_D A ([] ++ pw ty pp) → va_S A s.heap H locs → ∀ ls : Array Slot, lv_has ls 4 [(0, .ref a0), (1, .int a1), (2, .int v2_16)] → W p l e (headSpec vs_k_X8_valuesFor { frames := 1, cells := 0, slots := 0, locals := 21 }).room s m ([.ref a0, .int a1] : List Value).toArray below meth c H locs 0 0 (MQ below (va_Qi (fun (r : Int32) (u : va_W) => (r = TT ∧ (u = ([] ++ pw ty pp)))) (wq_B D A) A) ([.ref a0, .int a1] : List Value).toArray s 0 0 A) (F0 m 16 ls []) := by
      intro n_16
      induction n_16 with
      | zero => intro v2_16 hu; exact absurd hu (Nat.not_lt_zero _)
      | succ n_16 ih_16 =>
        intro v2_16 hu_16 hT hn_16 H locs hP hD hS ls hl
        rw [m_k_X8_valuesFor_16_succ, m_k_X8_valuesFor_16s] at hT
        refine lv_iload_n hx hb dX8_valuesFor_16 rfl (lv_at hl 2 rfl) ?_
        refine lv_aload_n hx hb dX8_valuesFor_17 rfl (lv_at hl 0 rfl) ?_
        obtain ⟨k_1, hk_1⟩ := List.getElem?_of_mem (pw_rule (ty := ty) (p := pp) (L := []) hm_a0)
        refine va_get (D := D) (ci := 10) (v := .int (pI pp a0 8)) (C := RX8) (T := TX8) (N := 11) hx hb hts iv_k_X8_valuesFor_X8 hown hK hP k_1 hk_1 rfl 8 (by decide) (hts (.fieldLink RX8 31 "AnswerFold$Rule" "headCount" "I") (by decide +kernel)) (fun _ h9 => h9) rfl dX8_valuesFor_18 ?_
        refine lv_icmp_ge (tgt := 51) hx hb dX8_valuesFor_21 (by decide) (fun c_2 => ?_) (fun c_2 => ?_)
        · rw [if_pos c_2] at hT
          refine lv_iconst (v := 0) hx hb dX8_valuesFor_51 (by decide) ?_
          refine lv_istore_n (lv' := [(2, .int 0), (0, .ref a0), (1, .int a1)]) hx hb dX8_valuesFor_52 rfl hl (by decide) rfl (fun ls hl => ?_)
          have L_53 : ∀ (n_53 : Nat) (v2_53 : Int32), (2147483648 - v2_53.toInt).toNat < n_53 → TT = m_k_X8_valuesFor_53 pp a0 a1 n_53 v2_53 → 0 ≤ v2_53.toInt → ∀ (H : Heap) (locs : List Loc), va_P D vwCl ([] ++ pw ty pp) H → va_D A ([] ++ pw ty pp) → va_S A s.heap H locs → ∀ ls : Array Slot, lv_has ls 4 [(0, .ref a0), (1, .int a1), (2, .int v2_53)] → W p l e (headSpec vs_k_X8_valuesFor { frames := 1, cells := 0, slots := 0, locals := 21 }).room s m ([.ref a0, .int a1] : List Value).toArray below meth c H locs 0 0 (MQ below (va_Qi (fun (r : Int32) (u : va_W) => (r = TT ∧ (u = ([] ++ pw ty pp)))) (wq_B D A) A) ([.ref a0, .int a1] : List Value).toArray s 0 0 A) (F0 m 53 ls []) := by
            intro n_53
            induction n_53 with
            | zero => intro v2_53 hu; exact absurd hu (Nat.not_lt_zero _)
            | succ n_53 ih_53 =>
              intro v2_53 hu_53 hT hn_53 H locs hP hD hS ls hl
              rw [m_k_X8_valuesFor_53_succ, m_k_X8_valuesFor_53s] at hT
              refine lv_iload_n hx hb dX8_valuesFor_53 rfl (lv_at hl 2 rfl) ?_
              refine lv_aload_n hx hb dX8_valuesFor_54 rfl (lv_at hl 0 rfl) ?_
              obtain ⟨k_3, hk_3⟩ := List.getElem?_of_mem (pw_rule (ty := ty) (p := pp) (L := []) hm_a0)
              refine va_get (D := D) (ci := 10) (v := .int (pI pp a0 10)) (C := RX8) (T := TX8) (N := 11) hx hb hts iv_k_X8_valuesFor_X8 hown hK hP k_3 hk_3 rfl 10 (by decide) (hts (.fieldLink RX8 34 "AnswerFold$Rule" "conditionCount" "I") (by decide +kernel)) (fun _ h9 => h9) rfl dX8_valuesFor_55 ?_
              refine lv_icmp_ge (tgt := 88) hx hb dX8_valuesFor_58 (by decide) (fun c_4 => ?_) (fun c_4 => ?_)
              · rw [if_pos c_4] at hT
                refine lv_iconst (v := 1) hx hb dX8_valuesFor_88 (by decide) ?_
                exact END 1 hT _ _ hP hD hS _ _ dX8_valuesFor_89
              · rw [if_neg c_4] at hT
                refine lv_aload_n hx hb dX8_valuesFor_61 rfl (lv_at hl 0 rfl) ?_
                refine lv_iload_n hx hb dX8_valuesFor_62 rfl (lv_at hl 2 rfl) ?_
                obtain ⟨t_63, ht_63⟩ : ∃ t, t = m_k_X8_conditionAt pp a0 v2_53 := ⟨_, rfl⟩
                rw [lE_eq ht_63] at hT
                obtain ⟨k_5, hk_5⟩ := List.getElem?_of_mem (pw_rule (ty := ty) (p := pp) (L := []) hm_a0)
                refine wq_rPW (wc := []) (pl := pw ty pp) (ux := []) (va_runV (As := [.int v2_53]) (rest := []) ⟨hx, hb, hml, hown, hts⟩ (k_X8_conditionAt l D ty td mi H.size pp a0 v2_53 hok hm_a0 t_63 ht_63) (cwV 1 hts gv_k_X8_valuesFor_0 rfl rfl rfl (by decide +kernel) ⟨(Nat.le_of_ble_eq_true rfl), (Nat.le_of_ble_eq_true rfl)⟩) (wm_V (wm_preSP hP hD hK hE hS hA [] rfl) (va_recv (q0 := k_5) (ci := 10) hK hP rfl hk_5)) rfl rfl hl.1 rfl (lv_room (Nat.le_of_ble_eq_true rfl)) dX8_valuesFor_63 ⟨(Nat.le_of_ble_eq_true rfl), (Nat.le_of_ble_eq_true rfl)⟩) hS hA hP hD [] rfl rfl (fun _ _ h => h.2) (fun r H locs hw hP hD hS => ?_)
                obtain ⟨rfl, -⟩ := hw
                have hP : va_P D vwCl ([] ++ pw ty pp) H := hP
                have hD : va_D A ([] ++ pw ty pp) := hD
                refine W.widen (k := 0) (n := 0) (Nat.le_of_ble_eq_true rfl) (Nat.le_of_ble_eq_true rfl) ?_
                rcases ho_63 : t_63 with _ | o_63
                · rw [ho_63, oE_none] at hT
                  refine W.eq (g2 := F0 m 66 ls [.null]) rfl ?_
                  refine lv_astore_nN (lv' := [(3, .null), (0, .ref a0), (1, .int a1), (2, .int v2_53)]) hx hb dX8_valuesFor_66 rfl hl (by decide) rfl (fun ls hl => ?_)
                  refine lv_aload_nN hx hb dX8_valuesFor_67 rfl (lv_at hl 0 rfl) ?_
                  have J_82 : ∀ (_ : Unit), TT = m_k_X8_valuesFor_82 (m_k_X8_valuesFor_53 pp a0 a1 n_53) v2_53 → ∀ (H : Heap) (locs : List Loc), va_P D vwCl ([] ++ pw ty pp) H → va_D A ([] ++ pw ty pp) → va_S A s.heap H locs → ∀ ls : Array Slot, lv_has ls 4 [(0, .ref a0), (1, .int a1), (2, .int v2_53)] → W p l e (headSpec vs_k_X8_valuesFor { frames := 1, cells := 0, slots := 0, locals := 21 }).room s m ([.ref a0, .int a1] : List Value).toArray below meth c H locs 0 0 (MQ below (va_Qi (fun (r : Int32) (u : va_W) => (r = TT ∧ (u = ([] ++ pw ty pp)))) (wq_B D A) A) ([.ref a0, .int a1] : List Value).toArray s 0 0 A) (F0 m 82 ls []) := by
                    intro _ hT  H locs hP hD hS ls hl
                    rw [m_k_X8_valuesFor_82] at hT
                    refine lv_iinc (v := v2_53 + 1) (lv' := [(2, .int (v2_53 + 1)), (0, .ref a0), (1, .int a1)]) hx hb dX8_valuesFor_82 hl (k := 2) rfl (by rfl) (by decide) rfl (fun ls hl => ?_)
                    refine lv_goto (tgt := 53) hx hb dX8_valuesFor_85 (by decide) ?_
                    exact ih_53 (v2_53 + 1) (wi_up hu_53 (Int32.not_le.mp c_4)) hT (wi_inc hn_53 (Int32.not_le.mp c_4)) _ _ hP hD hS _ (lv_sub hl [1, 2, 0] rfl)
                  refine lv_ifnullN (tgt := 82) hx hb dX8_valuesFor_68 (by decide) ?_
                  exact J_82 () hT _ _ hP hD hS _ (lv_sub hl [1, 2, 3] rfl)
                · rw [ho_63, oE_some] at hT
                  refine W.eq (g2 := F0 m 66 ls [.ref o_63]) rfl ?_
                  refine lv_astore_n (lv' := [(3, .ref o_63), (0, .ref a0), (1, .int a1), (2, .int v2_53)]) hx hb dX8_valuesFor_66 rfl hl (by decide) rfl (fun ls hl => ?_)
                  refine lv_aload_n hx hb dX8_valuesFor_67 rfl (lv_at hl 0 rfl) ?_
                  have J_82 : ∀ (_ : Unit), TT = m_k_X8_valuesFor_82 (m_k_X8_valuesFor_53 pp a0 a1 n_53) v2_53 → ∀ (H : Heap) (locs : List Loc), va_P D vwCl ([] ++ pw ty pp) H → va_D A ([] ++ pw ty pp) → va_S A s.heap H locs → ∀ ls : Array Slot, lv_has ls 4 [(0, .ref a0), (1, .int a1), (2, .int v2_53)] → W p l e (headSpec vs_k_X8_valuesFor { frames := 1, cells := 0, slots := 0, locals := 21 }).room s m ([.ref a0, .int a1] : List Value).toArray below meth c H locs 0 0 (MQ below (va_Qi (fun (r : Int32) (u : va_W) => (r = TT ∧ (u = ([] ++ pw ty pp)))) (wq_B D A) A) ([.ref a0, .int a1] : List Value).toArray s 0 0 A) (F0 m 82 ls []) := by
                    intro _ hT  H locs hP hD hS ls hl
                    rw [m_k_X8_valuesFor_82] at hT
                    refine lv_iinc (v := v2_53 + 1) (lv' := [(2, .int (v2_53 + 1)), (0, .ref a0), (1, .int a1)]) hx hb dX8_valuesFor_82 hl (k := 2) rfl (by rfl) (by decide) rfl (fun ls hl => ?_)
                    refine lv_goto (tgt := 53) hx hb dX8_valuesFor_85 (by decide) ?_
                    exact ih_53 (v2_53 + 1) (wi_up hu_53 (Int32.not_le.mp c_4)) hT (wi_inc hn_53 (Int32.not_le.mp c_4)) _ _ hP hD hS _ (lv_sub hl [1, 2, 0] rfl)
                  refine lv_ifnull hx hb dX8_valuesFor_68 ?_
                  refine lv_aload_n hx hb dX8_valuesFor_71 rfl (lv_at hl 0 rfl) ?_
                  refine lv_iload_n hx hb dX8_valuesFor_72 rfl (lv_at hl 2 rfl) ?_
                  obtain ⟨t_73, ht_73⟩ : ∃ t, t = m_k_X4_names pp o_63 a1 := ⟨_, rfl⟩
                  rw [lE_eq ht_73] at hT
                  obtain ⟨k_8, hk_8⟩ := List.getElem?_of_mem (pw_lit (ty := ty) (p := pp) (L := []) (mm_k_X8_conditionAt pp a0 v2_53 hok hm_a0 _ (by rw [← ht_63]; exact ho_63)))
                  refine wq_iPW (wc := []) (pl := pw ty pp) (ux := []) (va_runV (As := [.int a1]) (rest := []) ⟨hx, hb, hml, hown, hts⟩ (k_X4_names l D ty td mi H.size pp o_63 a1 hok (mm_k_X8_conditionAt pp a0 v2_53 hok hm_a0 _ (by rw [← ht_63]; exact ho_63)) t_73 ht_73) (cwV 1 hts gv_k_X8_valuesFor_1 rfl rfl rfl (by decide +kernel) ⟨(Nat.le_of_ble_eq_true rfl), (Nat.le_of_ble_eq_true rfl)⟩) (wm_V (wm_preSP hP hD hK hE hS hA [] rfl) (va_recv (q0 := k_8) (ci := 6) hK hP rfl hk_8)) rfl rfl hl.1 rfl (lv_room (Nat.le_of_ble_eq_true rfl)) dX8_valuesFor_73 ⟨(Nat.le_of_ble_eq_true rfl), (Nat.le_of_ble_eq_true rfl)⟩) hS hA hP hD [] rfl rfl (fun _ _ h => h.2.2) (fun r H locs hw hP hD hS => ?_)
                  obtain ⟨hr0, c_11, -⟩ := hw
                  subst r
                  have hP : va_P D vwCl ([] ++ pw ty pp) H := hP
                  have hD : va_D A ([] ++ pw ty pp) := hD
                  refine W.widen (k := 0) (n := 0) (Nat.le_of_ble_eq_true rfl) (Nat.le_of_ble_eq_true rfl) ?_
                  refine lv_if_eq (tgt := 82) hx hb dX8_valuesFor_76 (by decide) (fun c_12 => ?_) (fun c_12 => ?_)
                  · rw [if_pos c_12] at hT
                    exact J_82 () hT _ _ hP hD hS _ (lv_sub hl [1, 2, 3] rfl)
                  · rw [if_neg c_12] at hT
                    refine lv_bipush (v := 8) hx hb dX8_valuesFor_79 (by decide) ?_
                    exact END 8 hT _ _ hP hD hS _ _ dX8_valuesFor_81
          exact L_53 wF 0 (wF_up 0) hT (by decide) _ _ hP hD hS _ (lv_sub hl [1, 2, 0] rfl)
        · rw [if_neg c_2] at hT
          refine lv_aload_n hx hb dX8_valuesFor_24 rfl (lv_at hl 0 rfl) ?_
          refine lv_iload_n hx hb dX8_valuesFor_25 rfl (lv_at hl 2 rfl) ?_
          obtain ⟨t_26, ht_26⟩ : ∃ t, t = m_k_X8_headAt pp a0 v2_16 := ⟨_, rfl⟩
          rw [lE_eq ht_26] at hT
          obtain ⟨k_13, hk_13⟩ := List.getElem?_of_mem (pw_rule (ty := ty) (p := pp) (L := []) hm_a0)
          refine wq_rPW (wc := []) (pl := pw ty pp) (ux := []) (va_runV (As := [.int v2_16]) (rest := []) ⟨hx, hb, hml, hown, hts⟩ (k_X8_headAt l D ty td mi H.size pp a0 v2_16 hok hm_a0 t_26 ht_26) (cwV 1 hts gv_k_X8_valuesFor_2 rfl rfl rfl (by decide +kernel) ⟨(Nat.le_of_ble_eq_true rfl), (Nat.le_of_ble_eq_true rfl)⟩) (wm_V (wm_preSP hP hD hK hE hS hA [] rfl) (va_recv (q0 := k_13) (ci := 10) hK hP rfl hk_13)) rfl rfl hl.1 rfl (lv_room (Nat.le_of_ble_eq_true rfl)) dX8_valuesFor_26 ⟨(Nat.le_of_ble_eq_true rfl), (Nat.le_of_ble_eq_true rfl)⟩) hS hA hP hD [] rfl rfl (fun _ _ h => h.2) (fun r H locs hw hP hD hS => ?_)
          obtain ⟨rfl, -⟩ := hw
          have hP : va_P D vwCl ([] ++ pw ty pp) H := hP
          have hD : va_D A ([] ++ pw ty pp) := hD
          refine W.widen (k := 0) (n := 0) (Nat.le_of_ble_eq_true rfl) (Nat.le_of_ble_eq_true rfl) ?_
          rcases ho_26 : t_26 with _ | o_26
          · rw [ho_26, oE_none] at hT
            refine W.eq (g2 := F0 m 29 ls [.null]) rfl ?_
            refine lv_astore_nN (lv' := [(3, .null), (0, .ref a0), (1, .int a1), (2, .int v2_16)]) hx hb dX8_valuesFor_29 rfl hl (by decide) rfl (fun ls hl => ?_)
            refine lv_aload_nN hx hb dX8_valuesFor_30 rfl (lv_at hl 0 rfl) ?_
            have J_45 : ∀ (_ : Unit), TT = m_k_X8_valuesFor_45 (m_k_X8_valuesFor_16 pp a0 a1 n_16) v2_16 → ∀ (H : Heap) (locs : List Loc), va_P D vwCl ([] ++ pw ty pp) H → va_D A ([] ++ pw ty pp) → va_S A s.heap H locs → ∀ ls : Array Slot, lv_has ls 4 [(0, .ref a0), (1, .int a1), (2, .int v2_16)] → W p l e (headSpec vs_k_X8_valuesFor { frames := 1, cells := 0, slots := 0, locals := 21 }).room s m ([.ref a0, .int a1] : List Value).toArray below meth c H locs 0 0 (MQ below (va_Qi (fun (r : Int32) (u : va_W) => (r = TT ∧ (u = ([] ++ pw ty pp)))) (wq_B D A) A) ([.ref a0, .int a1] : List Value).toArray s 0 0 A) (F0 m 45 ls []) := by
              intro _ hT  H locs hP hD hS ls hl
              rw [m_k_X8_valuesFor_45] at hT
              refine lv_iinc (v := v2_16 + 1) (lv' := [(2, .int (v2_16 + 1)), (0, .ref a0), (1, .int a1)]) hx hb dX8_valuesFor_45 hl (k := 2) rfl (by rfl) (by decide) rfl (fun ls hl => ?_)
              refine lv_goto (tgt := 16) hx hb dX8_valuesFor_48 (by decide) ?_
              exact ih_16 (v2_16 + 1) (wi_up hu_16 (Int32.not_le.mp c_2)) hT (wi_inc hn_16 (Int32.not_le.mp c_2)) _ _ hP hD hS _ (lv_sub hl [1, 2, 0] rfl)
            refine lv_ifnullN (tgt := 45) hx hb dX8_valuesFor_31 (by decide) ?_
            exact J_45 () hT _ _ hP hD hS _ (lv_sub hl [1, 2, 3] rfl)
          · rw [ho_26, oE_some] at hT
            refine W.eq (g2 := F0 m 29 ls [.ref o_26]) rfl ?_
            refine lv_astore_n (lv' := [(3, .ref o_26), (0, .ref a0), (1, .int a1), (2, .int v2_16)]) hx hb dX8_valuesFor_29 rfl hl (by decide) rfl (fun ls hl => ?_)
            refine lv_aload_n hx hb dX8_valuesFor_30 rfl (lv_at hl 0 rfl) ?_
            have J_45 : ∀ (_ : Unit), TT = m_k_X8_valuesFor_45 (m_k_X8_valuesFor_16 pp a0 a1 n_16) v2_16 → ∀ (H : Heap) (locs : List Loc), va_P D vwCl ([] ++ pw ty pp) H → va_D A ([] ++ pw ty pp) → va_S A s.heap H locs → ∀ ls : Array Slot, lv_has ls 4 [(0, .ref a0), (1, .int a1), (2, .int v2_16)] → W p l e (headSpec vs_k_X8_valuesFor { frames := 1, cells := 0, slots := 0, locals := 21 }).room s m ([.ref a0, .int a1] : List Value).toArray below meth c H locs 0 0 (MQ below (va_Qi (fun (r : Int32) (u : va_W) => (r = TT ∧ (u = ([] ++ pw ty pp)))) (wq_B D A) A) ([.ref a0, .int a1] : List Value).toArray s 0 0 A) (F0 m 45 ls []) := by
              intro _ hT  H locs hP hD hS ls hl
              rw [m_k_X8_valuesFor_45] at hT
              refine lv_iinc (v := v2_16 + 1) (lv' := [(2, .int (v2_16 + 1)), (0, .ref a0), (1, .int a1)]) hx hb dX8_valuesFor_45 hl (k := 2) rfl (by rfl) (by decide) rfl (fun ls hl => ?_)
              refine lv_goto (tgt := 16) hx hb dX8_valuesFor_48 (by decide) ?_
              exact ih_16 (v2_16 + 1) (wi_up hu_16 (Int32.not_le.mp c_2)) hT (wi_inc hn_16 (Int32.not_le.mp c_2)) _ _ hP hD hS _ (lv_sub hl [1, 2, 0] rfl)
            refine lv_ifnull hx hb dX8_valuesFor_31 ?_
            refine lv_aload_n hx hb dX8_valuesFor_34 rfl (lv_at hl 0 rfl) ?_
            refine lv_iload_n hx hb dX8_valuesFor_35 rfl (lv_at hl 2 rfl) ?_
            obtain ⟨t_36, ht_36⟩ : ∃ t, t = m_k_X4_names pp o_26 a1 := ⟨_, rfl⟩
            rw [lE_eq ht_36] at hT
            obtain ⟨k_16, hk_16⟩ := List.getElem?_of_mem (pw_lit (ty := ty) (p := pp) (L := []) (mm_k_X8_headAt pp a0 v2_16 hok hm_a0 _ (by rw [← ht_26]; exact ho_26)))
            refine wq_iPW (wc := []) (pl := pw ty pp) (ux := []) (va_runV (As := [.int a1]) (rest := []) ⟨hx, hb, hml, hown, hts⟩ (k_X4_names l D ty td mi H.size pp o_26 a1 hok (mm_k_X8_headAt pp a0 v2_16 hok hm_a0 _ (by rw [← ht_26]; exact ho_26)) t_36 ht_36) (cwV 1 hts gv_k_X8_valuesFor_3 rfl rfl rfl (by decide +kernel) ⟨(Nat.le_of_ble_eq_true rfl), (Nat.le_of_ble_eq_true rfl)⟩) (wm_V (wm_preSP hP hD hK hE hS hA [] rfl) (va_recv (q0 := k_16) (ci := 6) hK hP rfl hk_16)) rfl rfl hl.1 rfl (lv_room (Nat.le_of_ble_eq_true rfl)) dX8_valuesFor_36 ⟨(Nat.le_of_ble_eq_true rfl), (Nat.le_of_ble_eq_true rfl)⟩) hS hA hP hD [] rfl rfl (fun _ _ h => h.2.2) (fun r H locs hw hP hD hS => ?_)
            obtain ⟨hr0, c_19, -⟩ := hw
            subst r
            have hP : va_P D vwCl ([] ++ pw ty pp) H := hP
            have hD : va_D A ([] ++ pw ty pp) := hD
            refine W.widen (k := 0) (n := 0) (Nat.le_of_ble_eq_true rfl) (Nat.le_of_ble_eq_true rfl) ?_
            refine lv_if_eq (tgt := 45) hx hb dX8_valuesFor_39 (by decide) (fun c_20 => ?_) (fun c_20 => ?_)
            · rw [if_pos c_20] at hT
              exact J_45 () hT _ _ hP hD hS _ (lv_sub hl [1, 2, 3] rfl)
            · rw [if_neg c_20] at hT
              refine lv_bipush (v := 8) hx hb dX8_valuesFor_42 (by decide) ?_
              exact END 8 hT _ _ hP hD hS _ _ dX8_valuesFor_44
    exact L_16 wF 0 (wF_up 0) hT (by decide) _ _ hP hD hS _ (lv_sub hl [1, 2, 0] rfl)
  refine lv_icmp_ne (tgt := 14) hx hb dX8_valuesFor_2 (by decide) (fun c_21 => ?_) (fun c_21 => ?_)
  · rw [if_neg c_21] at hT
    exact J_14 () hT _ _ hP hD hS _ (lv_sub hl [0, 1] rfl)
  · rw [if_pos c_21] at hT
    refine lv_aload_n hx hb dX8_valuesFor_5 rfl (lv_at hl 0 rfl) ?_
    obtain ⟨t_6, ht_6⟩ : ∃ t, t = m_k_X8_hasSpan pp a0 := ⟨_, rfl⟩
    rw [lE_eq ht_6] at hT
    obtain ⟨k_22, hk_22⟩ := List.getElem?_of_mem (pw_rule (ty := ty) (p := pp) (L := []) hm_a0)
    refine wq_iPW (wc := []) (pl := pw ty pp) (ux := []) (va_runV (As := []) (rest := []) ⟨hx, hb, hml, hown, hts⟩ (k_X8_hasSpan l D ty td mi s.heap.size pp a0 hok hm_a0 t_6 ht_6) (cwV 0 hts gv_k_X8_valuesFor_4 rfl rfl rfl (by decide +kernel) ⟨(Nat.le_of_ble_eq_true rfl), (Nat.le_of_ble_eq_true rfl)⟩) (wm_V (wm_preSP hP hD hK hE hS hA [] rfl) (va_recv (q0 := k_22) (ci := 10) hK hP rfl hk_22)) rfl rfl hl.1 rfl (lv_room (Nat.le_of_ble_eq_true rfl)) dX8_valuesFor_6 ⟨(Nat.le_of_ble_eq_true rfl), (Nat.le_of_ble_eq_true rfl)⟩) hS hA hP hD [] rfl rfl (fun _ _ h => h.2.2) (fun r H locs hw hP hD hS => ?_)
    obtain ⟨hr0, c_25, -⟩ := hw
    subst r
    have hP : va_P D vwCl ([] ++ pw ty pp) H := hP
    have hD : va_D A ([] ++ pw ty pp) := hD
    refine W.widen (k := 0) (n := 0) (Nat.le_of_ble_eq_true rfl) (Nat.le_of_ble_eq_true rfl) ?_
    refine lv_if_eq (tgt := 14) hx hb dX8_valuesFor_9 (by decide) (fun c_26 => ?_) (fun c_26 => ?_)
    · rw [if_pos c_26] at hT
      exact J_14 () hT _ _ hP hD hS _ (lv_sub hl [0, 1] rfl)
    · rw [if_neg c_26] at hT
      refine lv_iconst (v := 1) hx hb dX8_valuesFor_12 (by decide) ?_
      exact END 1 hT _ _ hP hD hS _ _ dX8_valuesFor_13
