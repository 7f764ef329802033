theorem dX7_isBroken_0 : decode cX7_isBroken 0 = .ok (.iload_n 1, 1) := by decide +kernel
theorem dX7_isBroken_1 : decode cX7_isBroken 1 = .ok (.ifCond .lt 20, 3) := by decide +kernel
theorem dX7_isBroken_4 : decode cX7_isBroken 4 = .ok (.iload_n 1, 1) := by decide +kernel
theorem dX7_isBroken_5 : decode cX7_isBroken 5 = .ok (.sipush 300, 3) := by decide +kernel
theorem dX7_isBroken_8 : decode cX7_isBroken 8 = .ok (.if_icmp .ge 13, 3) := by decide +kernel
theorem dX7_isBroken_11 : decode cX7_isBroken 11 = .ok (.aload_n 0, 1) := by decide +kernel
theorem dX7_isBroken_12 : decode cX7_isBroken 12 = .ok (.iload_n 1, 1) := by decide +kernel
theorem dX7_isBroken_13 : decode cX7_isBroken 13 = .ok (.iload_n 2, 1) := by decide +kernel
theorem dX7_isBroken_14 : decode cX7_isBroken 14 = .ok (.iload_n 3, 1) := by decide +kernel
theorem dX7_isBroken_15 : decode cX7_isBroken 15 = .ok (.invokevirtual 34, 3) := by decide +kernel
theorem dX7_isBroken_18 : decode cX7_isBroken 18 = .ok (.ifCond .ne 5, 3) := by decide +kernel
theorem dX7_isBroken_21 : decode cX7_isBroken 21 = .ok (.iconst 0, 1) := by decide +kernel
theorem dX7_isBroken_22 : decode cX7_isBroken 22 = .ok (.ireturn, 1) := by decide +kernel
theorem dX7_isBroken_23 : decode cX7_isBroken 23 = .ok (.iload_n 2, 1) := by decide +kernel
theorem dX7_isBroken_24 : decode cX7_isBroken 24 = .ok (.aload_n 0, 1) := by decide +kernel
theorem dX7_isBroken_25 : decode cX7_isBroken 25 = .ok (.getfield 21, 3) := by decide +kernel
theorem dX7_isBroken_28 : decode cX7_isBroken 28 = .ok (.iload_n 1, 1) := by decide +kernel
theorem dX7_isBroken_29 : decode cX7_isBroken 29 = .ok (.iaload, 1) := by decide +kernel
theorem dX7_isBroken_30 : decode cX7_isBroken 30 = .ok (.iand, 1) := by decide +kernel
theorem dX7_isBroken_31 : decode cX7_isBroken 31 = .ok (.invokestatic 38, 3) := by decide +kernel
theorem dX7_isBroken_34 : decode cX7_isBroken 34 = .ok (.istore 4, 2) := by decide +kernel
theorem dX7_isBroken_36 : decode cX7_isBroken 36 = .ok (.iload 4, 2) := by decide +kernel
theorem dX7_isBroken_38 : decode cX7_isBroken 38 = .ok (.aload_n 0, 1) := by decide +kernel
theorem dX7_isBroken_39 : decode cX7_isBroken 39 = .ok (.getfield 24, 3) := by decide +kernel
theorem dX7_isBroken_42 : decode cX7_isBroken 42 = .ok (.iload_n 1, 1) := by decide +kernel
theorem dX7_isBroken_43 : decode cX7_isBroken 43 = .ok (.iaload, 1) := by decide +kernel
theorem dX7_isBroken_44 : decode cX7_isBroken 44 = .ok (.if_icmp .lt 14, 3) := by decide +kernel
theorem dX7_isBroken_47 : decode cX7_isBroken 47 = .ok (.iload 4, 2) := by decide +kernel
theorem dX7_isBroken_49 : decode cX7_isBroken 49 = .ok (.aload_n 0, 1) := by decide +kernel
theorem dX7_isBroken_50 : decode cX7_isBroken 50 = .ok (.getfield 27, 3) := by decide +kernel
theorem dX7_isBroken_53 : decode cX7_isBroken 53 = .ok (.iload_n 1, 1) := by decide +kernel
theorem dX7_isBroken_54 : decode cX7_isBroken 54 = .ok (.iaload, 1) := by decide +kernel
theorem dX7_isBroken_55 : decode cX7_isBroken 55 = .ok (.if_icmp .le 7, 3) := by decide +kernel
theorem dX7_isBroken_58 : decode cX7_isBroken 58 = .ok (.iconst 1, 1) := by decide +kernel
theorem dX7_isBroken_59 : decode cX7_isBroken 59 = .ok (.goto 4, 3) := by decide +kernel
theorem dX7_isBroken_62 : decode cX7_isBroken 62 = .ok (.iconst 0, 1) := by decide +kernel
theorem dX7_isBroken_63 : decode cX7_isBroken 63 = .ok (.ireturn, 1) := by decide +kernel
def wW_k_X7_isBroken (ty : Nat → ClassId) (h0 : Nat) (r1 : Nat) (r2 : Nat) (r3 : Nat) (r4 : Nat) (r5 : Nat) (r6 : Nat) (z9_0 : Int32) (z9_1 : Nat → Int32) (z9_2 : Nat → Int32) (z9_3 : Nat → Int32) (z9_4 : Nat → Int32) (z9_5 : Nat → Int32) (z9_6 : Nat → Int32) : va_W := [(h0, .inr (9, [.ref r1, .ref r2, .ref r3, .ref r4, .ref r5, .ref r6, .int z9_0])), (r1, .inl (ty 0, 300, .inl z9_1)), (r2, .inl (ty 0, 300, .inl z9_2)), (r3, .inl (ty 0, 300, .inl z9_3)), (r4, .inl (ty 0, 300, .inl z9_4)), (r5, .inl (ty 0, 300, .inl z9_5)), (r6, .inl (ty 0, 300, .inl z9_6))]
def vs_k_X7_isBroken : List Cond := .code yX7_isBroken cX7_isBroken 5 (some .boolean) :: ([.methodLink RX7 34 yX7_bodyHolds, .instanceMethod yX7_bodyHolds, .selects RX7 yX7_bodyHolds yX7_bodyHolds, .initialized RX7, .fieldLink RX7 21 "AnswerFold$Rows" "heads" "[I", .methodLink RX7 38 yJ6_bitCount_0f7a4, .static yJ6_bitCount_0f7a4, .initialized RJ6, .fieldLink RX7 24 "AnswerFold$Rows" "lows" "[I", .fieldLink RX7 27 "AnswerFold$Rows" "highs" "[I"] ++ (vs_k_X7_bodyHolds ++ (u_ws RX7 TX7 7 ++ (vs_k_J6_bitCount_0f7a4))))
theorem iv_k_X7_isBroken_X7 : ∀ w ∈ u_ws RX7 TX7 7, w ∈ vs_k_X7_isBroken := (fun _ h => List.mem_cons_of_mem _ (List.mem_append_right _ (List.mem_append_right _ (List.mem_append_left _ h))))
set_option maxRecDepth 20000 in
theorem gv_k_X7_isBroken_0 : GoodIn vs_k_X7_isBroken (wsV RX7 34 RX7 yX7_bodyHolds vs_k_X7_bodyHolds) := goodIn_app (goodIn_sub (by decide +kernel) (by decide +kernel)) (goodIn_sub (fun _ h => List.mem_cons_of_mem _ (List.mem_append_right _ (List.mem_append_left _ h))) (by decide +kernel))
set_option maxRecDepth 20000 in
theorem gv_k_X7_isBroken_1 : GoodIn vs_k_X7_isBroken (va_wsS RX7 38 yJ6_bitCount_0f7a4 vs_k_J6_bitCount_0f7a4) := goodIn_app (goodIn_sub (by decide +kernel) (by decide +kernel)) (goodIn_sub (fun _ h => List.mem_cons_of_mem _ (List.mem_append_right _ (List.mem_append_right _ (List.mem_append_right _ (h))))) (by decide +kernel))
set_option maxHeartbeats 4000000 in
set_option maxRecDepth 100000 in
theorem k_X7_isBroken (l : Launch) (D : va_G) (ty : Nat → ClassId) (td mi sz : Nat) (h0 : Nat) (r1 : Nat) (r2 : Nat) (r3 : Nat) (r4 : Nat) (r5 : Nat) (r6 : Nat) (rc : Int32) (f1 : Nat → Int32) (f2 : Nat → Int32) (f3 : Nat → Int32) (f4 : Nat → Int32) (f5 : Nat → Int32) (f6 : Nat → Int32) (a1 : Int32) (a2 : Int32) (a3 : Int32) (TT : r_k_X7_isBroken) (hTT : TT = m_k_X7_isBroken f1 f2 f3 f4 f5 f6 a1 a2 a3) : Met l yX7_isBroken vs_k_X7_isBroken { frames := 1, cells := 0, slots := 0, locals := 23 } (va_Pc [.ref h0, .int a1, .int a2, .int a3] (wq_P D ty td mi (wW_k_X7_isBroken ty h0 r1 r2 r3 r4 r5 r6 rc f1 f2 f3 f4 f5 f6) sz)) (va_Qi (fun (r : Int32) (u : va_W) => (r = TT ∧ (TT = 0 ∨ TT = 1) ∧ (u = (wW_k_X7_isBroken ty h0 r1 r2 r3 r4 r5 r6 rc f1 f2 f3 f4 f5 f6)))) (wq_B D (va_A (wW_k_X7_isBroken ty h0 r1 r2 r3 r4 r5 r6 rc f1 f2 f3 f4 f5 f6) sz)) (va_A (wW_k_X7_isBroken ty h0 r1 r2 r3 r4 r5 r6 rc f1 f2 f3 f4 f5 f6) sz)) 0 0 (va_A (wW_k_X7_isBroken ty h0 r1 r2 r3 r4 r5 r6 rc f1 f2 f3 f4 f5 f6) sz) := by
  refine Met.ofW (cc := cX7_isBroken) (maxL := 5) (ret := (some .boolean)) (by decide) rfl ?_
  intro p e s m args below meth c s₁ B hml hv
  obtain ⟨rfl, hsz, hP, hK, hD0, hE⟩ := hv
  have hx := B.exec
  have hb := B.bytes
  have hr := B.returns
  have hts := atoms_spec (ws := vs_k_X7_isBroken) B.pre
  have hown : s.vm.findClass RX7 = some m.cls := findClass_of_methodNamed B.named
  have hlocks := B.notSynchronized
  subst hsz
  have hD := hD0.self (sz := s.heap.size)
  generalize hAe : va_A (wW_k_X7_isBroken ty h0 r1 r2 r3 r4 r5 r6 rc f1 f2 f3 f4 f5 f6) s.heap.size = A at hD hE ⊢
  have hA : ∀ q : Nat, s.heap.size ≤ q → A q := fun q h => by rw [← hAe]; exact Or.inr h
  have hS : va_S A s.heap s.heap [] := va_S.rf
  have hP : va_P D vwCl (wW_k_X7_isBroken ty h0 r1 r2 r3 r4 r5 r6 rc f1 f2 f3 f4 f5 f6) s.heap := hP
  have hl := lv_entry ([.ref h0, .int a1, .int a2, .int a3]) (n := 5) (Nat.le_of_ble_eq_true rfl)
  rw [lg_entry_eq]
  generalize (lg_sl ([.ref h0, .int a1, .int a2, .int a3]) ++ List.replicate (5 - (lg_sl ([.ref h0, .int a1, .int a2, .int a3])).length) Slot.unset).toArray = ls at hl ⊢
  have hl : lv_has ls 5 [(0, .ref h0), (1, .int a1), (2, .int a2), (3, .int a3)] := hl
  have END : ∀ (r : Int32), TT = r → (r = 0 ∨ r = 1) → ∀ (H : Heap) (locs : List Loc), va_P D vwCl (wW_k_X7_isBroken ty h0 r1 r2 r3 r4 r5 r6 rc f1 f2 f3 f4 f5 f6) H → va_D A (wW_k_X7_isBroken ty h0 r1 r2 r3 r4 r5 r6 rc f1 f2 f3 f4 f5 f6) → va_S A s.heap H locs → ∀ (ls : Array Slot) (pc : Nat), decode cX7_isBroken pc = .ok (.ireturn, 1) → W p l e (headSpec vs_k_X7_isBroken { frames := 1, cells := 0, slots := 0, locals := 23 }).room s m ([.ref h0, .int a1, .int a2, .int a3] : List Value).toArray below meth c H locs 0 0 (MQ below (va_Qi (fun (r : Int32) (u : va_W) => (r = TT ∧ (TT = 0 ∨ TT = 1) ∧ (u = (wW_k_X7_isBroken ty h0 r1 r2 r3 r4 r5 r6 rc f1 f2 f3 f4 f5 f6)))) (wq_B D A) A) ([.ref h0, .int a1, .int a2, .int a3] : List Value).toArray s 0 0 A) (F0 m pc ls [.int r]) := by
    intro r hT hb01 H locs hP hD hS ls pc hd
    have hM : TT = r := hT
    exact W.zret (v := r) hx hb hr (wz_nar hb01) (fun t ht hW => ⟨⟨r, (wW_k_X7_isBroken ty h0 r1 r2 r3 r4 r5 r6 rc f1 f2 f3 f4 f5 f6), rfl, ⟨(by rw [hM]), (by rw [hM]; exact hb01), rfl⟩, wq_B.of ht hP hD⟩, hS.F ht⟩) hS.2.2 hd
  have hT := hTT
  rw [m_k_X7_isBroken] at hT
  refine lv_iload_n hx hb dX7_isBroken_0 rfl (lv_at hl 1 rfl) ?_
  refine lv_if_lt (tgt := 21) hx hb dX7_isBroken_1 (by decide) (fun c_1 => ?_) (fun c_1 => ?_)
  · rw [if_pos c_1] at hT
    refine lv_iconst (v := 0) hx hb dX7_isBroken_21 (by decide) ?_
    exact END 0 hT (by decide) _ _ hP hD hS _ _ dX7_isBroken_22
  · rw [if_neg c_1] at hT
    refine lv_iload_n hx hb dX7_isBroken_4 rfl (lv_at hl 1 rfl) ?_
    refine lv_sipush (v := 300) hx hb dX7_isBroken_5 (by decide) ?_
    refine lv_icmp_ge (tgt := 21) hx hb dX7_isBroken_8 (by decide) (fun c_2 => ?_) (fun c_2 => ?_)
    · rw [if_pos c_2] at hT
      refine lv_iconst (v := 0) hx hb dX7_isBroken_21 (by decide) ?_
      exact END 0 hT (by decide) _ _ hP hD hS _ _ dX7_isBroken_22
    · rw [if_neg c_2] at hT
      refine lv_aload_n hx hb dX7_isBroken_11 rfl (lv_at hl 0 rfl) ?_
      refine lv_iload_n hx hb dX7_isBroken_12 rfl (lv_at hl 1 rfl) ?_
      refine lv_iload_n hx hb dX7_isBroken_13 rfl (lv_at hl 2 rfl) ?_
      refine lv_iload_n hx hb dX7_isBroken_14 rfl (lv_at hl 3 rfl) ?_
      obtain ⟨t_15, ht_15⟩ : ∃ t, t = m_k_X7_bodyHolds f1 f2 f3 a1 a2 a3 := ⟨_, rfl⟩
      rw [lE_eq ht_15] at hT
      refine wq_iW (wc := (wW_k_X7_bodyHolds ty h0 r1 r2 r3 r4 r5 r6 rc f1 f2 f3)) (va_runV (As := [.int a1, .int a2, .int a3]) (rest := []) ⟨hx, hb, hml, hown, hts⟩ (k_X7_bodyHolds l D ty td mi s.heap.size h0 r1 r2 r3 r4 r5 r6 rc f1 f2 f3 a1 a2 a3 t_15 ht_15) (cwV 3 hts gv_k_X7_isBroken_0 rfl rfl rfl (by decide +kernel) ⟨(Nat.le_of_ble_eq_true rfl), (Nat.le_of_ble_eq_true rfl)⟩) (wm_V (wm_preS hP hD hK hE hS hA [true, true, true, true] rfl) (va_recv (q0 := 0) (ci := 9) hK hP rfl rfl)) rfl rfl hl.1 rfl (lv_room (Nat.le_of_ble_eq_true rfl)) dX7_isBroken_15 ⟨(Nat.le_of_ble_eq_true rfl), (Nat.le_of_ble_eq_true rfl)⟩) hS hA hP hD [true, true, true, true] rfl (fun _ _ h => by rcases h with ⟨-, -, rfl⟩; rfl) (fun r u H locs hw hP hD hS => ?_)
      obtain ⟨hr0, c_5, rfl⟩ := hw
      subst r
      have hP : va_P D vwCl (wW_k_X7_isBroken ty h0 r1 r2 r3 r4 r5 r6 rc f1 f2 f3 f4 f5 f6) H := hP
      have hD : va_D A (wW_k_X7_isBroken ty h0 r1 r2 r3 r4 r5 r6 rc f1 f2 f3 f4 f5 f6) := hD
      refine W.widen (k := 0) (n := 0) (Nat.le_of_ble_eq_true rfl) (Nat.le_of_ble_eq_true rfl) ?_
      refine lv_if_ne (tgt := 23) hx hb dX7_isBroken_18 (by decide) (fun c_6 => ?_) (fun c_6 => ?_)
      · rw [if_neg c_6] at hT
        refine lv_iload_n hx hb dX7_isBroken_23 rfl (lv_at hl 2 rfl) ?_
        refine lv_aload_n hx hb dX7_isBroken_24 rfl (lv_at hl 0 rfl) ?_
        refine va_get (D := D) (ci := 9) (v := .ref r4) (C := RX7) (T := TX7) (N := 7) hx hb hts iv_k_X7_isBroken_X7 hown hK hP 0 rfl rfl 3 (by decide) (hts (.fieldLink RX7 21 "AnswerFold$Rows" "heads" "[I") (by decide +kernel)) (fun _ h9 => h9) rfl dX7_isBroken_25 ?_
        refine lv_iload_n hx hb dX7_isBroken_28 rfl (lv_at hl 1 rfl) ?_
        refine va_iald (D := D) hx hb hK hP 4 0 rfl rfl (wi_in (wi_lo c_1) (wi_hi c_2 (by decide))) dX7_isBroken_29 ?_
        refine lv_iand hx hb dX7_isBroken_30 ?_
        obtain ⟨t_31, ht_31⟩ : ∃ t, t = m_k_J6_bitCount_0f7a4 (a2 &&& (f4 a1.toNatClampNeg)) := ⟨_, rfl⟩
        rw [lE_eq ht_31] at hT
        refine wq_iW (wc := []) (va_runS (As := [.int (a2 &&& (f4 a1.toNatClampNeg))]) (rest := []) ⟨hx, hb, hml, hown, hts⟩ (k_J6_bitCount_0f7a4 l D ty td mi H.size (a2 &&& (f4 a1.toNatClampNeg)) t_31 ht_31) (va_cwS 1 hts gv_k_X7_isBroken_1 rfl rfl rfl (by decide +kernel) ⟨(Nat.le_of_ble_eq_true rfl), (Nat.le_of_ble_eq_true rfl)⟩) (wm_preS hP hD hK hE hS hA [] rfl) rfl rfl hl.1 rfl (lv_room (Nat.le_of_ble_eq_true rfl)) dX7_isBroken_31 ⟨(Nat.le_of_ble_eq_true rfl), (Nat.le_of_ble_eq_true rfl)⟩) hS hA hP hD [] rfl (fun _ _ h => by rcases h with ⟨-, rfl⟩; rfl) (fun r u H locs hw hP hD hS => ?_)
        obtain ⟨hr0, rfl⟩ := hw
        subst r
        have hP : va_P D vwCl (wW_k_X7_isBroken ty h0 r1 r2 r3 r4 r5 r6 rc f1 f2 f3 f4 f5 f6) H := hP
        have hD : va_D A (wW_k_X7_isBroken ty h0 r1 r2 r3 r4 r5 r6 rc f1 f2 f3 f4 f5 f6) := hD
        refine W.widen (k := 0) (n := 0) (Nat.le_of_ble_eq_true rfl) (Nat.le_of_ble_eq_true rfl) ?_
        refine lv_istore (lv' := [(4, .int t_31), (0, .ref h0), (1, .int a1), (2, .int a2), (3, .int a3)]) hx hb dX7_isBroken_34 hl (by decide) rfl (fun ls hl => ?_)
        refine lv_iload hx hb dX7_isBroken_36 (lv_at hl 0 rfl) ?_
        refine lv_aload_n hx hb dX7_isBroken_38 rfl (lv_at hl 1 rfl) ?_
        refine va_get (D := D) (ci := 9) (v := .ref r5) (C := RX7) (T := TX7) (N := 7) hx hb hts iv_k_X7_isBroken_X7 hown hK hP 0 rfl rfl 4 (by decide) (hts (.fieldLink RX7 24 "AnswerFold$Rows" "lows" "[I") (by decide +kernel)) (fun _ h9 => h9) rfl dX7_isBroken_39 ?_
        refine lv_iload_n hx hb dX7_isBroken_42 rfl (lv_at hl 2 rfl) ?_
        refine va_iald (D := D) hx hb hK hP 5 0 rfl rfl (wi_in (wi_lo c_1) (wi_hi c_2 (by decide))) dX7_isBroken_43 ?_
        have J_58 : ∀ (_ : Unit), TT = m_k_X7_isBroken_58 → ∀ (H : Heap) (locs : List Loc), va_P D vwCl (wW_k_X7_isBroken ty h0 r1 r2 r3 r4 r5 r6 rc f1 f2 f3 f4 f5 f6) H → va_D A (wW_k_X7_isBroken ty h0 r1 r2 r3 r4 r5 r6 rc f1 f2 f3 f4 f5 f6) → va_S A s.heap H locs → ∀ ls : Array Slot, lv_has ls 5 [] → W p l e (headSpec vs_k_X7_isBroken { frames := 1, cells := 0, slots := 0, locals := 23 }).room s m ([.ref h0, .int a1, .int a2, .int a3] : List Value).toArray below meth c H locs 0 0 (MQ below (va_Qi (fun (r : Int32) (u : va_W) => (r = TT ∧ (TT = 0 ∨ TT = 1) ∧ (u = (wW_k_X7_isBroken ty h0 r1 r2 r3 r4 r5 r6 rc f1 f2 f3 f4 f5 f6)))) (wq_B D A) A) ([.ref h0, .int a1, .int a2, .int a3] : List Value).toArray s 0 0 A) (F0 m 58 ls []) := by
          intro _ hT  H locs hP hD hS ls hl
          rw [m_k_X7_isBroken_58] at hT
          refine lv_iconst (v := 1) hx hb dX7_isBroken_58 (by decide) ?_
          refine lv_goto (tgt := 63) hx hb dX7_isBroken_59 (by decide) ?_
          exact END 1 hT (by decide) _ _ hP hD hS _ _ dX7_isBroken_63
        refine lv_icmp_lt (tgt := 58) hx hb dX7_isBroken_44 (by decide) (fun c_9 => ?_) (fun c_9 => ?_)
        · rw [if_pos c_9] at hT
          exact J_58 () hT _ _ hP hD hS _ (lv_sub hl [] rfl)
        · rw [if_neg c_9] at hT
          refine lv_iload hx hb dX7_isBroken_47 (lv_at hl 0 rfl) ?_
          refine lv_aload_n hx hb dX7_isBroken_49 rfl (lv_at hl 1 rfl) ?_
          refine va_get (D := D) (ci := 9) (v := .ref r6) (C := RX7) (T := TX7) (N := 7) hx hb hts iv_k_X7_isBroken_X7 hown hK hP 0 rfl rfl 5 (by decide) (hts (.fieldLink RX7 27 "AnswerFold$Rows" "highs" "[I") (by decide +kernel)) (fun _ h9 => h9) rfl dX7_isBroken_50 ?_
          refine lv_iload_n hx hb dX7_isBroken_53 rfl (lv_at hl 2 rfl) ?_
          refine va_iald (D := D) hx hb hK hP 6 0 rfl rfl (wi_in (wi_lo c_1) (wi_hi c_2 (by decide))) dX7_isBroken_54 ?_
          refine lv_icmp_le (tgt := 62) hx hb dX7_isBroken_55 (by decide) (fun c_10 => ?_) (fun c_10 => ?_)
          · rw [if_pos c_10] at hT
            refine lv_iconst (v := 0) hx hb dX7_isBroken_62 (by decide) ?_
            exact END 0 hT (by decide) _ _ hP hD hS _ _ dX7_isBroken_63
          · rw [if_neg c_10] at hT
            exact J_58 () hT _ _ hP hD hS _ (lv_sub hl [] rfl)
      · rw [if_pos c_6] at hT
        refine lv_iconst (v := 0) hx hb dX7_isBroken_21 (by decide) ?_
        exact END 0 hT (by decide) _ _ hP hD hS _ _ dX7_isBroken_22
theorem dX0_setAt_0 : decode cX0_setAt 0 = .ok (.iload_n 1, 1) := by decide +kernel
theorem dX0_setAt_1 : decode cX0_setAt 1 = .ok (.ifCond .lt 18, 3) := by decide +kernel
theorem dX0_setAt_4 : decode cX0_setAt 4 = .ok (.iload_n 1, 1) := by decide +kernel
theorem dX0_setAt_5 : decode cX0_setAt 5 = .ok (.bipush 64, 2) := by decide +kernel
theorem dX0_setAt_7 : decode cX0_setAt 7 = .ok (.if_icmp .ge 12, 3) := by decide +kernel
theorem dX0_setAt_10 : decode cX0_setAt 10 = .ok (.aload_n 0, 1) := by decide +kernel
theorem dX0_setAt_11 : decode cX0_setAt 11 = .ok (.getfield 9, 3) := by decide +kernel
theorem dX0_setAt_14 : decode cX0_setAt 14 = .ok (.iload_n 1, 1) := by decide +kernel
theorem dX0_setAt_15 : decode cX0_setAt 15 = .ok (.iaload, 1) := by decide +kernel
theorem dX0_setAt_16 : decode cX0_setAt 16 = .ok (.goto 4, 3) := by decide +kernel
theorem dX0_setAt_19 : decode cX0_setAt 19 = .ok (.iconst 0, 1) := by decide +kernel
theorem dX0_setAt_20 : decode cX0_setAt 20 = .ok (.ireturn, 1) := by decide +kernel
def wW_k_X0_setAt (ty : Nat → ClassId) (h0 : Nat) (s1 : Nat) (s2 : Nat) (z9_0 : Int32) (z9_1 : Int32) (z9_2 : Nat → Int32) : va_W := [(h0, .inr (2, [.ref s1, .ref s2, .int z9_0, .int z9_1])), (s1, .inl (ty 0, 64, .inl z9_2))]
def vs_k_X0_setAt : List Cond := .code yX0_setAt cX0_setAt 2 (some .int) :: ([.fieldLink RX0 9 "AnswerFold$Answers" "sets" "[I"] ++ (u_ws RX0 TX0 4))
theorem iv_k_X0_setAt_X0 : ∀ w ∈ u_ws RX0 TX0 4, w ∈ vs_k_X0_setAt := (fun _ h => List.mem_cons_of_mem _ (List.mem_append_right _ (h)))
set_option maxHeartbeats 4000000 in
set_option maxRecDepth 100000 in
theorem k_X0_setAt (l : Launch) (D : va_G) (ty : Nat → ClassId) (td mi sz : Nat) (h0 : Nat) (s1 : Nat) (s2 : Nat) (ac : Int32) (ak : Int32) (sf : Nat → Int32) (a1 : Int32) (TT : r_k_X0_setAt) (hTT : TT = m_k_X0_setAt sf a1) : Met l yX0_setAt vs_k_X0_setAt { frames := 0, cells := 0, slots := 0, locals := 0 } (va_Pc [.ref h0, .int a1] (wq_P D ty td mi (wW_k_X0_setAt ty h0 s1 s2 ac ak sf) sz)) (va_Qi (fun (r : Int32) (u : va_W) => (r = TT ∧ (u = (wW_k_X0_setAt ty h0 s1 s2 ac ak sf)))) (wq_B D (va_A (wW_k_X0_setAt ty h0 s1 s2 ac ak sf) sz)) (va_A (wW_k_X0_setAt ty h0 s1 s2 ac ak sf) sz)) 0 0 (va_A (wW_k_X0_setAt ty h0 s1 s2 ac ak sf) sz) := by
  refine Met.ofW (cc := cX0_setAt) (maxL := 2) (ret := (some .int)) (by decide) rfl ?_
  intro p e s m args below meth c s₁ B hml hv
  obtain ⟨rfl, hsz, hP, hK, hD0, hE⟩ := hv
  have hx := B.exec
  have hb := B.bytes
  have hr := B.returns
  have hts := atoms_spec (ws := vs_k_X0_setAt) B.pre
  have hown : s.vm.findClass RX0 = some m.cls := findClass_of_methodNamed B.named
  have hlocks := B.notSynchronized
  subst hsz
  have hD := hD0.self (sz := s.heap.size)
  generalize hAe : va_A (wW_k_X0_setAt ty h0 s1 s2 ac ak sf) s.heap.size = A at hD hE ⊢
  have hA : ∀ q : Nat, s.heap.size ≤ q → A q := fun q h => by rw [← hAe]; exact Or.inr h
  have hS : va_S A s.heap s.heap [] := va_S.rf
  have hP : va_P D vwCl (wW_k_X0_setAt ty h0 s1 s2 ac ak sf) s.heap := hP
  have hl := lv_entry ([.ref h0, .int a1]) (n := 2) (Nat.le_of_ble_eq_true rfl)
  rw [lg_entry_eq]
  generalize (lg_sl ([.ref h0, .int a1]) ++ List.replicate (2 - (lg_sl ([.ref h0, .int a1])).length) Slot.unset).toArray = ls at hl ⊢
  have hl : lv_has ls 2 [(0, .ref h0), (1, .int a1)] := hl
  have END : ∀ (r : Int32), TT = r → ∀ (H : Heap) (locs : List Loc), va_P D vwCl (wW_k_X0_setAt ty h0 s1 s2 ac ak sf) H → va_D A (wW_k_X0_setAt ty h0 s1 s2 ac ak sf) → va_S A s.heap H locs → ∀ (ls : Array Slot) (pc : Nat), decode cX0_setAt pc = .ok (.ireturn, 1) → W p l e (headSpec vs_k_X0_setAt { frames := 0, cells := 0, slots := 0, locals := 0 }).room s m ([.ref h0, .int a1] : List Value).toArray below meth c H locs 0 0 (MQ below (va_Qi (fun (r : Int32) (u : va_W) => (r = TT ∧ (u = (wW_k_X0_setAt ty h0 s1 s2 ac ak sf)))) (wq_B D A) A) ([.ref h0, .int a1] : List Value).toArray s 0 0 A) (F0 m pc ls [.int r]) := by
    intro r hT H locs hP hD hS ls pc hd
    have hM : TT = r := hT
    exact W.iret (v := r) hx hb hr (fun t ht hW => ⟨⟨r, (wW_k_X0_setAt ty h0 s1 s2 ac ak sf), rfl, ⟨(by rw [hM]), rfl⟩, wq_B.of ht hP hD⟩, hS.F ht⟩) hS.2.2 hd
  have hT := hTT
  rw [m_k_X0_setAt] at hT
  refine lv_iload_n hx hb dX0_setAt_0 rfl (lv_at hl 1 rfl) ?_
  refine lv_if_lt (tgt := 19) hx hb dX0_setAt_1 (by decide) (fun c_1 => ?_) (fun c_1 => ?_)
  · rw [if_pos c_1] at hT
    refine lv_iconst (v := 0) hx hb dX0_setAt_19 (by decide) ?_
    exact END 0 hT _ _ hP hD hS _ _ dX0_setAt_20
  · rw [if_neg c_1] at hT
    refine lv_iload_n hx hb dX0_setAt_4 rfl (lv_at hl 1 rfl) ?_
    refine lv_bipush (v := 64) hx hb dX0_setAt_5 (by decide) ?_
    refine lv_icmp_ge (tgt := 19) hx hb dX0_setAt_7 (by decide) (fun c_2 => ?_) (fun c_2 => ?_)
    · rw [if_pos c_2] at hT
      refine lv_iconst (v := 0) hx hb dX0_setAt_19 (by decide) ?_
      exact END 0 hT _ _ hP hD hS _ _ dX0_setAt_20
    · rw [if_neg c_2] at hT
      refine lv_aload_n hx hb dX0_setAt_10 rfl (lv_at hl 0 rfl) ?_
      refine va_get (D := D) (ci := 2) (v := .ref s1) (C := RX0) (T := TX0) (N := 4) hx hb hts iv_k_X0_setAt_X0 hown hK hP 0 rfl rfl 0 (by decide) (hts (.fieldLink RX0 9 "AnswerFold$Answers" "sets" "[I") (by decide +kernel)) (fun _ h9 => h9) rfl dX0_setAt_11 ?_
      refine lv_iload_n hx hb dX0_setAt_14 rfl (lv_at hl 1 rfl) ?_
      refine va_iald (D := D) hx hb hK hP 1 0 rfl rfl (wi_in (wi_lo c_1) (wi_hi c_2 (by decide))) dX0_setAt_15 ?_
      refine lv_goto (tgt := 20) hx hb dX0_setAt_16 (by decide) ?_
      exact END (sf a1.toNatClampNeg) hT _ _ hP hD hS _ _ dX0_setAt_20
theorem dX0_costAt_0 : decode cX0_costAt 0 = .ok (.iload_n 1, 1) := by decide +kernel
theorem dX0_costAt_1 : decode cX0_costAt 1 = .ok (.ifCond .lt 23, 3) := by decide +kernel
theorem dX0_costAt_4 : decode cX0_costAt 4 = .ok (.iload_n 1, 1) := by decide +kernel
theorem dX0_costAt_5 : decode cX0_costAt 5 = .ok (.bipush 64, 2) := by decide +kernel
theorem dX0_costAt_7 : decode cX0_costAt 7 = .ok (.if_icmp .ge 17, 3) := by decide +kernel
theorem dX0_costAt_10 : decode cX0_costAt 10 = .ok (.iload_n 2, 1) := by decide +kernel
theorem dX0_costAt_11 : decode cX0_costAt 11 = .ok (.iconst 1, 1) := by decide +kernel
theorem dX0_costAt_12 : decode cX0_costAt 12 = .ok (.if_icmp .lt 12, 3) := by decide +kernel
theorem dX0_costAt_15 : decode cX0_costAt 15 = .ok (.iload_n 2, 1) := by decide +kernel
theorem dX0_costAt_16 : decode cX0_costAt 16 = .ok (.iconst 3, 1) := by decide +kernel
theorem dX0_costAt_17 : decode cX0_costAt 17 = .ok (.if_icmp .gt 7, 3) := by decide +kernel
theorem dX0_costAt_20 : decode cX0_costAt 20 = .ok (.iconst 1, 1) := by decide +kernel
theorem dX0_costAt_21 : decode cX0_costAt 21 = .ok (.goto 4, 3) := by decide +kernel
theorem dX0_costAt_24 : decode cX0_costAt 24 = .ok (.iconst 0, 1) := by decide +kernel
theorem dX0_costAt_25 : decode cX0_costAt 25 = .ok (.istore_n 3, 1) := by decide +kernel
theorem dX0_costAt_26 : decode cX0_costAt 26 = .ok (.iload_n 3, 1) := by decide +kernel
theorem dX0_costAt_27 : decode cX0_costAt 27 = .ok (.ifCond .eq 18, 3) := by decide +kernel
theorem dX0_costAt_30 : decode cX0_costAt 30 = .ok (.aload_n 0, 1) := by decide +kernel
theorem dX0_costAt_31 : decode cX0_costAt 31 = .ok (.getfield 15, 3) := by decide +kernel
theorem dX0_costAt_34 : decode cX0_costAt 34 = .ok (.iload_n 1, 1) := by decide +kernel
theorem dX0_costAt_35 : decode cX0_costAt 35 = .ok (.iconst 3, 1) := by decide +kernel
theorem dX0_costAt_36 : decode cX0_costAt 36 = .ok (.imul, 1) := by decide +kernel
theorem dX0_costAt_37 : decode cX0_costAt 37 = .ok (.iload_n 2, 1) := by decide +kernel
theorem dX0_costAt_38 : decode cX0_costAt 38 = .ok (.iadd, 1) := by decide +kernel
theorem dX0_costAt_39 : decode cX0_costAt 39 = .ok (.iconst 1, 1) := by decide +kernel
theorem dX0_costAt_40 : decode cX0_costAt 40 = .ok (.isub, 1) := by decide +kernel
theorem dX0_costAt_41 : decode cX0_costAt 41 = .ok (.laload, 1) := by decide +kernel
theorem dX0_costAt_42 : decode cX0_costAt 42 = .ok (.goto 4, 3) := by decide +kernel
theorem dX0_costAt_45 : decode cX0_costAt 45 = .ok (.lconst 0, 1) := by decide +kernel
theorem dX0_costAt_46 : decode cX0_costAt 46 = .ok (.lreturn, 1) := by decide +kernel
def wW_k_X0_costAt (ty : Nat → ClassId) (h0 : Nat) (s1 : Nat) (s2 : Nat) (z9_0 : Int32) (z9_1 : Int32) (z9_2 : Nat → Int64) : va_W := [(h0, .inr (2, [.ref s1, .ref s2, .int z9_0, .int z9_1])), (s2, .inl (ty 1, 192, .inr (.inl z9_2)))]
def vs_k_X0_costAt : List Cond := .code yX0_costAt cX0_costAt 4 (some .long) :: ([.fieldLink RX0 15 "AnswerFold$Answers" "costs" "[J"] ++ (u_ws RX0 TX0 4))
theorem iv_k_X0_costAt_X0 : ∀ w ∈ u_ws RX0 TX0 4, w ∈ vs_k_X0_costAt := (fun _ h => List.mem_cons_of_mem _ (List.mem_append_right _ (h)))
theorem om_k_X0_costAt_0 (a1 : Int32) (a2 : Int32) (c_1 : ¬ (a1 < 0)) (c_2 : ¬ (64 ≤ a1)) (c_3 : ¬ (a2 < 1)) (c_4 : ¬ (3 < a2)) : vp_in (((a1 * 3) + a2) - 1) 192 := by
  have f_0 := Int32.le_iff_toInt_le.mp (Int32.not_lt.mp c_1)
  have f_1 := Int32.lt_iff_toInt_lt.mp (Int32.not_le.mp c_2)
  have f_2 := Int32.le_iff_toInt_le.mp (Int32.not_lt.mp c_3)
  have f_3 := Int32.le_iff_toInt_le.mp (Int32.not_lt.mp c_4)
  have nl_0 : (0 : Int32).toInt = 0 := rfl
  have nl_1 : (1 : Int32).toInt = 1 := rfl
  have nl_3 : (3 : Int32).toInt = 3 := rfl
  have nl_64 : (64 : Int32).toInt = 64 := rfl
  have r_a1 := wi_rng a1
  have q_1 : (a1 * 3).toInt = (a1).toInt * 3 := wi_mulc rfl (by omega) (by omega)
  have r_a2 := wi_rng a2
  have q_3 : ((a1 * 3) + a2).toInt = ((a1 * 3) : Int32).toInt + (a2 : Int32).toInt := wi_add (by omega) (by omega)
  have q_4 : (((a1 * 3) + a2) - 1).toInt = (((a1 * 3) + a2) : Int32).toInt - (1 : Int32).toInt := wi_sub (by omega) (by omega)
  exact wi_in (by omega) (by omega)
set_option maxHeartbeats 4000000 in
set_option maxRecDepth 100000 in
theorem k_X0_costAt (l : Launch) (D : va_G) (ty : Nat → ClassId) (td mi sz : Nat) (h0 : Nat) (s1 : Nat) (s2 : Nat) (ac : Int32) (ak : Int32) (cf : Nat → Int64) (a1 : Int32) (a2 : Int32) (TT : r_k_X0_costAt) (hTT : TT = m_k_X0_costAt cf a1 a2) : Met l yX0_costAt vs_k_X0_costAt { frames := 0, cells := 0, slots := 0, locals := 0 } (va_Pc [.ref h0, .int a1, .int a2] (wq_P D ty td mi (wW_k_X0_costAt ty h0 s1 s2 ac ak cf) sz)) (va_Ql (fun (r : Int64) (u : va_W) => (r = TT ∧ (u = (wW_k_X0_costAt ty h0 s1 s2 ac ak cf)))) (wq_B D (va_A (wW_k_X0_costAt ty h0 s1 s2 ac ak cf) sz)) (va_A (wW_k_X0_costAt ty h0 s1 s2 ac ak cf) sz)) 0 0 (va_A (wW_k_X0_costAt ty h0 s1 s2 ac ak cf) sz) := by
  refine Met.ofW (cc := cX0_costAt) (maxL := 4) (ret := (some .long)) (by decide) rfl ?_
  intro p e s m args below meth c s₁ B hml hv
  obtain ⟨rfl, hsz, hP, hK, hD0, hE⟩ := hv
  have hx := B.exec
  have hb := B.bytes
  have hr := B.returns
  have hts := atoms_spec (ws := vs_k_X0_costAt) B.pre
  have hown : s.vm.findClass RX0 = some m.cls := findClass_of_methodNamed B.named
  have hlocks := B.notSynchronized
  subst hsz
  have hD := hD0.self (sz := s.heap.size)
  generalize hAe : va_A (wW_k_X0_costAt ty h0 s1 s2 ac ak cf) s.heap.size = A at hD hE ⊢
  have hA : ∀ q : Nat, s.heap.size ≤ q → A q := fun q h => by rw [← hAe]; exact Or.inr h
  have hS : va_S A s.heap s.heap [] := va_S.rf
  have hP : va_P D vwCl (wW_k_X0_costAt ty h0 s1 s2 ac ak cf) s.heap := hP
  have hl := lv_entry ([.ref h0, .int a1, .int a2]) (n := 4) (Nat.le_of_ble_eq_true rfl)
  rw [lg_entry_eq]
  generalize (lg_sl ([.ref h0, .int a1, .int a2]) ++ List.replicate (4 - (lg_sl ([.ref h0, .int a1, .int a2])).length) Slot.unset).toArray = ls at hl ⊢
  have hl : lv_has ls 4 [(0, .ref h0), (1, .int a1), (2, .int a2)] := hl
  have END : ∀ (r : Int64), TT = r → ∀ (H : Heap) (locs : List Loc), va_P D vwCl (wW_k_X0_costAt ty h0 s1 s2 ac ak cf) H → va_D A (wW_k_X0_costAt ty h0 s1 s2 ac ak cf) → va_S A s.heap H locs → ∀ (ls : Array Slot) (pc : Nat), decode cX0_costAt pc = .ok (.lreturn, 1) → W p l e (headSpec vs_k_X0_costAt { frames := 0, cells := 0, slots := 0, locals := 0 }).room s m ([.ref h0, .int a1, .int a2] : List Value).toArray below meth c H locs 0 0 (MQ below (va_Ql (fun (r : Int64) (u : va_W) => (r = TT ∧ (u = (wW_k_X0_costAt ty h0 s1 s2 ac ak cf)))) (wq_B D A) A) ([.ref h0, .int a1, .int a2] : List Value).toArray s 0 0 A) (F0 m pc ls [.long r]) := by
    intro r hT H locs hP hD hS ls pc hd
    have hM : TT = r := hT
    exact W.lret (v := r) hx hb hr (fun t ht hW => ⟨⟨r, (wW_k_X0_costAt ty h0 s1 s2 ac ak cf), rfl, ⟨(by rw [hM]), rfl⟩, wq_B.of ht hP hD⟩, hS.F ht⟩) hS.2.2 hd
  have hT := hTT
  rw [m_k_X0_costAt] at hT
  refine lv_iload_n hx hb dX0_costAt_0 rfl (lv_at hl 1 rfl) ?_
  refine lv_if_lt (tgt := 24) hx hb dX0_costAt_1 (by decide) (fun c_1 => ?_) (fun c_1 => ?_)
  · rw [if_pos c_1] at hT
    refine lv_iconst (v := 0) hx hb dX0_costAt_24 (by decide) ?_
    refine lv_istore_n (lv' := [(3, .int 0), (0, .ref h0), (1, .int a1), (2, .int a2)]) hx hb dX0_costAt_25 rfl hl (by decide) rfl (fun ls hl => ?_)
    refine lv_iload_n hx hb dX0_costAt_26 rfl (lv_at hl 0 rfl) ?_
    refine lv_if_eq (tgt := 45) hx hb dX0_costAt_27 (by decide) (fun _ => ?_) (fun c0 => absurd (by decide) c0)
    refine lv_lconst (v := 0) hx hb dX0_costAt_45 (by decide) ?_
    exact END 0 hT _ _ hP hD hS _ _ dX0_costAt_46
  · rw [if_neg c_1] at hT
    refine lv_iload_n hx hb dX0_costAt_4 rfl (lv_at hl 1 rfl) ?_
    refine lv_bipush (v := 64) hx hb dX0_costAt_5 (by decide) ?_
    refine lv_icmp_ge (tgt := 24) hx hb dX0_costAt_7 (by decide) (fun c_2 => ?_) (fun c_2 => ?_)
    · rw [if_pos c_2] at hT
      refine lv_iconst (v := 0) hx hb dX0_costAt_24 (by decide) ?_
      refine lv_istore_n (lv' := [(3, .int 0), (0, .ref h0), (1, .int a1), (2, .int a2)]) hx hb dX0_costAt_25 rfl hl (by decide) rfl (fun ls hl => ?_)
      refine lv_iload_n hx hb dX0_costAt_26 rfl (lv_at hl 0 rfl) ?_
      refine lv_if_eq (tgt := 45) hx hb dX0_costAt_27 (by decide) (fun _ => ?_) (fun c0 => absurd (by decide) c0)
      refine lv_lconst (v := 0) hx hb dX0_costAt_45 (by decide) ?_
      exact END 0 hT _ _ hP hD hS _ _ dX0_costAt_46
    · rw [if_neg c_2] at hT
      refine lv_iload_n hx hb dX0_costAt_10 rfl (lv_at hl 2 rfl) ?_
      refine lv_iconst (v := 1) hx hb dX0_costAt_11 (by decide) ?_
      refine lv_icmp_lt (tgt := 24) hx hb dX0_costAt_12 (by decide) (fun c_3 => ?_) (fun c_3 => ?_)
      · rw [if_pos c_3] at hT
        refine lv_iconst (v := 0) hx hb dX0_costAt_24 (by decide) ?_
        refine lv_istore_n (lv' := [(3, .int 0), (0, .ref h0), (1, .int a1), (2, .int a2)]) hx hb dX0_costAt_25 rfl hl (by decide) rfl (fun ls hl => ?_)
        refine lv_iload_n hx hb dX0_costAt_26 rfl (lv_at hl 0 rfl) ?_
        refine lv_if_eq (tgt := 45) hx hb dX0_costAt_27 (by decide) (fun _ => ?_) (fun c0 => absurd (by decide) c0)
        refine lv_lconst (v := 0) hx hb dX0_costAt_45 (by decide) ?_
        exact END 0 hT _ _ hP hD hS _ _ dX0_costAt_46
      · rw [if_neg c_3] at hT
        refine lv_iload_n hx hb dX0_costAt_15 rfl (lv_at hl 2 rfl) ?_
        refine lv_iconst (v := 3) hx hb dX0_costAt_16 (by decide) ?_
        refine lv_icmp_gt (tgt := 24) hx hb dX0_costAt_17 (by decide) (fun c_4 => ?_) (fun c_4 => ?_)
        · rw [if_pos c_4] at hT
          refine lv_iconst (v := 0) hx hb dX0_costAt_24 (by decide) ?_
          refine lv_istore_n (lv' := [(3, .int 0), (0, .ref h0), (1, .int a1), (2, .int a2)]) hx hb dX0_costAt_25 rfl hl (by decide) rfl (fun ls hl => ?_)
          refine lv_iload_n hx hb dX0_costAt_26 rfl (lv_at hl 0 rfl) ?_
          refine lv_if_eq (tgt := 45) hx hb dX0_costAt_27 (by decide) (fun _ => ?_) (fun c0 => absurd (by decide) c0)
          refine lv_lconst (v := 0) hx hb dX0_costAt_45 (by decide) ?_
          exact END 0 hT _ _ hP hD hS _ _ dX0_costAt_46
        · rw [if_neg c_4] at hT
          refine lv_iconst (v := 1) hx hb dX0_costAt_20 (by decide) ?_
          refine lv_goto (tgt := 25) hx hb dX0_costAt_21 (by decide) ?_
          refine lv_istore_n (lv' := [(3, .int 1), (0, .ref h0), (1, .int a1), (2, .int a2)]) hx hb dX0_costAt_25 rfl hl (by decide) rfl (fun ls hl => ?_)
          refine lv_iload_n hx hb dX0_costAt_26 rfl (lv_at hl 0 rfl) ?_
          refine lv_if_eq (tgt := 45) hx hb dX0_costAt_27 (by decide) (fun c0 => absurd c0 (by decide)) (fun _ => ?_)
          refine lv_aload_n hx hb dX0_costAt_30 rfl (lv_at hl 1 rfl) ?_
          refine va_get (D := D) (ci := 2) (v := .ref s2) (C := RX0) (T := TX0) (N := 4) hx hb hts iv_k_X0_costAt_X0 hown hK hP 0 rfl rfl 1 (by decide) (hts (.fieldLink RX0 15 "AnswerFold$Answers" "costs" "[J") (by decide +kernel)) (fun _ h9 => h9) rfl dX0_costAt_31 ?_
          refine lv_iload_n hx hb dX0_costAt_34 rfl (lv_at hl 2 rfl) ?_
          refine lv_iconst (v := 3) hx hb dX0_costAt_35 (by decide) ?_
          refine lv_imul hx hb dX0_costAt_36 ?_
          refine lv_iload_n hx hb dX0_costAt_37 rfl (lv_at hl 3 rfl) ?_
          refine lv_iadd hx hb dX0_costAt_38 ?_
          refine lv_iconst (v := 1) hx hb dX0_costAt_39 (by decide) ?_
          refine lv_isub hx hb dX0_costAt_40 ?_
          refine va_lald (D := D) hx hb hK hP 1 1 rfl rfl (om_k_X0_costAt_0 a1 a2 c_1 c_2 c_3 c_4) dX0_costAt_41 ?_
          refine lv_goto (tgt := 46) hx hb dX0_costAt_42 (by decide) ?_
          exact END (cf (((a1 * 3) + a2) - 1).toNatClampNeg) hT _ _ hP hD hS _ _ dX0_costAt_46
theorem dX0_copy_0 : decode cX0_copy 0 = .ok (.iload_n 1, 1) := by decide +kernel
theorem dX0_copy_1 : decode cX0_copy 1 = .ok (.ifCond .lt 19, 3) := by decide +kernel
theorem dX0_copy_4 : decode cX0_copy 4 = .ok (.iload_n 1, 1) := by decide +kernel
theorem dX0_copy_5 : decode cX0_copy 5 = .ok (.bipush 64, 2) := by decide +kernel
theorem dX0_copy_7 : decode cX0_copy 7 = .ok (.if_icmp .ge 13, 3) := by decide +kernel
theorem dX0_copy_10 : decode cX0_copy 10 = .ok (.iload_n 2, 1) := by decide +kernel
theorem dX0_copy_11 : decode cX0_copy 11 = .ok (.ifCond .lt 9, 3) := by decide +kernel
theorem dX0_copy_14 : decode cX0_copy 14 = .ok (.iload_n 2, 1) := by decide +kernel
theorem dX0_copy_15 : decode cX0_copy 15 = .ok (.bipush 64, 2) := by decide +kernel
theorem dX0_copy_17 : decode cX0_copy 17 = .ok (.if_icmp .lt 4, 3) := by decide +kernel
theorem dX0_copy_20 : decode cX0_copy 20 = .ok (.return_, 1) := by decide +kernel
theorem dX0_copy_21 : decode cX0_copy 21 = .ok (.aload_n 0, 1) := by decide +kernel
theorem dX0_copy_22 : decode cX0_copy 22 = .ok (.getfield 9, 3) := by decide +kernel
theorem dX0_copy_25 : decode cX0_copy 25 = .ok (.iload_n 2, 1) := by decide +kernel
theorem dX0_copy_26 : decode cX0_copy 26 = .ok (.aload_n 0, 1) := by decide +kernel
theorem dX0_copy_27 : decode cX0_copy 27 = .ok (.getfield 9, 3) := by decide +kernel
theorem dX0_copy_30 : decode cX0_copy 30 = .ok (.iload_n 1, 1) := by decide +kernel
theorem dX0_copy_31 : decode cX0_copy 31 = .ok (.iaload, 1) := by decide +kernel
theorem dX0_copy_32 : decode cX0_copy 32 = .ok (.iastore, 1) := by decide +kernel
theorem dX0_copy_33 : decode cX0_copy 33 = .ok (.iconst 0, 1) := by decide +kernel
theorem dX0_copy_34 : decode cX0_copy 34 = .ok (.istore_n 3, 1) := by decide +kernel
theorem dX0_copy_35 : decode cX0_copy 35 = .ok (.iload_n 3, 1) := by decide +kernel
theorem dX0_copy_36 : decode cX0_copy 36 = .ok (.iconst 3, 1) := by decide +kernel
theorem dX0_copy_37 : decode cX0_copy 37 = .ok (.if_icmp .ge 29, 3) := by decide +kernel
theorem dX0_copy_40 : decode cX0_copy 40 = .ok (.aload_n 0, 1) := by decide +kernel
theorem dX0_copy_41 : decode cX0_copy 41 = .ok (.getfield 15, 3) := by decide +kernel
theorem dX0_copy_44 : decode cX0_copy 44 = .ok (.iload_n 2, 1) := by decide +kernel
theorem dX0_copy_45 : decode cX0_copy 45 = .ok (.iconst 3, 1) := by decide +kernel
theorem dX0_copy_46 : decode cX0_copy 46 = .ok (.imul, 1) := by decide +kernel
theorem dX0_copy_47 : decode cX0_copy 47 = .ok (.iload_n 3, 1) := by decide +kernel
theorem dX0_copy_48 : decode cX0_copy 48 = .ok (.iadd, 1) := by decide +kernel
theorem dX0_copy_49 : decode cX0_copy 49 = .ok (.aload_n 0, 1) := by decide +kernel
theorem dX0_copy_50 : decode cX0_copy 50 = .ok (.getfield 15, 3) := by decide +kernel
theorem dX0_copy_53 : decode cX0_copy 53 = .ok (.iload_n 1, 1) := by decide +kernel
theorem dX0_copy_54 : decode cX0_copy 54 = .ok (.iconst 3, 1) := by decide +kernel
theorem dX0_copy_55 : decode cX0_copy 55 = .ok (.imul, 1) := by decide +kernel
theorem dX0_copy_56 : decode cX0_copy 56 = .ok (.iload_n 3, 1) := by decide +kernel
theorem dX0_copy_57 : decode cX0_copy 57 = .ok (.iadd, 1) := by decide +kernel
theorem dX0_copy_58 : decode cX0_copy 58 = .ok (.laload, 1) := by decide +kernel
theorem dX0_copy_59 : decode cX0_copy 59 = .ok (.lastore, 1) := by decide +kernel
theorem dX0_copy_60 : decode cX0_copy 60 = .ok (.iinc 3 1, 3) := by decide +kernel
theorem dX0_copy_63 : decode cX0_copy 63 = .ok (.goto (-28), 3) := by decide +kernel
theorem dX0_copy_66 : decode cX0_copy 66 = .ok (.return_, 1) := by decide +kernel
def wW_k_X0_copy (ty : Nat → ClassId) (h0 : Nat) (s1 : Nat) (s2 : Nat) (z9_0 : Int32) (z9_1 : Int32) (z9_2 : Nat → Int32) (z9_3 : Nat → Int64) : va_W := [(h0, .inr (2, [.ref s1, .ref s2, .int z9_0, .int z9_1])), (s1, .inl (ty 0, 64, .inl z9_2)), (s2, .inl (ty 1, 192, .inr (.inl z9_3)))]
def vs_k_X0_copy : List Cond := .code yX0_copy cX0_copy 4 none :: ([.fieldLink RX0 9 "AnswerFold$Answers" "sets" "[I", .fieldLink RX0 15 "AnswerFold$Answers" "costs" "[J"] ++ (u_ws RX0 TX0 4))
theorem iv_k_X0_copy_X0 : ∀ w ∈ u_ws RX0 TX0 4, w ∈ vs_k_X0_copy := (fun _ h => List.mem_cons_of_mem _ (List.mem_append_right _ (h)))
theorem om_k_X0_copy_0 (a1 : Int32) (v3_35 : Int32) (a2 : Int32) (c_1 : ¬ (a1 < 0)) (c_2 : ¬ (64 ≤ a1)) (c_3 : ¬ (a2 < 0)) (c_4 : a2 < 64) (hn_35 : 0 ≤ v3_35.toInt) (c_5 : ¬ (3 ≤ v3_35)) : vp_in ((a1 * 3) + v3_35) 192 := by
  have f_0 := Int32.le_iff_toInt_le.mp (Int32.not_lt.mp c_1)
  have f_1 := Int32.lt_iff_toInt_lt.mp (Int32.not_le.mp c_2)
  have f_2 := Int32.le_iff_toInt_le.mp (Int32.not_lt.mp c_3)
  have f_3 := Int32.lt_iff_toInt_lt.mp (c_4)
  have f_4 := hn_35
  have f_5 := Int32.lt_iff_toInt_lt.mp (Int32.not_le.mp c_5)
  have nl_0 : (0 : Int32).toInt = 0 := rfl
  have nl_3 : (3 : Int32).toInt = 3 := rfl
  have nl_64 : (64 : Int32).toInt = 64 := rfl
  have r_a1 := wi_rng a1
  have q_1 : (a1 * 3).toInt = (a1).toInt * 3 := wi_mulc rfl (by omega) (by omega)
  have r_v3_35 := wi_rng v3_35
  have q_3 : ((a1 * 3) + v3_35).toInt = ((a1 * 3) : Int32).toInt + (v3_35 : Int32).toInt := wi_add (by omega) (by omega)
  exact wi_in (by omega) (by omega)
theorem om_k_X0_copy_1 (a2 : Int32) (v3_35 : Int32) (a1 : Int32) (c_1 : ¬ (a1 < 0)) (c_2 : ¬ (64 ≤ a1)) (c_3 : ¬ (a2 < 0)) (c_4 : a2 < 64) (hn_35 : 0 ≤ v3_35.toInt) (c_5 : ¬ (3 ≤ v3_35)) : vp_in ((a2 * 3) + v3_35) 192 := by
  have f_0 := Int32.le_iff_toInt_le.mp (Int32.not_lt.mp c_1)
  have f_1 := Int32.lt_iff_toInt_lt.mp (Int32.not_le.mp c_2)
  have f_2 := Int32.le_iff_toInt_le.mp (Int32.not_lt.mp c_3)
  have f_3 := Int32.lt_iff_toInt_lt.mp (c_4)
  have f_4 := hn_35
  have f_5 := Int32.lt_iff_toInt_lt.mp (Int32.not_le.mp c_5)
  have nl_0 : (0 : Int32).toInt = 0 := rfl
  have nl_3 : (3 : Int32).toInt = 3 := rfl
  have nl_64 : (64 : Int32).toInt = 64 := rfl
  have r_a2 := wi_rng a2
  have q_1 : (a2 * 3).toInt = (a2).toInt * 3 := wi_mulc rfl (by omega) (by omega)
  have r_v3_35 := wi_rng v3_35
  have q_3 : ((a2 * 3) + v3_35).toInt = ((a2 * 3) : Int32).toInt + (v3_35 : Int32).toInt := wi_add (by omega) (by omega)
  exact wi_in (by omega) (by omega)
set_option maxHeartbeats 4000000 in
set_option maxRecDepth 100000 in
theorem k_X0_copy (l : Launch) (D : va_G) (ty : Nat → ClassId) (td mi sz : Nat) (h0 : Nat) (s1 : Nat) (s2 : Nat) (ac : Int32) (ak : Int32) (sf : Nat → Int32) (cf : Nat → Int64) (a1 : Int32) (a2 : Int32) (TT : r_k_X0_copy) (hTT : TT = m_k_X0_copy sf cf a1 a2) : Met l yX0_copy vs_k_X0_copy { frames := 0, cells := 0, slots := 0, locals := 0 } (va_Pc [.ref h0, .int a1, .int a2] (wq_P D ty td mi (wW_k_X0_copy ty h0 s1 s2 ac ak sf cf) sz)) (va_Qv (fun u : va_W => ((u = (wW_k_X0_copy ty h0 s1 s2 ac ak TT.1 TT.2)))) (wq_B D (va_A (wW_k_X0_copy ty h0 s1 s2 ac ak sf cf) sz)) (va_A (wW_k_X0_copy ty h0 s1 s2 ac ak sf cf) sz)) 0 0 (va_A (wW_k_X0_copy ty h0 s1 s2 ac ak sf cf) sz) := by
  refine Met.ofW (cc := cX0_copy) (maxL := 4) (ret := none) (by decide) rfl ?_
  intro p e s m args below meth c s₁ B hml hv
  obtain ⟨rfl, hsz, hP, hK, hD0, hE⟩ := hv
  have hx := B.exec
  have hb := B.bytes
  have hr := B.returns
  have hts := atoms_spec (ws := vs_k_X0_copy) B.pre
  have hown : s.vm.findClass RX0 = some m.cls := findClass_of_methodNamed B.named
  have hlocks := B.notSynchronized
  subst hsz
  have hD := hD0.self (sz := s.heap.size)
  generalize hAe : va_A (wW_k_X0_copy ty h0 s1 s2 ac ak sf cf) s.heap.size = A at hD hE ⊢
  have hA : ∀ q : Nat, s.heap.size ≤ q → A q := fun q h => by rw [← hAe]; exact Or.inr h
  have hS : va_S A s.heap s.heap [] := va_S.rf
  have hP : va_P D vwCl (wW_k_X0_copy ty h0 s1 s2 ac ak sf cf) s.heap := hP
  have hl := lv_entry ([.ref h0, .int a1, .int a2]) (n := 4) (Nat.le_of_ble_eq_true rfl)
  rw [lg_entry_eq]
  generalize (lg_sl ([.ref h0, .int a1, .int a2]) ++ List.replicate (4 - (lg_sl ([.ref h0, .int a1, .int a2])).length) Slot.unset).toArray = ls at hl ⊢
  have hl : lv_has ls 4 [(0, .ref h0), (1, .int a1), (2, .int a2)] := hl
  have END : ∀ (w9_0 : Nat → Int32) (w9_1 : Nat → Int64), TT = (w9_0, w9_1) → ∀ (H : Heap) (locs : List Loc), va_P D vwCl (wW_k_X0_copy ty h0 s1 s2 ac ak w9_0 w9_1) H → va_D A (wW_k_X0_copy ty h0 s1 s2 ac ak w9_0 w9_1) → va_S A s.heap H locs → ∀ (ls : Array Slot) (pc : Nat), decode cX0_copy pc = .ok (.return_, 1) → W p l e (headSpec vs_k_X0_copy { frames := 0, cells := 0, slots := 0, locals := 0 }).room s m ([.ref h0, .int a1, .int a2] : List Value).toArray below meth c H locs 0 0 (MQ below (va_Qv (fun u : va_W => ((u = (wW_k_X0_copy ty h0 s1 s2 ac ak TT.1 TT.2)))) (wq_B D A) A) ([.ref h0, .int a1, .int a2] : List Value).toArray s 0 0 A) (F0 m pc ls []) := by
    intro w9_0 w9_1 hT H locs hP hD hS ls pc hd
    have hM : TT = (w9_0, w9_1) := hT
    exact W.vret hx hb hr (fun t ht hW => ⟨⟨(wW_k_X0_copy ty h0 s1 s2 ac ak w9_0 w9_1), rfl, (by rw [hM]), wq_B.of ht hP hD⟩, hS.F ht⟩) hS.2.2 hd
  have hT := hTT
  rw [m_k_X0_copy] at hT
  refine lv_iload_n hx hb dX0_copy_0 rfl (lv_at hl 1 rfl) ?_
  refine lv_if_lt (tgt := 20) hx hb dX0_copy_1 (by decide) (fun c_1 => ?_) (fun c_1 => ?_)
  · rw [if_pos c_1] at hT
    exact END sf cf hT _ _ hP hD hS _ _ dX0_copy_20
  · rw [if_neg c_1] at hT
    refine lv_iload_n hx hb dX0_copy_4 rfl (lv_at hl 1 rfl) ?_
    refine lv_bipush (v := 64) hx hb dX0_copy_5 (by decide) ?_
    refine lv_icmp_ge (tgt := 20) hx hb dX0_copy_7 (by decide) (fun c_2 => ?_) (fun c_2 => ?_)
    · rw [if_pos c_2] at hT
      exact END sf cf hT _ _ hP hD hS _ _ dX0_copy_20
    · rw [if_neg c_2] at hT
      refine lv_iload_n hx hb dX0_copy_10 rfl (lv_at hl 2 rfl) ?_
      refine lv_if_lt (tgt := 20) hx hb dX0_copy_11 (by decide) (fun c_3 => ?_) (fun c_3 => ?_)
      · rw [if_pos c_3] at hT
        exact END sf cf hT _ _ hP hD hS _ _ dX0_copy_20
      · rw [if_neg c_3] at hT
        refine lv_iload_n hx hb dX0_copy_14 rfl (lv_at hl 2 rfl) ?_
        refine lv_bipush (v := 64) hx hb dX0_copy_15 (by decide) ?_
        refine lv_icmp_lt (tgt := 21) hx hb dX0_copy_17 (by decide) (fun c_4 => ?_) (fun c_4 => ?_)
        · rw [if_pos c_4] at hT
          refine lv_aload_n hx hb dX0_copy_21 rfl (lv_at hl 0 rfl) ?_
          refine va_get (D := D) (ci := 2) (v := .ref s1) (C := RX0) (T := TX0) (N := 4) hx hb hts iv_k_X0_copy_X0 hown hK hP 0 rfl rfl 0 (by decide) (hts (.fieldLink RX0 9 "AnswerFold$Answers" "sets" "[I") (by decide +kernel)) (fun _ h9 => h9) rfl dX0_copy_22 ?_
          refine lv_iload_n hx hb dX0_copy_25 rfl (lv_at hl 2 rfl) ?_
          refine lv_aload_n hx hb dX0_copy_26 rfl (lv_at hl 0 rfl) ?_
          refine va_get (D := D) (ci := 2) (v := .ref s1) (C := RX0) (T := TX0) (N := 4) hx hb hts iv_k_X0_copy_X0 hown hK hP 0 rfl rfl 0 (by decide) (hts (.fieldLink RX0 9 "AnswerFold$Answers" "sets" "[I") (by decide +kernel)) (fun _ h9 => h9) rfl dX0_copy_27 ?_
          refine lv_iload_n hx hb dX0_copy_30 rfl (lv_at hl 1 rfl) ?_
          refine va_iald (D := D) hx hb hK hP 1 0 rfl rfl (wi_in (wi_lo c_1) (wi_hi c_2 (by decide))) dX0_copy_31 ?_
          refine va_iast (D := D) hx hb hK hP hD hS 1 0 rfl rfl (wi_in (wi_lo c_3) (wi_hi (Int32.not_le.mpr c_4) (by decide))) dX0_copy_32 (fun H locs hP hD hS => ?_)
          have hP : va_P D vwCl (wW_k_X0_copy ty h0 s1 s2 ac ak (upd sf a2.toNatClampNeg (sf a1.toNatClampNeg)) cf) H := hP
          have hD : va_D A (wW_k_X0_copy ty h0 s1 s2 ac ak (upd sf a2.toNatClampNeg (sf a1.toNatClampNeg)) cf) := hD
          refine lv_iconst (v := 0) hx hb dX0_copy_33 (by decide) ?_
          refine lv_istore_n (lv' := [(3, .int 0), (0, .ref h0), (1, .int a1), (2, .int a2)]) hx hb dX0_copy_34 rfl hl (by decide) rfl (fun ls hl => ?_)
          have L_35 : ∀ (n_35 : Nat) (v3_35 : Int32) (s2_f_35 : Nat → Int64), (2147483648 - v3_35.toInt).toNat < n_35 → TT = m_k_X0_copy_35 sf a1 a2 n_35 v3_35 s2_f_35 → 0 ≤ v3_35.toInt → ∀ (H : Heap) (locs : List Loc), va_P D vwCl (wW_k_X0_copy ty h0 s1 s2 ac ak (upd sf a2.toNatClampNeg (sf a1.toNatClampNeg)) s2_f_35) H → va_D A (wW_k_X0_copy ty h0 s1 s2 ac ak (upd sf a2.toNatClampNeg (sf a1.toNatClampNeg)) s2_f_35) → va_S A s.heap H locs → ∀ ls : Array Slot, lv_has ls 4 [(0, .ref h0), (1, .int a1), (2, .int a2), (3, .int v3_35)] → W p l e (headSpec vs_k_X0_copy { frames := 0, cells := 0, slots := 0, locals := 0 }).room s m ([.ref h0, .int a1, .int a2] : List Value).toArray below meth c H locs 0 0 (MQ below (va_Qv (fun u : va_W => ((u = (wW_k_X0_copy ty h0 s1 s2 ac ak TT.1 TT.2)))) (wq_B D A) A) ([.ref h0, .int a1, .int a2] : List Value).toArray s 0 0 A) (F0 m 35 ls []) := by
            intro n_35
            induction n_35 with
            | zero => intro v3_35 s2_f_35 hu; exact absurd hu (Nat.not_lt_zero _)
            | succ n_35 ih_35 =>
              intro v3_35 s2_f_35 hu_35 hT hn_35 H locs hP hD hS ls hl
              rw [m_k_X0_copy_35_succ, m_k_X0_copy_35s] at hT
              refine lv_iload_n hx hb dX0_copy_35 rfl (lv_at hl 3 rfl) ?_
              refine lv_iconst (v := 3) hx hb dX0_copy_36 (by decide) ?_
              refine lv_icmp_ge (tgt := 66) hx hb dX0_copy_37 (by decide) (fun c_5 => ?_) (fun c_5 => ?_)
              · rw [if_pos c_5] at hT
                exact END (upd sf a2.toNatClampNeg (sf a1.toNatClampNeg)) s2_f_35 hT _ _ hP hD hS _ _ dX0_copy_66
              · rw [if_neg c_5] at hT
                refine lv_aload_n hx hb dX0_copy_40 rfl (lv_at hl 0 rfl) ?_
                refine va_get (D := D) (ci := 2) (v := .ref s2) (C := RX0) (T := TX0) (N := 4) hx hb hts iv_k_X0_copy_X0 hown hK hP 0 rfl rfl 1 (by decide) (hts (.fieldLink RX0 15 "AnswerFold$Answers" "costs" "[J") (by decide +kernel)) (fun _ h9 => h9) rfl dX0_copy_41 ?_
                refine lv_iload_n hx hb dX0_copy_44 rfl (lv_at hl 2 rfl) ?_
                refine lv_iconst (v := 3) hx hb dX0_copy_45 (by decide) ?_
                refine lv_imul hx hb dX0_copy_46 ?_
                refine lv_iload_n hx hb dX0_copy_47 rfl (lv_at hl 3 rfl) ?_
                refine lv_iadd hx hb dX0_copy_48 ?_
                refine lv_aload_n hx hb dX0_copy_49 rfl (lv_at hl 0 rfl) ?_
                refine va_get (D := D) (ci := 2) (v := .ref s2) (C := RX0) (T := TX0) (N := 4) hx hb hts iv_k_X0_copy_X0 hown hK hP 0 rfl rfl 1 (by decide) (hts (.fieldLink RX0 15 "AnswerFold$Answers" "costs" "[J") (by decide +kernel)) (fun _ h9 => h9) rfl dX0_copy_50 ?_
                refine lv_iload_n hx hb dX0_copy_53 rfl (lv_at hl 1 rfl) ?_
                refine lv_iconst (v := 3) hx hb dX0_copy_54 (by decide) ?_
                refine lv_imul hx hb dX0_copy_55 ?_
                refine lv_iload_n hx hb dX0_copy_56 rfl (lv_at hl 3 rfl) ?_
                refine lv_iadd hx hb dX0_copy_57 ?_
                refine va_lald (D := D) hx hb hK hP 2 1 rfl rfl (om_k_X0_copy_0 a1 v3_35 a2 c_1 c_2 c_3 c_4 hn_35 c_5) dX0_copy_58 ?_
                refine va_last (D := D) hx hb hK hP hD hS 2 1 rfl rfl (om_k_X0_copy_1 a2 v3_35 a1 c_1 c_2 c_3 c_4 hn_35 c_5) dX0_copy_59 (fun H locs hP hD hS => ?_)
                have hP : va_P D vwCl (wW_k_X0_copy ty h0 s1 s2 ac ak (upd sf a2.toNatClampNeg (sf a1.toNatClampNeg)) (vp_updL s2_f_35 (((a2 * 3) + v3_35).toNatClampNeg) (s2_f_35 ((a1 * 3) + v3_35).toNatClampNeg))) H := hP
                have hD : va_D A (wW_k_X0_copy ty h0 s1 s2 ac ak (upd sf a2.toNatClampNeg (sf a1.toNatClampNeg)) (vp_updL s2_f_35 (((a2 * 3) + v3_35).toNatClampNeg) (s2_f_35 ((a1 * 3) + v3_35).toNatClampNeg))) := hD
                refine lv_iinc (v := v3_35 + 1) (lv' := [(3, .int (v3_35 + 1)), (0, .ref h0), (1, .int a1), (2, .int a2)]) hx hb dX0_copy_60 hl (k := 3) rfl (by rfl) (by decide) rfl (fun ls hl => ?_)
                refine lv_goto (tgt := 35) hx hb dX0_copy_63 (by decide) ?_
                exact ih_35 (v3_35 + 1) (vp_updL s2_f_35 (((a2 * 3) + v3_35).toNatClampNeg) (s2_f_35 ((a1 * 3) + v3_35).toNatClampNeg)) (wi_up hu_35 (Int32.not_le.mp c_5)) hT (wi_inc hn_35 (Int32.not_le.mp c_5)) _ _ hP hD hS _ (lv_sub hl [1, 2, 3, 0] rfl)
          exact L_35 wF 0 cf (wF_up 0) hT (by decide) _ _ hP hD hS _ (lv_sub hl [1, 2, 3, 0] rfl)
        · rw [if_neg c_4] at hT
          exact END sf cf hT _ _ hP hD hS _ _ dX0_copy_20
theorem dX0_countBest_0 : decode cX0_countBest 0 = .ok (.iconst 0, 1) := by decide +kernel
theorem dX0_countBest_1 : decode cX0_countBest 1 = .ok (.istore_n 1, 1) := by decide +kernel
theorem dX0_countBest_2 : decode cX0_countBest 2 = .ok (.iconst 0, 1) := by decide +kernel
theorem dX0_countBest_3 : decode cX0_countBest 3 = .ok (.istore_n 2, 1) := by decide +kernel
theorem dX0_countBest_4 : decode cX0_countBest 4 = .ok (.iload_n 2, 1) := by decide +kernel
theorem dX0_countBest_5 : decode cX0_countBest 5 = .ok (.aload_n 0, 1) := by decide +kernel
theorem dX0_countBest_6 : decode cX0_countBest 6 = .ok (.getfield 19, 3) := by decide +kernel
theorem dX0_countBest_9 : decode cX0_countBest 9 = .ok (.if_icmp .ge 66, 3) := by decide +kernel
theorem dX0_countBest_12 : decode cX0_countBest 12 = .ok (.iconst 1, 1) := by decide +kernel
theorem dX0_countBest_13 : decode cX0_countBest 13 = .ok (.istore_n 3, 1) := by decide +kernel
theorem dX0_countBest_14 : decode cX0_countBest 14 = .ok (.iconst 1, 1) := by decide +kernel
theorem dX0_countBest_15 : decode cX0_countBest 15 = .ok (.istore 4, 2) := by decide +kernel
theorem dX0_countBest_17 : decode cX0_countBest 17 = .ok (.iload 4, 2) := by decide +kernel
theorem dX0_countBest_19 : decode cX0_countBest 19 = .ok (.iconst 3, 1) := by decide +kernel
theorem dX0_countBest_20 : decode cX0_countBest 20 = .ok (.if_icmp .gt 37, 3) := by decide +kernel
theorem dX0_countBest_23 : decode cX0_countBest 23 = .ok (.iload_n 3, 1) := by decide +kernel
theorem dX0_countBest_24 : decode cX0_countBest 24 = .ok (.ifCond .eq 25, 3) := by decide +kernel
theorem dX0_countBest_27 : decode cX0_countBest 27 = .ok (.aload_n 0, 1) := by decide +kernel
theorem dX0_countBest_28 : decode cX0_countBest 28 = .ok (.iload_n 2, 1) := by decide +kernel
theorem dX0_countBest_29 : decode cX0_countBest 29 = .ok (.iload 4, 2) := by decide +kernel
theorem dX0_countBest_31 : decode cX0_countBest 31 = .ok (.invokevirtual 31, 3) := by decide +kernel
theorem dX0_countBest_34 : decode cX0_countBest 34 = .ok (.aload_n 0, 1) := by decide +kernel
theorem dX0_countBest_35 : decode cX0_countBest 35 = .ok (.iconst 0, 1) := by decide +kernel
theorem dX0_countBest_36 : decode cX0_countBest 36 = .ok (.iload 4, 2) := by decide +kernel
theorem dX0_countBest_38 : decode cX0_countBest 38 = .ok (.invokevirtual 31, 3) := by decide +kernel
theorem dX0_countBest_41 : decode cX0_countBest 41 = .ok (.lcmp, 1) := by decide +kernel
theorem dX0_countBest_42 : decode cX0_countBest 42 = .ok (.ifCond .ne 7, 3) := by decide +kernel
theorem dX0_countBest_45 : decode cX0_countBest 45 = .ok (.iconst 1, 1) := by decide +kernel
theorem dX0_countBest_46 : decode cX0_countBest 46 = .ok (.goto 4, 3) := by decide +kernel
theorem dX0_countBest_49 : decode cX0_countBest 49 = .ok (.iconst 0, 1) := by decide +kernel
theorem dX0_countBest_50 : decode cX0_countBest 50 = .ok (.istore_n 3, 1) := by decide +kernel
theorem dX0_countBest_51 : decode cX0_countBest 51 = .ok (.iinc 4 1, 3) := by decide +kernel
theorem dX0_countBest_54 : decode cX0_countBest 54 = .ok (.goto (-37), 3) := by decide +kernel
theorem dX0_countBest_57 : decode cX0_countBest 57 = .ok (.iload_n 1, 1) := by decide +kernel
theorem dX0_countBest_58 : decode cX0_countBest 58 = .ok (.iload_n 3, 1) := by decide +kernel
theorem dX0_countBest_59 : decode cX0_countBest 59 = .ok (.ifCond .eq 7, 3) := by decide +kernel
theorem dX0_countBest_62 : decode cX0_countBest 62 = .ok (.iconst 1, 1) := by decide +kernel
theorem dX0_countBest_63 : decode cX0_countBest 63 = .ok (.goto 4, 3) := by decide +kernel
theorem dX0_countBest_66 : decode cX0_countBest 66 = .ok (.iconst 0, 1) := by decide +kernel
theorem dX0_countBest_67 : decode cX0_countBest 67 = .ok (.iadd, 1) := by decide +kernel
theorem dX0_countBest_68 : decode cX0_countBest 68 = .ok (.istore_n 1, 1) := by decide +kernel
theorem dX0_countBest_69 : decode cX0_countBest 69 = .ok (.iinc 2 1, 3) := by decide +kernel
theorem dX0_countBest_72 : decode cX0_countBest 72 = .ok (.goto (-68), 3) := by decide +kernel
theorem dX0_countBest_75 : decode cX0_countBest 75 = .ok (.iload_n 1, 1) := by decide +kernel
theorem dX0_countBest_76 : decode cX0_countBest 76 = .ok (.ireturn, 1) := by decide +kernel
def wW_k_X0_countBest (ty : Nat → ClassId) (h0 : Nat) (s1 : Nat) (s2 : Nat) (z9_0 : Int32) (z9_1 : Int32) (z9_2 : Nat → Int64) : va_W := [(h0, .inr (2, [.ref s1, .ref s2, .int z9_0, .int z9_1])), (s2, .inl (ty 1, 192, .inr (.inl z9_2)))]
def vs_k_X0_countBest : List Cond := .code yX0_countBest cX0_countBest 5 (some .int) :: ([.fieldLink RX0 19 "AnswerFold$Answers" "count" "I", .methodLink RX0 31 yX0_costAt, .instanceMethod yX0_costAt, .selects RX0 yX0_costAt yX0_costAt, .initialized RX0] ++ (u_ws RX0 TX0 4 ++ (vs_k_X0_costAt)))
theorem iv_k_X0_countBest_X0 : ∀ w ∈ u_ws RX0 TX0 4, w ∈ vs_k_X0_countBest := (fun _ h => List.mem_cons_of_mem _ (List.mem_append_right _ (List.mem_append_left _ h)))
set_option maxRecDepth 20000 in
theorem gv_k_X0_countBest_0 : GoodIn vs_k_X0_countBest (wsV RX0 31 RX0 yX0_costAt vs_k_X0_costAt) := goodIn_app (goodIn_sub (by decide +kernel) (by decide +kernel)) (goodIn_sub (fun _ h => List.mem_cons_of_mem _ (List.mem_append_right _ (List.mem_append_right _ (h)))) (by decide +kernel))
set_option maxRecDepth 20000 in
theorem gv_k_X0_countBest_1 : GoodIn vs_k_X0_countBest (wsV RX0 31 RX0 yX0_costAt vs_k_X0_costAt) := goodIn_app (goodIn_sub (by decide +kernel) (by decide +kernel)) (goodIn_sub (fun _ h => List.mem_cons_of_mem _ (List.mem_append_right _ (List.mem_append_right _ (h)))) (by decide +kernel))
set_option maxHeartbeats 4000000 in
set_option maxRecDepth 100000 in
theorem k_X0_countBest (l : Launch) (D : va_G) (ty : Nat → ClassId) (td mi sz : Nat) (h0 : Nat) (s1 : Nat) (s2 : Nat) (ac : Int32) (ak : Int32) (cf : Nat → Int64) (TT : r_k_X0_countBest) (hTT : TT = m_k_X0_countBest ac cf) : Met l yX0_countBest vs_k_X0_countBest { frames := 1, cells := 0, slots := 0, locals := 23 } (va_Pc [.ref h0] (wq_P D ty td mi (wW_k_X0_countBest ty h0 s1 s2 ac ak cf) sz)) (va_Qi (fun (r : Int32) (u : va_W) => (r = TT ∧ (u = (wW_k_X0_countBest ty h0 s1 s2 ac ak cf)))) (wq_B D (va_A (wW_k_X0_countBest ty h0 s1 s2 ac ak cf) sz)) (va_A (wW_k_X0_countBest ty h0 s1 s2 ac ak cf) sz)) 0 0 (va_A (wW_k_X0_countBest ty h0 s1 s2 ac ak cf) sz) := by
  refine Met.ofW (cc := cX0_countBest) (maxL := 5) (ret := (some .int)) (by decide) rfl ?_
  intro p e s m args below meth c s₁ B hml hv
  obtain ⟨rfl, hsz, hP, hK, hD0, hE⟩ := hv
  have hx := B.exec
  have hb := B.bytes
  have hr := B.returns
  have hts := atoms_spec (ws := vs_k_X0_countBest) B.pre
  have hown : s.vm.findClass RX0 = some m.cls := findClass_of_methodNamed B.named
  have hlocks := B.notSynchronized
  subst hsz
  have hD := hD0.self (sz := s.heap.size)
  generalize hAe : va_A (wW_k_X0_countBest ty h0 s1 s2 ac ak cf) s.heap.size = A at hD hE ⊢
  have hA : ∀ q : Nat, s.heap.size ≤ q → A q := fun q h => by rw [← hAe]; exact Or.inr h
  have hS : va_S A s.heap s.heap [] := va_S.rf
  have hP : va_P D vwCl (wW_k_X0_countBest ty h0 s1 s2 ac ak cf) s.heap := hP
  have hl := lv_entry ([.ref h0]) (n := 5) (Nat.le_of_ble_eq_true rfl)
  rw [lg_entry_eq]
  generalize (lg_sl ([.ref h0]) ++ List.replicate (5 - (lg_sl ([.ref h0])).length) Slot.unset).toArray = ls at hl ⊢
  have hl : lv_has ls 5 [(0, .ref h0)] := hl
  have END : ∀ (r : Int32), TT = r → ∀ (H : Heap) (locs : List Loc), va_P D vwCl (wW_k_X0_countBest ty h0 s1 s2 ac ak cf) H → va_D A (wW_k_X0_countBest ty h0 s1 s2 ac ak cf) → va_S A s.heap H locs → ∀ (ls : Array Slot) (pc : Nat), decode cX0_countBest pc = .ok (.ireturn, 1) → W p l e (headSpec vs_k_X0_countBest { frames := 1, cells := 0, slots := 0, locals := 23 }).room s m ([.ref h0] : List Value).toArray below meth c H locs 0 0 (MQ below (va_Qi (fun (r : Int32) (u : va_W) => (r = TT ∧ (u = (wW_k_X0_countBest ty h0 s1 s2 ac ak cf)))) (wq_B D A) A) ([.ref h0] : List Value).toArray s 0 0 A) (F0 m pc ls [.int r]) := by
    intro r hT H locs hP hD hS ls pc hd
    have hM : TT = r := hT
    exact W.iret (v := r) hx hb hr (fun t ht hW => ⟨⟨r, (wW_k_X0_countBest ty h0 s1 s2 ac ak cf), rfl, ⟨(by rw [hM]), rfl⟩, wq_B.of ht hP hD⟩, hS.F ht⟩) hS.2.2 hd
  have hT := hTT
  rw [m_k_X0_countBest] at hT
  refine lv_iconst (v := 0) hx hb dX0_countBest_0 (by decide) ?_
  refine lv_istore_n (lv' := [(1, .int 0), (0, .ref h0)]) hx hb dX0_countBest_1 rfl hl (by decide) rfl (fun ls hl => ?_)
  refine lv_iconst (v := 0) hx hb dX0_countBest_2 (by decide) ?_
  refine lv_istore_n (lv' := [(2, .int 0), (1, .int 0), (0, .ref h0)]) hx hb dX0_countBest_3 rfl hl (by decide) rfl (fun ls hl => ?_)
  have L_4 : ∀ (n_4 : Nat) (v1_4 : Int32) (v2_4 : Int32), (2147483648 - v2_4.toInt).toNat < n_4 → TT = m_k_X0_countBest_4 ac cf n_4 v1_4 v2_4 → 0 ≤ v2_4.toInt → ∀ (H : Heap) (locs : List Loc), va_P D vwCl (wW_k_X0_countBest ty h0 s1 s2 ac ak cf) H → va_D A (wW_k_X0_countBest ty h0 s1 s2 ac ak cf) → va_S A s.heap H locs → ∀ ls : Array Slot, lv_has ls 5 [(0, .ref h0), (1, .int v1_4), (2, .int v2_4)] → W p l e (headSpec vs_k_X0_countBest { frames := 1, cells := 0, slots := 0, locals := 23 }).room s m ([.ref h0] : List Value).toArray below meth c H locs 0 0 (MQ below (va_Qi (fun (r : Int32) (u : va_W) => (r = TT ∧ (u = (wW_k_X0_countBest ty h0 s1 s2 ac ak cf)))) (wq_B D A) A) ([.ref h0] : List Value).toArray s 0 0 A) (F0 m 4 ls []) := by
    intro n_4
    induction n_4 with
    | zero => intro v1_4 v2_4 hu; exact absurd hu (Nat.not_lt_zero _)
    | succ n_4 ih_4 =>
      intro v1_4 v2_4 hu_4 hT hn_4 H locs hP hD hS ls hl
      rw [m_k_X0_countBest_4_succ, m_k_X0_countBest_4s] at hT
      refine lv_iload_n hx hb dX0_countBest_4 rfl (lv_at hl 2 rfl) ?_
      refine lv_aload_n hx hb dX0_countBest_5 rfl (lv_at hl 0 rfl) ?_
      refine va_get (D := D) (ci := 2) (v := .int ac) (C := RX0) (T := TX0) (N := 4) hx hb hts iv_k_X0_countBest_X0 hown hK hP 0 rfl rfl 2 (by decide) (hts (.fieldLink RX0 19 "AnswerFold$Answers" "count" "I") (by decide +kernel)) (fun _ h9 => h9) rfl dX0_countBest_6 ?_
      refine lv_icmp_ge (tgt := 75) hx hb dX0_countBest_9 (by decide) (fun c_1 => ?_) (fun c_1 => ?_)
      · rw [if_pos c_1] at hT
        refine lv_iload_n hx hb dX0_countBest_75 rfl (lv_at hl 1 rfl) ?_
        exact END v1_4 hT _ _ hP hD hS _ _ dX0_countBest_76
      · rw [if_neg c_1] at hT
        refine lv_iconst (v := 1) hx hb dX0_countBest_12 (by decide) ?_
        refine lv_istore_n (lv' := [(3, .int 1), (0, .ref h0), (1, .int v1_4), (2, .int v2_4)]) hx hb dX0_countBest_13 rfl hl (by decide) rfl (fun ls hl => ?_)
        refine lv_iconst (v := 1) hx hb dX0_countBest_14 (by decide) ?_
        refine lv_istore (lv' := [(4, .int 1), (3, .int 1), (0, .ref h0), (1, .int v1_4), (2, .int v2_4)]) hx hb dX0_countBest_15 hl (by decide) rfl (fun ls hl => ?_)
        have L_17 : ∀ (n_17 : Nat) (v3_17 : Int32) (v4_17 : Int32), (2147483648 - v4_17.toInt).toNat < n_17 → TT = m_k_X0_countBest_17 cf (m_k_X0_countBest_4 ac cf n_4) v1_4 v2_4 n_17 v3_17 v4_17 → 0 ≤ v4_17.toInt → v3_17 = 0 ∨ v3_17 = 1 → ∀ (H : Heap) (locs : List Loc), va_P D vwCl (wW_k_X0_countBest ty h0 s1 s2 ac ak cf) H → va_D A (wW_k_X0_countBest ty h0 s1 s2 ac ak cf) → va_S A s.heap H locs → ∀ ls : Array Slot, lv_has ls 5 [(0, .ref h0), (1, .int v1_4), (2, .int v2_4), (3, .int v3_17), (4, .int v4_17)] → W p l e (headSpec vs_k_X0_countBest { frames := 1, cells := 0, slots := 0, locals := 23 }).room s m ([.ref h0] : List Value).toArray below meth c H locs 0 0 (MQ below (va_Qi (fun (r : Int32) (u : va_W) => (r = TT ∧ (u = (wW_k_X0_countBest ty h0 s1 s2 ac ak cf)))) (wq_B D A) A) ([.ref h0] : List Value).toArray s 0 0 A) (F0 m 17 ls []) := by
          intro n_17
          induction n_17 with
          | zero => intro v3_17 v4_17 hu; exact absurd hu (Nat.not_lt_zero _)
          | succ n_17 ih_17 =>
            intro v3_17 v4_17 hu_17 hT hn_17 hb_v3_17 H locs hP hD hS ls hl
            rw [m_k_X0_countBest_17_succ, m_k_X0_countBest_17s] at hT
            refine lv_iload hx hb dX0_countBest_17 (lv_at hl 4 rfl) ?_
            refine lv_iconst (v := 3) hx hb dX0_countBest_19 (by decide) ?_
            refine lv_icmp_gt (tgt := 57) hx hb dX0_countBest_20 (by decide) (fun c_2 => ?_) (fun c_2 => ?_)
            · rw [if_pos c_2] at hT
              refine lv_iload_n hx hb dX0_countBest_57 rfl (lv_at hl 1 rfl) ?_
              refine lv_iload_n hx hb dX0_countBest_58 rfl (lv_at hl 3 rfl) ?_
              have J_67 : ∀ (s0_67 : Int32), TT = m_k_X0_countBest_67 (m_k_X0_countBest_4 ac cf n_4) v1_4 v2_4 s0_67 → s0_67 = 0 ∨ s0_67 = 1 → ∀ (H : Heap) (locs : List Loc), va_P D vwCl (wW_k_X0_countBest ty h0 s1 s2 ac ak cf) H → va_D A (wW_k_X0_countBest ty h0 s1 s2 ac ak cf) → va_S A s.heap H locs → ∀ ls : Array Slot, lv_has ls 5 [(0, .ref h0), (2, .int v2_4)] → W p l e (headSpec vs_k_X0_countBest { frames := 1, cells := 0, slots := 0, locals := 23 }).room s m ([.ref h0] : List Value).toArray below meth c H locs 0 0 (MQ below (va_Qi (fun (r : Int32) (u : va_W) => (r = TT ∧ (u = (wW_k_X0_countBest ty h0 s1 s2 ac ak cf)))) (wq_B D A) A) ([.ref h0] : List Value).toArray s 0 0 A) (F0 m 67 ls [.int s0_67, .int v1_4]) := by
                intro s0_67 hT hb_s0_67 H locs hP hD hS ls hl
                rw [m_k_X0_countBest_67] at hT
                refine lv_iadd hx hb dX0_countBest_67 ?_
                refine lv_istore_n (lv' := [(1, .int (v1_4 + s0_67)), (0, .ref h0), (2, .int v2_4)]) hx hb dX0_countBest_68 rfl hl (by decide) rfl (fun ls hl => ?_)
                refine lv_iinc (v := v2_4 + 1) (lv' := [(2, .int (v2_4 + 1)), (1, .int (v1_4 + s0_67)), (0, .ref h0)]) hx hb dX0_countBest_69 hl (k := 2) rfl (by rfl) (by decide) rfl (fun ls hl => ?_)
                refine lv_goto (tgt := 4) hx hb dX0_countBest_72 (by decide) ?_
                exact ih_4 (v1_4 + s0_67) (v2_4 + 1) (wi_up hu_4 (Int32.not_le.mp c_1)) hT (wi_inc hn_4 (Int32.not_le.mp c_1)) _ _ hP hD hS _ (lv_sub hl [2, 1, 0] rfl)
              refine lv_if_eq (tgt := 66) hx hb dX0_countBest_59 (by decide) (fun c_3 => ?_) (fun c_3 => ?_)
              · rw [if_pos c_3] at hT
                refine lv_iconst (v := 0) hx hb dX0_countBest_66 (by decide) ?_
                exact J_67 0 hT (by decide) _ _ hP hD hS _ (lv_sub hl [0, 2] rfl)
              · rw [if_neg c_3] at hT
                refine lv_iconst (v := 1) hx hb dX0_countBest_62 (by decide) ?_
                refine lv_goto (tgt := 67) hx hb dX0_countBest_63 (by decide) ?_
                exact J_67 1 hT (by decide) _ _ hP hD hS _ (lv_sub hl [0, 2] rfl)
            · rw [if_neg c_2] at hT
              refine lv_iload_n hx hb dX0_countBest_23 rfl (lv_at hl 3 rfl) ?_
              have J_50 : ∀ (s0_50 : Int32), TT = m_k_X0_countBest_50 (m_k_X0_countBest_17 cf (m_k_X0_countBest_4 ac cf n_4) v1_4 v2_4 n_17) v4_17 s0_50 → s0_50 = 0 ∨ s0_50 = 1 → ∀ (H : Heap) (locs : List Loc), va_P D vwCl (wW_k_X0_countBest ty h0 s1 s2 ac ak cf) H → va_D A (wW_k_X0_countBest ty h0 s1 s2 ac ak cf) → va_S A s.heap H locs → ∀ ls : Array Slot, lv_has ls 5 [(0, .ref h0), (1, .int v1_4), (2, .int v2_4), (4, .int v4_17)] → W p l e (headSpec vs_k_X0_countBest { frames := 1, cells := 0, slots := 0, locals := 23 }).room s m ([.ref h0] : List Value).toArray below meth c H locs 0 0 (MQ below (va_Qi (fun (r : Int32) (u : va_W) => (r = TT ∧ (u = (wW_k_X0_countBest ty h0 s1 s2 ac ak cf)))) (wq_B D A) A) ([.ref h0] : List Value).toArray s 0 0 A) (F0 m 50 ls [.int s0_50]) := by
                intro s0_50 hT hb_s0_50 H locs hP hD hS ls hl
                rw [m_k_X0_countBest_50] at hT
                refine lv_istore_n (lv' := [(3, .int s0_50), (0, .ref h0), (1, .int v1_4), (2, .int v2_4), (4, .int v4_17)]) hx hb dX0_countBest_50 rfl hl (by decide) rfl (fun ls hl => ?_)
                refine lv_iinc (v := v4_17 + 1) (lv' := [(4, .int (v4_17 + 1)), (3, .int s0_50), (0, .ref h0), (1, .int v1_4), (2, .int v2_4)]) hx hb dX0_countBest_51 hl (k := 4) rfl (by rfl) (by decide) rfl (fun ls hl => ?_)
                refine lv_goto (tgt := 17) hx hb dX0_countBest_54 (by decide) ?_
                exact ih_17 s0_50 (v4_17 + 1) (wi_up hu_17 (Int32.lt_of_le_of_lt (Int32.not_lt.mp c_2) (by decide : (3 : Int32) < 4))) hT (wi_inc hn_17 (Int32.lt_of_le_of_lt (Int32.not_lt.mp c_2) (by decide : (3 : Int32) < 4))) hb_s0_50 _ _ hP hD hS _ (lv_sub hl [2, 3, 4, 1, 0] rfl)
              have J_49 : ∀ (_ : Unit), TT = m_k_X0_countBest_49 (m_k_X0_countBest_17 cf (m_k_X0_countBest_4 ac cf n_4) v1_4 v2_4 n_17) v4_17 → ∀ (H : Heap) (locs : List Loc), va_P D vwCl (wW_k_X0_countBest ty h0 s1 s2 ac ak cf) H → va_D A (wW_k_X0_countBest ty h0 s1 s2 ac ak cf) → va_S A s.heap H locs → ∀ ls : Array Slot, lv_has ls 5 [(0, .ref h0), (1, .int v1_4), (2, .int v2_4), (4, .int v4_17)] → W p l e (headSpec vs_k_X0_countBest { frames := 1, cells := 0, slots := 0, locals := 23 }).room s m ([.ref h0] : List Value).toArray below meth c H locs 0 0 (MQ below (va_Qi (fun (r : Int32) (u : va_W) => (r = TT ∧ (u = (wW_k_X0_countBest ty h0 s1 s2 ac ak cf)))) (wq_B D A) A) ([.ref h0] : List Value).toArray s 0 0 A) (F0 m 49 ls []) := by
                intro _ hT  H locs hP hD hS ls hl
                rw [m_k_X0_countBest_49] at hT
                refine lv_iconst (v := 0) hx hb dX0_countBest_49 (by decide) ?_
                exact J_50 0 hT (by decide) _ _ hP hD hS _ (lv_sub hl [0, 1, 2, 3] rfl)
              refine lv_if_eq (tgt := 49) hx hb dX0_countBest_24 (by decide) (fun c_4 => ?_) (fun c_4 => ?_)
              · rw [if_pos c_4] at hT
                exact J_49 () hT _ _ hP hD hS _ (lv_sub hl [0, 1, 2, 4] rfl)
              · rw [if_neg c_4] at hT
                refine lv_aload_n hx hb dX0_countBest_27 rfl (lv_at hl 0 rfl) ?_
                refine lv_iload_n hx hb dX0_countBest_28 rfl (lv_at hl 2 rfl) ?_
                refine lv_iload hx hb dX0_countBest_29 (lv_at hl 4 rfl) ?_
                obtain ⟨t_31, ht_31⟩ : ∃ t, t = m_k_X0_costAt cf v2_4 v4_17 := ⟨_, rfl⟩
                rw [lE_eq ht_31] at hT
                refine wq_lW (wc := (wW_k_X0_costAt ty h0 s1 s2 ac ak cf)) (va_runV (As := [.int v2_4, .int v4_17]) (rest := []) ⟨hx, hb, hml, hown, hts⟩ (k_X0_costAt l D ty td mi H.size h0 s1 s2 ac ak cf v2_4 v4_17 t_31 ht_31) (cwV 2 hts gv_k_X0_countBest_0 rfl rfl rfl (by decide +kernel) ⟨(Nat.le_of_ble_eq_true rfl), (Nat.le_of_ble_eq_true rfl)⟩) (wm_V (wm_preS hP hD hK hE hS hA [true, true] rfl) (va_recv (q0 := 0) (ci := 2) hK hP rfl rfl)) rfl rfl hl.1 rfl (lv_room (Nat.le_of_ble_eq_true rfl)) dX0_countBest_31 ⟨(Nat.le_of_ble_eq_true rfl), (Nat.le_of_ble_eq_true rfl)⟩) hS hA hP hD [true, true] rfl (fun _ _ h => by rcases h with ⟨-, rfl⟩; rfl) (fun r u H locs hw hP hD hS => ?_)
                obtain ⟨hr0, rfl⟩ := hw
                subst r
                have hP : va_P D vwCl (wW_k_X0_countBest ty h0 s1 s2 ac ak cf) H := hP
                have hD : va_D A (wW_k_X0_countBest ty h0 s1 s2 ac ak cf) := hD
                refine W.widen (k := 0) (n := 0) (Nat.le_of_ble_eq_true rfl) (Nat.le_of_ble_eq_true rfl) ?_
                refine lv_aload_n hx hb dX0_countBest_34 rfl (lv_at hl 0 rfl) ?_
                refine lv_iconst (v := 0) hx hb dX0_countBest_35 (by decide) ?_
                refine lv_iload hx hb dX0_countBest_36 (lv_at hl 4 rfl) ?_
                obtain ⟨t_38, ht_38⟩ : ∃ t, t = m_k_X0_costAt cf 0 v4_17 := ⟨_, rfl⟩
                rw [lE_eq ht_38] at hT
                refine wq_lW (wc := (wW_k_X0_costAt ty h0 s1 s2 ac ak cf)) (va_runV (As := [.int 0, .int v4_17]) (rest := [.long t_31]) ⟨hx, hb, hml, hown, hts⟩ (k_X0_costAt l D ty td mi H.size h0 s1 s2 ac ak cf 0 v4_17 t_38 ht_38) (cwV 2 hts gv_k_X0_countBest_1 rfl rfl rfl (by decide +kernel) ⟨(Nat.le_of_ble_eq_true rfl), (Nat.le_of_ble_eq_true rfl)⟩) (wm_V (wm_preS hP hD hK hE hS hA [true, true] rfl) (va_recv (q0 := 0) (ci := 2) hK hP rfl rfl)) rfl rfl hl.1 rfl (lv_room (Nat.le_of_ble_eq_true rfl)) dX0_countBest_38 ⟨(Nat.le_of_ble_eq_true rfl), (Nat.le_of_ble_eq_true rfl)⟩) hS hA hP hD [true, true] rfl (fun _ _ h => by rcases h with ⟨-, rfl⟩; rfl) (fun r u H locs hw hP hD hS => ?_)
                obtain ⟨hr0, rfl⟩ := hw
                subst r
                have hP : va_P D vwCl (wW_k_X0_countBest ty h0 s1 s2 ac ak cf) H := hP
                have hD : va_D A (wW_k_X0_countBest ty h0 s1 s2 ac ak cf) := hD
                refine W.widen (k := 0) (n := 0) (Nat.le_of_ble_eq_true rfl) (Nat.le_of_ble_eq_true rfl) ?_
                refine W.lcmp hx hb dX0_countBest_41 ?_
                refine lv_if_ne (tgt := 49) hx hb dX0_countBest_42 (by decide) (fun c_9 => ?_) (fun c_9 => ?_)
                · rw [if_neg c_9] at hT
                  exact J_49 () hT _ _ hP hD hS _ (lv_sub hl [0, 1, 2, 4] rfl)
                · rw [if_pos c_9] at hT
                  refine lv_iconst (v := 1) hx hb dX0_countBest_45 (by decide) ?_
                  refine lv_goto (tgt := 50) hx hb dX0_countBest_46 (by decide) ?_
                  exact J_50 1 hT (by decide) _ _ hP hD hS _ (lv_sub hl [0, 1, 2, 4] rfl)
        exact L_17 wF 1 1 (wF_up 1) hT (by decide) (by decide) _ _ hP hD hS _ (lv_sub hl [2, 3, 4, 1, 0] rfl)
  exact L_4 wF 0 0 (wF_up 0) hT (by decide) _ _ hP hD hS _ (lv_sub hl [2, 1, 0] rfl)
theorem dX0_countDifferent_0 : decode cX0_countDifferent 0 = .ok (.iconst 0, 1) := by decide +kernel
theorem dX0_countDifferent_1 : decode cX0_countDifferent 1 = .ok (.istore_n 2, 1) := by decide +kernel
theorem dX0_countDifferent_2 : decode cX0_countDifferent 2 = .ok (.iconst 0, 1) := by decide +kernel
theorem dX0_countDifferent_3 : decode cX0_countDifferent 3 = .ok (.istore_n 3, 1) := by decide +kernel
theorem dX0_countDifferent_4 : decode cX0_countDifferent 4 = .ok (.iload_n 3, 1) := by decide +kernel
theorem dX0_countDifferent_5 : decode cX0_countDifferent 5 = .ok (.aload_n 0, 1) := by decide +kernel
theorem dX0_countDifferent_6 : decode cX0_countDifferent 6 = .ok (.getfield 19, 3) := by decide +kernel
theorem dX0_countDifferent_9 : decode cX0_countDifferent 9 = .ok (.if_icmp .ge 70, 3) := by decide +kernel
theorem dX0_countDifferent_12 : decode cX0_countDifferent 12 = .ok (.iconst 1, 1) := by decide +kernel
theorem dX0_countDifferent_13 : decode cX0_countDifferent 13 = .ok (.istore 4, 2) := by decide +kernel
theorem dX0_countDifferent_15 : decode cX0_countDifferent 15 = .ok (.iconst 0, 1) := by decide +kernel
theorem dX0_countDifferent_16 : decode cX0_countDifferent 16 = .ok (.istore 5, 2) := by decide +kernel
theorem dX0_countDifferent_18 : decode cX0_countDifferent 18 = .ok (.iload 5, 2) := by decide +kernel
theorem dX0_countDifferent_20 : decode cX0_countDifferent 20 = .ok (.iload_n 3, 1) := by decide +kernel
theorem dX0_countDifferent_21 : decode cX0_countDifferent 21 = .ok (.if_icmp .ge 39, 3) := by decide +kernel
theorem dX0_countDifferent_24 : decode cX0_countDifferent 24 = .ok (.iload 4, 2) := by decide +kernel
theorem dX0_countDifferent_26 : decode cX0_countDifferent 26 = .ok (.ifCond .eq 34, 3) := by decide +kernel
theorem dX0_countDifferent_29 : decode cX0_countDifferent 29 = .ok (.aload_n 0, 1) := by decide +kernel
theorem dX0_countDifferent_30 : decode cX0_countDifferent 30 = .ok (.iload_n 3, 1) := by decide +kernel
theorem dX0_countDifferent_31 : decode cX0_countDifferent 31 = .ok (.invokevirtual 35, 3) := by decide +kernel
theorem dX0_countDifferent_34 : decode cX0_countDifferent 34 = .ok (.iload_n 1, 1) := by decide +kernel
theorem dX0_countDifferent_35 : decode cX0_countDifferent 35 = .ok (.iand, 1) := by decide +kernel
theorem dX0_countDifferent_36 : decode cX0_countDifferent 36 = .ok (.aload_n 0, 1) := by decide +kernel
theorem dX0_countDifferent_37 : decode cX0_countDifferent 37 = .ok (.iload 5, 2) := by decide +kernel
theorem dX0_countDifferent_39 : decode cX0_countDifferent 39 = .ok (.invokevirtual 35, 3) := by decide +kernel
theorem dX0_countDifferent_42 : decode cX0_countDifferent 42 = .ok (.iload_n 1, 1) := by decide +kernel
theorem dX0_countDifferent_43 : decode cX0_countDifferent 43 = .ok (.iand, 1) := by decide +kernel
theorem dX0_countDifferent_44 : decode cX0_countDifferent 44 = .ok (.if_icmp .eq 7, 3) := by decide +kernel
theorem dX0_countDifferent_47 : decode cX0_countDifferent 47 = .ok (.iconst 1, 1) := by decide +kernel
theorem dX0_countDifferent_48 : decode cX0_countDifferent 48 = .ok (.goto 4, 3) := by decide +kernel
theorem dX0_countDifferent_51 : decode cX0_countDifferent 51 = .ok (.iconst 0, 1) := by decide +kernel
theorem dX0_countDifferent_52 : decode cX0_countDifferent 52 = .ok (.istore 4, 2) := by decide +kernel
theorem dX0_countDifferent_54 : decode cX0_countDifferent 54 = .ok (.iinc 5 1, 3) := by decide +kernel
theorem dX0_countDifferent_57 : decode cX0_countDifferent 57 = .ok (.goto (-39), 3) := by decide +kernel
theorem dX0_countDifferent_60 : decode cX0_countDifferent 60 = .ok (.iload_n 2, 1) := by decide +kernel
theorem dX0_countDifferent_61 : decode cX0_countDifferent 61 = .ok (.iload 4, 2) := by decide +kernel
theorem dX0_countDifferent_63 : decode cX0_countDifferent 63 = .ok (.ifCond .eq 7, 3) := by decide +kernel
theorem dX0_countDifferent_66 : decode cX0_countDifferent 66 = .ok (.iconst 1, 1) := by decide +kernel
theorem dX0_countDifferent_67 : decode cX0_countDifferent 67 = .ok (.goto 4, 3) := by decide +kernel
theorem dX0_countDifferent_70 : decode cX0_countDifferent 70 = .ok (.iconst 0, 1) := by decide +kernel
theorem dX0_countDifferent_71 : decode cX0_countDifferent 71 = .ok (.iadd, 1) := by decide +kernel
theorem dX0_countDifferent_72 : decode cX0_countDifferent 72 = .ok (.istore_n 2, 1) := by decide +kernel
theorem dX0_countDifferent_73 : decode cX0_countDifferent 73 = .ok (.iinc 3 1, 3) := by decide +kernel
theorem dX0_countDifferent_76 : decode cX0_countDifferent 76 = .ok (.goto (-72), 3) := by decide +kernel
theorem dX0_countDifferent_79 : decode cX0_countDifferent 79 = .ok (.iload_n 2, 1) := by decide +kernel
theorem dX0_countDifferent_80 : decode cX0_countDifferent 80 = .ok (.ireturn, 1) := by decide +kernel
def wW_k_X0_countDifferent (ty : Nat → ClassId) (h0 : Nat) (s1 : Nat) (s2 : Nat) (z9_0 : Int32) (z9_1 : Int32) (z9_2 : Nat → Int32) : va_W := [(h0, .inr (2, [.ref s1, .ref s2, .int z9_0, .int z9_1])), (s1, .inl (ty 0, 64, .inl z9_2))]
def vs_k_X0_countDifferent : List Cond := .code yX0_countDifferent cX0_countDifferent 6 (some .int) :: ([.fieldLink RX0 19 "AnswerFold$Answers" "count" "I", .methodLink RX0 35 yX0_setAt, .instanceMethod yX0_setAt, .selects RX0 yX0_setAt yX0_setAt, .initialized RX0] ++ (u_ws RX0 TX0 4 ++ (vs_k_X0_setAt)))
theorem iv_k_X0_countDifferent_X0 : ∀ w ∈ u_ws RX0 TX0 4, w ∈ vs_k_X0_countDifferent := (fun _ h => List.mem_cons_of_mem _ (List.mem_append_right _ (List.mem_append_left _ h)))
set_option maxRecDepth 20000 in
theorem gv_k_X0_countDifferent_0 : GoodIn vs_k_X0_countDifferent (wsV RX0 35 RX0 yX0_setAt vs_k_X0_setAt) := goodIn_app (goodIn_sub (by decide +kernel) (by decide +kernel)) (goodIn_sub (fun _ h => List.mem_cons_of_mem _ (List.mem_append_right _ (List.mem_append_right _ (h)))) (by decide +kernel))
set_option maxRecDepth 20000 in
theorem gv_k_X0_countDifferent_1 : GoodIn vs_k_X0_countDifferent (wsV RX0 35 RX0 yX0_setAt vs_k_X0_setAt) := goodIn_app (goodIn_sub (by decide +kernel) (by decide +kernel)) (goodIn_sub (fun _ h => List.mem_cons_of_mem _ (List.mem_append_right _ (List.mem_append_right _ (h)))) (by decide +kernel))
set_option maxHeartbeats 4000000 in
set_option maxRecDepth 100000 in
theorem k_X0_countDifferent (l : Launch) (D : va_G) (ty : Nat → ClassId) (td mi sz : Nat) (h0 : Nat) (s1 : Nat) (s2 : Nat) (ac : Int32) (ak : Int32) (sf : Nat → Int32) (a1 : Int32) (TT : r_k_X0_countDifferent) (hTT : TT = m_k_X0_countDifferent ac sf a1) : Met l yX0_countDifferent vs_k_X0_countDifferent { frames := 1, cells := 0, slots := 0, locals := 21 } (va_Pc [.ref h0, .int a1] (wq_P D ty td mi (wW_k_X0_countDifferent ty h0 s1 s2 ac ak sf) sz)) (va_Qi (fun (r : Int32) (u : va_W) => (r = TT ∧ (u = (wW_k_X0_countDifferent ty h0 s1 s2 ac ak sf)))) (wq_B D (va_A (wW_k_X0_countDifferent ty h0 s1 s2 ac ak sf) sz)) (va_A (wW_k_X0_countDifferent ty h0 s1 s2 ac ak sf) sz)) 0 0 (va_A (wW_k_X0_countDifferent ty h0 s1 s2 ac ak sf) sz) := by
  refine Met.ofW (cc := cX0_countDifferent) (maxL := 6) (ret := (some .int)) (by decide) rfl ?_
  intro p e s m args below meth c s₁ B hml hv
  obtain ⟨rfl, hsz, hP, hK, hD0, hE⟩ := hv
  have hx := B.exec
  have hb := B.bytes
  have hr := B.returns
  have hts := atoms_spec (ws := vs_k_X0_countDifferent) B.pre
  have hown : s.vm.findClass RX0 = some m.cls := findClass_of_methodNamed B.named
  have hlocks := B.notSynchronized
  subst hsz
  have hD := hD0.self (sz := s.heap.size)
  generalize hAe : va_A (wW_k_X0_countDifferent ty h0 s1 s2 ac ak sf) s.heap.size = A at hD hE ⊢
  have hA : ∀ q : Nat, s.heap.size ≤ q → A q := fun q h => by rw [← hAe]; exact Or.inr h
  have hS : va_S A s.heap s.heap [] := va_S.rf
  have hP : va_P D vwCl (wW_k_X0_countDifferent ty h0 s1 s2 ac ak sf) s.heap := hP
  have hl := lv_entry ([.ref h0, .int a1]) (n := 6) (Nat.le_of_ble_eq_true rfl)
  rw [lg_entry_eq]
  generalize (lg_sl ([.ref h0, .int a1]) ++ List.replicate (6 - (lg_sl ([.ref h0, .int a1])).length) Slot.unset).toArray = ls at hl ⊢
  have hl : lv_has ls 6 [(0, .ref h0), (1, .int a1)] := hl
  have END : ∀ (r : Int32), TT = r → ∀ (H : Heap) (locs : List Loc), va_P D vwCl (wW_k_X0_countDifferent ty h0 s1 s2 ac ak sf) H → va_D A (wW_k_X0_countDifferent ty h0 s1 s2 ac ak sf) → va_S A s.heap H locs → ∀ (ls : Array Slot) (pc : Nat), decode cX0_countDifferent pc = .ok (.ireturn, 1) → W p l e (headSpec vs_k_X0_countDifferent { frames := 1, cells := 0, slots := 0, locals := 21 }).room s m ([.ref h0, .int a1] : List Value).toArray below meth c H locs 0 0 (MQ below (va_Qi (fun (r : Int32) (u : va_W) => (r = TT ∧ (u = (wW_k_X0_countDifferent ty h0 s1 s2 ac ak sf)))) (wq_B D A) A) ([.ref h0, .int a1] : List Value).toArray s 0 0 A) (F0 m pc ls [.int r]) := by
    intro r hT H locs hP hD hS ls pc hd
    have hM : TT = r := hT
    exact W.iret (v := r) hx hb hr (fun t ht hW => ⟨⟨r, (wW_k_X0_countDifferent ty h0 s1 s2 ac ak sf), rfl, ⟨(by rw [hM]), rfl⟩, wq_B.of ht hP hD⟩, hS.F ht⟩) hS.2.2 hd
  have hT := hTT
  rw [m_k_X0_countDifferent] at hT
  refine lv_iconst (v := 0) hx hb dX0_countDifferent_0 (by decide) ?_
  refine lv_istore_n (lv' := [(2, .int 0), (0, .ref h0), (1, .int a1)]) hx hb dX0_countDifferent_1 rfl hl (by decide) rfl (fun ls hl => ?_)
  refine lv_iconst (v := 0) hx hb dX0_countDifferent_2 (by decide) ?_
  refine lv_istore_n (lv' := [(3, .int 0), (2, .int 0), (0, .ref h0), (1, .int a1)]) hx hb dX0_countDifferent_3 rfl hl (by decide) rfl (fun ls hl => ?_)
  have L_4 : ∀ (n_4 : Nat) (v2_4 : Int32) (v3_4 : Int32), (2147483648 - v3_4.toInt).toNat < n_4 → TT = m_k_X0_countDifferent_4 ac sf a1 n_4 v2_4 v3_4 → 0 ≤ v3_4.toInt → ∀ (H : Heap) (locs : List Loc), va_P D vwCl (wW_k_X0_countDifferent ty h0 s1 s2 ac ak sf) H → va_D A (wW_k_X0_countDifferent ty h0 s1 s2 ac ak sf) → va_S A s.heap H locs → ∀ ls : Array Slot, lv_has ls 6 [(0, .ref h0), (1, .int a1), (2, .int v2_4), (3, .int v3_4)] → W p l e (headSpec vs_k_X0_countDifferent { frames := 1, cells := 0, slots := 0, locals := 21 }).room s m ([.ref h0, .int a1] : List Value).toArray below meth c H locs 0 0 (MQ below (va_Qi (fun (r : Int32) (u : va_W) => (r = TT ∧ (u = (wW_k_X0_countDifferent ty h0 s1 s2 ac ak sf)))) (wq_B D A) A) ([.ref h0, .int a1] : List Value).toArray s 0 0 A) (F0 m 4 ls []) := by
    intro n_4
    induction n_4 with
    | zero => intro v2_4 v3_4 hu; exact absurd hu (Nat.not_lt_zero _)
    | succ n_4 ih_4 =>
      intro v2_4 v3_4 hu_4 hT hn_4 H locs hP hD hS ls hl
      rw [m_k_X0_countDifferent_4_succ, m_k_X0_countDifferent_4s] at hT
      refine lv_iload_n hx hb dX0_countDifferent_4 rfl (lv_at hl 3 rfl) ?_
      refine lv_aload_n hx hb dX0_countDifferent_5 rfl (lv_at hl 0 rfl) ?_
      refine va_get (D := D) (ci := 2) (v := .int ac) (C := RX0) (T := TX0) (N := 4) hx hb hts iv_k_X0_countDifferent_X0 hown hK hP 0 rfl rfl 2 (by decide) (hts (.fieldLink RX0 19 "AnswerFold$Answers" "count" "I") (by decide +kernel)) (fun _ h9 => h9) rfl dX0_countDifferent_6 ?_
      refine lv_icmp_ge (tgt := 79) hx hb dX0_countDifferent_9 (by decide) (fun c_1 => ?_) (fun c_1 => ?_)
      · rw [if_pos c_1] at hT
        refine lv_iload_n hx hb dX0_countDifferent_79 rfl (lv_at hl 2 rfl) ?_
        exact END v2_4 hT _ _ hP hD hS _ _ dX0_countDifferent_80
      · rw [if_neg c_1] at hT
        refine lv_iconst (v := 1) hx hb dX0_countDifferent_12 (by decide) ?_
        refine lv_istore (lv' := [(4, .int 1), (0, .ref h0), (1, .int a1), (2, .int v2_4), (3, .int v3_4)]) hx hb dX0_countDifferent_13 hl (by decide) rfl (fun ls hl => ?_)
        refine lv_iconst (v := 0) hx hb dX0_countDifferent_15 (by decide) ?_
        refine lv_istore (lv' := [(5, .int 0), (4, .int 1), (0, .ref h0), (1, .int a1), (2, .int v2_4), (3, .int v3_4)]) hx hb dX0_countDifferent_16 hl (by decide) rfl (fun ls hl => ?_)
        have L_18 : ∀ (n_18 : Nat) (v4_18 : Int32) (v5_18 : Int32), (2147483648 - v5_18.toInt).toNat < n_18 → TT = m_k_X0_countDifferent_18 sf a1 (m_k_X0_countDifferent_4 ac sf a1 n_4) v2_4 v3_4 n_18 v4_18 v5_18 → 0 ≤ v5_18.toInt → v4_18 = 0 ∨ v4_18 = 1 → ∀ (H : Heap) (locs : List Loc), va_P D vwCl (wW_k_X0_countDifferent ty h0 s1 s2 ac ak sf) H → va_D A (wW_k_X0_countDifferent ty h0 s1 s2 ac ak sf) → va_S A s.heap H locs → ∀ ls : Array Slot, lv_has ls 6 [(0, .ref h0), (1, .int a1), (2, .int v2_4), (3, .int v3_4), (4, .int v4_18), (5, .int v5_18)] → W p l e (headSpec vs_k_X0_countDifferent { frames := 1, cells := 0, slots := 0, locals := 21 }).room s m ([.ref h0, .int a1] : List Value).toArray below meth c H locs 0 0 (MQ below (va_Qi (fun (r : Int32) (u : va_W) => (r = TT ∧ (u = (wW_k_X0_countDifferent ty h0 s1 s2 ac ak sf)))) (wq_B D A) A) ([.ref h0, .int a1] : List Value).toArray s 0 0 A) (F0 m 18 ls []) := by
          intro n_18
          induction n_18 with
          | zero => intro v4_18 v5_18 hu; exact absurd hu (Nat.not_lt_zero _)
          | succ n_18 ih_18 =>
            intro v4_18 v5_18 hu_18 hT hn_18 hb_v4_18 H locs hP hD hS ls hl
            rw [m_k_X0_countDifferent_18_succ, m_k_X0_countDifferent_18s] at hT
            refine lv_iload hx hb dX0_countDifferent_18 (lv_at hl 5 rfl) ?_
            refine lv_iload_n hx hb dX0_countDifferent_20 rfl (lv_at hl 3 rfl) ?_
            have J_60 : ∀ (_ : Unit), TT = m_k_X0_countDifferent_60 (m_k_X0_countDifferent_4 ac sf a1 n_4) v2_4 v3_4 v4_18 → ∀ (H : Heap) (locs : List Loc), va_P D vwCl (wW_k_X0_countDifferent ty h0 s1 s2 ac ak sf) H → va_D A (wW_k_X0_countDifferent ty h0 s1 s2 ac ak sf) → va_S A s.heap H locs → ∀ ls : Array Slot, lv_has ls 6 [(0, .ref h0), (1, .int a1), (2, .int v2_4), (3, .int v3_4), (4, .int v4_18)] → W p l e (headSpec vs_k_X0_countDifferent { frames := 1, cells := 0, slots := 0, locals := 21 }).room s m ([.ref h0, .int a1] : List Value).toArray below meth c H locs 0 0 (MQ below (va_Qi (fun (r : Int32) (u : va_W) => (r = TT ∧ (u = (wW_k_X0_countDifferent ty h0 s1 s2 ac ak sf)))) (wq_B D A) A) ([.ref h0, .int a1] : List Value).toArray s 0 0 A) (F0 m 60 ls []) := by
              intro _ hT  H locs hP hD hS ls hl
              rw [m_k_X0_countDifferent_60] at hT
              refine lv_iload_n hx hb dX0_countDifferent_60 rfl (lv_at hl 2 rfl) ?_
              refine lv_iload hx hb dX0_countDifferent_61 (lv_at hl 4 rfl) ?_
              have J_71 : ∀ (s0_71 : Int32), TT = m_k_X0_countDifferent_71 (m_k_X0_countDifferent_4 ac sf a1 n_4) v2_4 v3_4 s0_71 → s0_71 = 0 ∨ s0_71 = 1 → ∀ (H : Heap) (locs : List Loc), va_P D vwCl (wW_k_X0_countDifferent ty h0 s1 s2 ac ak sf) H → va_D A (wW_k_X0_countDifferent ty h0 s1 s2 ac ak sf) → va_S A s.heap H locs → ∀ ls : Array Slot, lv_has ls 6 [(0, .ref h0), (1, .int a1), (3, .int v3_4)] → W p l e (headSpec vs_k_X0_countDifferent { frames := 1, cells := 0, slots := 0, locals := 21 }).room s m ([.ref h0, .int a1] : List Value).toArray below meth c H locs 0 0 (MQ below (va_Qi (fun (r : Int32) (u : va_W) => (r = TT ∧ (u = (wW_k_X0_countDifferent ty h0 s1 s2 ac ak sf)))) (wq_B D A) A) ([.ref h0, .int a1] : List Value).toArray s 0 0 A) (F0 m 71 ls [.int s0_71, .int v2_4]) := by
                intro s0_71 hT hb_s0_71 H locs hP hD hS ls hl
                rw [m_k_X0_countDifferent_71] at hT
                refine lv_iadd hx hb dX0_countDifferent_71 ?_
                refine lv_istore_n (lv' := [(2, .int (v2_4 + s0_71)), (0, .ref h0), (1, .int a1), (3, .int v3_4)]) hx hb dX0_countDifferent_72 rfl hl (by decide) rfl (fun ls hl => ?_)
                refine lv_iinc (v := v3_4 + 1) (lv' := [(3, .int (v3_4 + 1)), (2, .int (v2_4 + s0_71)), (0, .ref h0), (1, .int a1)]) hx hb dX0_countDifferent_73 hl (k := 3) rfl (by rfl) (by decide) rfl (fun ls hl => ?_)
                refine lv_goto (tgt := 4) hx hb dX0_countDifferent_76 (by decide) ?_
                exact ih_4 (v2_4 + s0_71) (v3_4 + 1) (wi_up hu_4 (Int32.not_le.mp c_1)) hT (wi_inc hn_4 (Int32.not_le.mp c_1)) _ _ hP hD hS _ (lv_sub hl [2, 3, 1, 0] rfl)
              refine lv_if_eq (tgt := 70) hx hb dX0_countDifferent_63 (by decide) (fun c_2 => ?_) (fun c_2 => ?_)
              · rw [if_pos c_2] at hT
                refine lv_iconst (v := 0) hx hb dX0_countDifferent_70 (by decide) ?_
                exact J_71 0 hT (by decide) _ _ hP hD hS _ (lv_sub hl [0, 1, 3] rfl)
              · rw [if_neg c_2] at hT
                refine lv_iconst (v := 1) hx hb dX0_countDifferent_66 (by decide) ?_
                refine lv_goto (tgt := 71) hx hb dX0_countDifferent_67 (by decide) ?_
                exact J_71 1 hT (by decide) _ _ hP hD hS _ (lv_sub hl [0, 1, 3] rfl)
            refine lv_icmp_ge (tgt := 60) hx hb dX0_countDifferent_21 (by decide) (fun c_3 => ?_) (fun c_3 => ?_)
            · rw [if_pos c_3] at hT
              exact J_60 () hT _ _ hP hD hS _ (lv_sub hl [0, 1, 2, 3, 4] rfl)
            · rw [if_neg c_3] at hT
              refine lv_iload hx hb dX0_countDifferent_24 (lv_at hl 4 rfl) ?_
              refine lv_if_eq (tgt := 60) hx hb dX0_countDifferent_26 (by decide) (fun c_4 => ?_) (fun c_4 => ?_)
              · rw [if_pos c_4] at hT
                exact J_60 () hT _ _ hP hD hS _ (lv_sub hl [0, 1, 2, 3, 4] rfl)
              · rw [if_neg c_4] at hT
                refine lv_aload_n hx hb dX0_countDifferent_29 rfl (lv_at hl 0 rfl) ?_
                refine lv_iload_n hx hb dX0_countDifferent_30 rfl (lv_at hl 3 rfl) ?_
                obtain ⟨t_31, ht_31⟩ : ∃ t, t = m_k_X0_setAt sf v3_4 := ⟨_, rfl⟩
                rw [lE_eq ht_31] at hT
                refine wq_iW (wc := (wW_k_X0_setAt ty h0 s1 s2 ac ak sf)) (va_runV (As := [.int v3_4]) (rest := []) ⟨hx, hb, hml, hown, hts⟩ (k_X0_setAt l D ty td mi H.size h0 s1 s2 ac ak sf v3_4 t_31 ht_31) (cwV 1 hts gv_k_X0_countDifferent_0 rfl rfl rfl (by decide +kernel) ⟨(Nat.le_of_ble_eq_true rfl), (Nat.le_of_ble_eq_true rfl)⟩) (wm_V (wm_preS hP hD hK hE hS hA [true, true] rfl) (va_recv (q0 := 0) (ci := 2) hK hP rfl rfl)) rfl rfl hl.1 rfl (lv_room (Nat.le_of_ble_eq_true rfl)) dX0_countDifferent_31 ⟨(Nat.le_of_ble_eq_true rfl), (Nat.le_of_ble_eq_true rfl)⟩) hS hA hP hD [true, true] rfl (fun _ _ h => by rcases h with ⟨-, rfl⟩; rfl) (fun r u H locs hw hP hD hS => ?_)
                obtain ⟨hr0, rfl⟩ := hw
                subst r
                have hP : va_P D vwCl (wW_k_X0_countDifferent ty h0 s1 s2 ac ak sf) H := hP
                have hD : va_D A (wW_k_X0_countDifferent ty h0 s1 s2 ac ak sf) := hD
                refine W.widen (k := 0) (n := 0) (Nat.le_of_ble_eq_true rfl) (Nat.le_of_ble_eq_true rfl) ?_
                refine lv_iload_n hx hb dX0_countDifferent_34 rfl (lv_at hl 1 rfl) ?_
                refine lv_iand hx hb dX0_countDifferent_35 ?_
                refine lv_aload_n hx hb dX0_countDifferent_36 rfl (lv_at hl 0 rfl) ?_
                refine lv_iload hx hb dX0_countDifferent_37 (lv_at hl 5 rfl) ?_
                obtain ⟨t_39, ht_39⟩ : ∃ t, t = m_k_X0_setAt sf v5_18 := ⟨_, rfl⟩
                rw [lE_eq ht_39] at hT
                refine wq_iW (wc := (wW_k_X0_setAt ty h0 s1 s2 ac ak sf)) (va_runV (As := [.int v5_18]) (rest := [.int (t_31 &&& a1)]) ⟨hx, hb, hml, hown, hts⟩ (k_X0_setAt l D ty td mi H.size h0 s1 s2 ac ak sf v5_18 t_39 ht_39) (cwV 1 hts gv_k_X0_countDifferent_1 rfl rfl rfl (by decide +kernel) ⟨(Nat.le_of_ble_eq_true rfl), (Nat.le_of_ble_eq_true rfl)⟩) (wm_V (wm_preS hP hD hK hE hS hA [true, true] rfl) (va_recv (q0 := 0) (ci := 2) hK hP rfl rfl)) rfl rfl hl.1 rfl (lv_room (Nat.le_of_ble_eq_true rfl)) dX0_countDifferent_39 ⟨(Nat.le_of_ble_eq_true rfl), (Nat.le_of_ble_eq_true rfl)⟩) hS hA hP hD [true, true] rfl (fun _ _ h => by rcases h with ⟨-, rfl⟩; rfl) (fun r u H locs hw hP hD hS => ?_)
                obtain ⟨hr0, rfl⟩ := hw
                subst r
                have hP : va_P D vwCl (wW_k_X0_countDifferent ty h0 s1 s2 ac ak sf) H := hP
                have hD : va_D A (wW_k_X0_countDifferent ty h0 s1 s2 ac ak sf) := hD
                refine W.widen (k := 0) (n := 0) (Nat.le_of_ble_eq_true rfl) (Nat.le_of_ble_eq_true rfl) ?_
                refine lv_iload_n hx hb dX0_countDifferent_42 rfl (lv_at hl 1 rfl) ?_
                refine lv_iand hx hb dX0_countDifferent_43 ?_
                have J_52 : ∀ (s0_52 : Int32), TT = m_k_X0_countDifferent_52 (m_k_X0_countDifferent_18 sf a1 (m_k_X0_countDifferent_4 ac sf a1 n_4) v2_4 v3_4 n_18) v5_18 s0_52 → s0_52 = 0 ∨ s0_52 = 1 → ∀ (H : Heap) (locs : List Loc), va_P D vwCl (wW_k_X0_countDifferent ty h0 s1 s2 ac ak sf) H → va_D A (wW_k_X0_countDifferent ty h0 s1 s2 ac ak sf) → va_S A s.heap H locs → ∀ ls : Array Slot, lv_has ls 6 [(0, .ref h0), (1, .int a1), (2, .int v2_4), (3, .int v3_4), (5, .int v5_18)] → W p l e (headSpec vs_k_X0_countDifferent { frames := 1, cells := 0, slots := 0, locals := 21 }).room s m ([.ref h0, .int a1] : List Value).toArray below meth c H locs 0 0 (MQ below (va_Qi (fun (r : Int32) (u : va_W) => (r = TT ∧ (u = (wW_k_X0_countDifferent ty h0 s1 s2 ac ak sf)))) (wq_B D A) A) ([.ref h0, .int a1] : List Value).toArray s 0 0 A) (F0 m 52 ls [.int s0_52]) := by
                  intro s0_52 hT hb_s0_52 H locs hP hD hS ls hl
                  rw [m_k_X0_countDifferent_52] at hT
                  refine lv_istore (lv' := [(4, .int s0_52), (0, .ref h0), (1, .int a1), (2, .int v2_4), (3, .int v3_4), (5, .int v5_18)]) hx hb dX0_countDifferent_52 hl (by decide) rfl (fun ls hl => ?_)
                  refine lv_iinc (v := v5_18 + 1) (lv' := [(5, .int (v5_18 + 1)), (4, .int s0_52), (0, .ref h0), (1, .int a1), (2, .int v2_4), (3, .int v3_4)]) hx hb dX0_countDifferent_54 hl (k := 5) rfl (by rfl) (by decide) rfl (fun ls hl => ?_)
                  refine lv_goto (tgt := 18) hx hb dX0_countDifferent_57 (by decide) ?_
                  exact ih_18 s0_52 (v5_18 + 1) (wi_up hu_18 (Int32.not_le.mp c_3)) hT (wi_inc hn_18 (Int32.not_le.mp c_3)) hb_s0_52 _ _ hP hD hS _ (lv_sub hl [2, 3, 4, 5, 1, 0] rfl)
                refine lv_icmp_eq (tgt := 51) hx hb dX0_countDifferent_44 (by decide) (fun c_9 => ?_) (fun c_9 => ?_)
                · rw [if_pos c_9] at hT
                  refine lv_iconst (v := 0) hx hb dX0_countDifferent_51 (by decide) ?_
                  exact J_52 0 hT (by decide) _ _ hP hD hS _ (lv_sub hl [0, 1, 2, 3, 5] rfl)
                · rw [if_neg c_9] at hT
                  refine lv_iconst (v := 1) hx hb dX0_countDifferent_47 (by decide) ?_
                  refine lv_goto (tgt := 52) hx hb dX0_countDifferent_48 (by decide) ?_
                  exact J_52 1 hT (by decide) _ _ hP hD hS _ (lv_sub hl [0, 1, 2, 3, 5] rfl)
        exact L_18 wF 1 0 (wF_up 0) hT (by decide) (by decide) _ _ hP hD hS _ (lv_sub hl [2, 3, 4, 5, 1, 0] rfl)
  exact L_4 wF 0 0 (wF_up 0) hT (by decide) _ _ hP hD hS _ (lv_sub hl [2, 3, 1, 0] rfl)
theorem dX0_isDearer_0 : decode cX0_isDearer 0 = .ok (.aload_n 0, 1) := by decide +kernel
theorem dX0_isDearer_1 : decode cX0_isDearer 1 = .ok (.iload_n 1, 1) := by decide +kernel
theorem dX0_isDearer_2 : decode cX0_isDearer 2 = .ok (.iconst 3, 1) := by decide +kernel
theorem dX0_isDearer_3 : decode cX0_isDearer 3 = .ok (.invokevirtual 31, 3) := by decide +kernel
theorem dX0_isDearer_6 : decode cX0_isDearer 6 = .ok (.lload 6, 2) := by decide +kernel
theorem dX0_isDearer_8 : decode cX0_isDearer 8 = .ok (.lcmp, 1) := by decide +kernel
theorem dX0_isDearer_9 : decode cX0_isDearer 9 = .ok (.ifCond .eq 21, 3) := by decide +kernel
theorem dX0_isDearer_12 : decode cX0_isDearer 12 = .ok (.aload_n 0, 1) := by decide +kernel
theorem dX0_isDearer_13 : decode cX0_isDearer 13 = .ok (.iload_n 1, 1) := by decide +kernel
theorem dX0_isDearer_14 : decode cX0_isDearer 14 = .ok (.iconst 3, 1) := by decide +kernel
theorem dX0_isDearer_15 : decode cX0_isDearer 15 = .ok (.invokevirtual 31, 3) := by decide +kernel
theorem dX0_isDearer_18 : decode cX0_isDearer 18 = .ok (.lload 6, 2) := by decide +kernel
theorem dX0_isDearer_20 : decode cX0_isDearer 20 = .ok (.lcmp, 1) := by decide +kernel
theorem dX0_isDearer_21 : decode cX0_isDearer 21 = .ok (.ifCond .le 7, 3) := by decide +kernel
theorem dX0_isDearer_24 : decode cX0_isDearer 24 = .ok (.iconst 1, 1) := by decide +kernel
theorem dX0_isDearer_25 : decode cX0_isDearer 25 = .ok (.goto 4, 3) := by decide +kernel
theorem dX0_isDearer_28 : decode cX0_isDearer 28 = .ok (.iconst 0, 1) := by decide +kernel
theorem dX0_isDearer_29 : decode cX0_isDearer 29 = .ok (.ireturn, 1) := by decide +kernel
theorem dX0_isDearer_30 : decode cX0_isDearer 30 = .ok (.aload_n 0, 1) := by decide +kernel
theorem dX0_isDearer_31 : decode cX0_isDearer 31 = .ok (.iload_n 1, 1) := by decide +kernel
theorem dX0_isDearer_32 : decode cX0_isDearer 32 = .ok (.iconst 2, 1) := by decide +kernel
theorem dX0_isDearer_33 : decode cX0_isDearer 33 = .ok (.invokevirtual 31, 3) := by decide +kernel
theorem dX0_isDearer_36 : decode cX0_isDearer 36 = .ok (.lload 4, 2) := by decide +kernel
theorem dX0_isDearer_38 : decode cX0_isDearer 38 = .ok (.lcmp, 1) := by decide +kernel
theorem dX0_isDearer_39 : decode cX0_isDearer 39 = .ok (.ifCond .eq 21, 3) := by decide +kernel
theorem dX0_isDearer_42 : decode cX0_isDearer 42 = .ok (.aload_n 0, 1) := by decide +kernel
theorem dX0_isDearer_43 : decode cX0_isDearer 43 = .ok (.iload_n 1, 1) := by decide +kernel
theorem dX0_isDearer_44 : decode cX0_isDearer 44 = .ok (.iconst 2, 1) := by decide +kernel
theorem dX0_isDearer_45 : decode cX0_isDearer 45 = .ok (.invokevirtual 31, 3) := by decide +kernel
theorem dX0_isDearer_48 : decode cX0_isDearer 48 = .ok (.lload 4, 2) := by decide +kernel
theorem dX0_isDearer_50 : decode cX0_isDearer 50 = .ok (.lcmp, 1) := by decide +kernel
theorem dX0_isDearer_51 : decode cX0_isDearer 51 = .ok (.ifCond .le 7, 3) := by decide +kernel
theorem dX0_isDearer_54 : decode cX0_isDearer 54 = .ok (.iconst 1, 1) := by decide +kernel
theorem dX0_isDearer_55 : decode cX0_isDearer 55 = .ok (.goto 4, 3) := by decide +kernel
theorem dX0_isDearer_58 : decode cX0_isDearer 58 = .ok (.iconst 0, 1) := by decide +kernel
theorem dX0_isDearer_59 : decode cX0_isDearer 59 = .ok (.ireturn, 1) := by decide +kernel
theorem dX0_isDearer_60 : decode cX0_isDearer 60 = .ok (.aload_n 0, 1) := by decide +kernel
theorem dX0_isDearer_61 : decode cX0_isDearer 61 = .ok (.iload_n 1, 1) := by decide +kernel
theorem dX0_isDearer_62 : decode cX0_isDearer 62 = .ok (.iconst 1, 1) := by decide +kernel
theorem dX0_isDearer_63 : decode cX0_isDearer 63 = .ok (.invokevirtual 31, 3) := by decide +kernel
theorem dX0_isDearer_66 : decode cX0_isDearer 66 = .ok (.lload_n 2, 1) := by decide +kernel
theorem dX0_isDearer_67 : decode cX0_isDearer 67 = .ok (.lcmp, 1) := by decide +kernel
theorem dX0_isDearer_68 : decode cX0_isDearer 68 = .ok (.ifCond .le 7, 3) := by decide +kernel
theorem dX0_isDearer_71 : decode cX0_isDearer 71 = .ok (.iconst 1, 1) := by decide +kernel
theorem dX0_isDearer_72 : decode cX0_isDearer 72 = .ok (.goto 4, 3) := by decide +kernel
theorem dX0_isDearer_75 : decode cX0_isDearer 75 = .ok (.iconst 0, 1) := by decide +kernel
theorem dX0_isDearer_76 : decode cX0_isDearer 76 = .ok (.ireturn, 1) := by decide +kernel
def wW_k_X0_isDearer (ty : Nat → ClassId) (h0 : Nat) (s1 : Nat) (s2 : Nat) (z9_0 : Int32) (z9_1 : Int32) (z9_2 : Nat → Int64) : va_W := [(h0, .inr (2, [.ref s1, .ref s2, .int z9_0, .int z9_1])), (s2, .inl (ty 1, 192, .inr (.inl z9_2)))]
def vs_k_X0_isDearer : List Cond := .code yX0_isDearer cX0_isDearer 8 (some .boolean) :: ([.methodLink RX0 31 yX0_costAt, .instanceMethod yX0_costAt, .selects RX0 yX0_costAt yX0_costAt, .initialized RX0] ++ (vs_k_X0_costAt))
set_option maxRecDepth 20000 in
theorem gv_k_X0_isDearer_0 : GoodIn vs_k_X0_isDearer (wsV RX0 31 RX0 yX0_costAt vs_k_X0_costAt) := goodIn_app (goodIn_sub (by decide +kernel) (by decide +kernel)) (goodIn_sub (fun _ h => List.mem_cons_of_mem _ (List.mem_append_right _ (h))) (by decide +kernel))
set_option maxRecDepth 20000 in
theorem gv_k_X0_isDearer_1 : GoodIn vs_k_X0_isDearer (wsV RX0 31 RX0 yX0_costAt vs_k_X0_costAt) := goodIn_app (goodIn_sub (by decide +kernel) (by decide +kernel)) (goodIn_sub (fun _ h => List.mem_cons_of_mem _ (List.mem_append_right _ (h))) (by decide +kernel))
set_option maxRecDepth 20000 in
theorem gv_k_X0_isDearer_2 : GoodIn vs_k_X0_isDearer (wsV RX0 31 RX0 yX0_costAt vs_k_X0_costAt) := goodIn_app (goodIn_sub (by decide +kernel) (by decide +kernel)) (goodIn_sub (fun _ h => List.mem_cons_of_mem _ (List.mem_append_right _ (h))) (by decide +kernel))
set_option maxRecDepth 20000 in
theorem gv_k_X0_isDearer_3 : GoodIn vs_k_X0_isDearer (wsV RX0 31 RX0 yX0_costAt vs_k_X0_costAt) := goodIn_app (goodIn_sub (by decide +kernel) (by decide +kernel)) (goodIn_sub (fun _ h => List.mem_cons_of_mem _ (List.mem_append_right _ (h))) (by decide +kernel))
set_option maxRecDepth 20000 in
theorem gv_k_X0_isDearer_4 : GoodIn vs_k_X0_isDearer (wsV RX0 31 RX0 yX0_costAt vs_k_X0_costAt) := goodIn_app (goodIn_sub (by decide +kernel) (by decide +kernel)) (goodIn_sub (fun _ h => List.mem_cons_of_mem _ (List.mem_append_right _ (h))) (by decide +kernel))
set_option maxHeartbeats 4000000 in
set_option maxRecDepth 100000 in
theorem k_X0_isDearer (l : Launch) (D : va_G) (ty : Nat → ClassId) (td mi sz : Nat) (h0 : Nat) (s1 : Nat) (s2 : Nat) (ac : Int32) (ak : Int32) (cf : Nat → Int64) (a1 : Int32) (a2 : Int64) (a3 : Int64) (a4 : Int64) (TT : r_k_X0_isDearer) (hTT : TT = m_k_X0_isDearer cf a1 a2 a3 a4) : Met l yX0_isDearer vs_k_X0_isDearer { frames := 1, cells := 0, slots := 0, locals := 23 } (va_Pc [.ref h0, .int a1, .long a2, .long a3, .long a4] (wq_P D ty td mi (wW_k_X0_isDearer ty h0 s1 s2 ac ak cf) sz)) (va_Qi (fun (r : Int32) (u : va_W) => (r = TT ∧ (TT = 0 ∨ TT = 1) ∧ (u = (wW_k_X0_isDearer ty h0 s1 s2 ac ak cf)))) (wq_B D (va_A (wW_k_X0_isDearer ty h0 s1 s2 ac ak cf) sz)) (va_A (wW_k_X0_isDearer ty h0 s1 s2 ac ak cf) sz)) 0 0 (va_A (wW_k_X0_isDearer ty h0 s1 s2 ac ak cf) sz) := by
  refine Met.ofW (cc := cX0_isDearer) (maxL := 8) (ret := (some .boolean)) (by decide) rfl ?_
  intro p e s m args below meth c s₁ B hml hv
  obtain ⟨rfl, hsz, hP, hK, hD0, hE⟩ := hv
  have hx := B.exec
  have hb := B.bytes
  have hr := B.returns
  have hts := atoms_spec (ws := vs_k_X0_isDearer) B.pre
  have hown : s.vm.findClass RX0 = some m.cls := findClass_of_methodNamed B.named
  have hlocks := B.notSynchronized
  subst hsz
  have hD := hD0.self (sz := s.heap.size)
  generalize hAe : va_A (wW_k_X0_isDearer ty h0 s1 s2 ac ak cf) s.heap.size = A at hD hE ⊢
  have hA : ∀ q : Nat, s.heap.size ≤ q → A q := fun q h => by rw [← hAe]; exact Or.inr h
  have hS : va_S A s.heap s.heap [] := va_S.rf
  have hP : va_P D vwCl (wW_k_X0_isDearer ty h0 s1 s2 ac ak cf) s.heap := hP
  have hl := lv_entry ([.ref h0, .int a1, .long a2, .long a3, .long a4]) (n := 8) (Nat.le_of_ble_eq_true rfl)
  rw [lg_entry_eq]
  generalize (lg_sl ([.ref h0, .int a1, .long a2, .long a3, .long a4]) ++ List.replicate (8 - (lg_sl ([.ref h0, .int a1, .long a2, .long a3, .long a4])).length) Slot.unset).toArray = ls at hl ⊢
  have hl : lv_has ls 8 [(0, .ref h0), (1, .int a1), (2, .long a2), (4, .long a3), (6, .long a4)] := hl
  have END : ∀ (r : Int32), TT = r → (r = 0 ∨ r = 1) → ∀ (H : Heap) (locs : List Loc), va_P D vwCl (wW_k_X0_isDearer ty h0 s1 s2 ac ak cf) H → va_D A (wW_k_X0_isDearer ty h0 s1 s2 ac ak cf) → va_S A s.heap H locs → ∀ (ls : Array Slot) (pc : Nat), decode cX0_isDearer pc = .ok (.ireturn, 1) → W p l e (headSpec vs_k_X0_isDearer { frames := 1, cells := 0, slots := 0, locals := 23 }).room s m ([.ref h0, .int a1, .long a2, .long a3, .long a4] : List Value).toArray below meth c H locs 0 0 (MQ below (va_Qi (fun (r : Int32) (u : va_W) => (r = TT ∧ (TT = 0 ∨ TT = 1) ∧ (u = (wW_k_X0_isDearer ty h0 s1 s2 ac ak cf)))) (wq_B D A) A) ([.ref h0, .int a1, .long a2, .long a3, .long a4] : List Value).toArray s 0 0 A) (F0 m pc ls [.int r]) := by
    intro r hT hb01 H locs hP hD hS ls pc hd
    have hM : TT = r := hT
    exact W.zret (v := r) hx hb hr (wz_nar hb01) (fun t ht hW => ⟨⟨r, (wW_k_X0_isDearer ty h0 s1 s2 ac ak cf), rfl, ⟨(by rw [hM]), (by rw [hM]; exact hb01), rfl⟩, wq_B.of ht hP hD⟩, hS.F ht⟩) hS.2.2 hd
  have hT := hTT
  rw [m_k_X0_isDearer] at hT
  refine lv_aload_n hx hb dX0_isDearer_0 rfl (lv_at hl 0 rfl) ?_
  refine lv_iload_n hx hb dX0_isDearer_1 rfl (lv_at hl 1 rfl) ?_
  refine lv_iconst (v := 3) hx hb dX0_isDearer_2 (by decide) ?_
  obtain ⟨t_3, ht_3⟩ : ∃ t, t = m_k_X0_costAt cf a1 3 := ⟨_, rfl⟩
  rw [lE_eq ht_3] at hT
  refine wq_lW (wc := (wW_k_X0_costAt ty h0 s1 s2 ac ak cf)) (va_runV (As := [.int a1, .int 3]) (rest := []) ⟨hx, hb, hml, hown, hts⟩ (k_X0_costAt l D ty td mi s.heap.size h0 s1 s2 ac ak cf a1 3 t_3 ht_3) (cwV 2 hts gv_k_X0_isDearer_0 rfl rfl rfl (by decide +kernel) ⟨(Nat.le_of_ble_eq_true rfl), (Nat.le_of_ble_eq_true rfl)⟩) (wm_V (wm_preS hP hD hK hE hS hA [true, true] rfl) (va_recv (q0 := 0) (ci := 2) hK hP rfl rfl)) rfl rfl hl.1 rfl (lv_room (Nat.le_of_ble_eq_true rfl)) dX0_isDearer_3 ⟨(Nat.le_of_ble_eq_true rfl), (Nat.le_of_ble_eq_true rfl)⟩) hS hA hP hD [true, true] rfl (fun _ _ h => by rcases h with ⟨-, rfl⟩; rfl) (fun r u H locs hw hP hD hS => ?_)
  obtain ⟨hr0, rfl⟩ := hw
  subst r
  have hP : va_P D vwCl (wW_k_X0_isDearer ty h0 s1 s2 ac ak cf) H := hP
  have hD : va_D A (wW_k_X0_isDearer ty h0 s1 s2 ac ak cf) := hD
  refine W.widen (k := 0) (n := 0) (Nat.le_of_ble_eq_true rfl) (Nat.le_of_ble_eq_true rfl) ?_
  refine lv_lload hx hb dX0_isDearer_6 (lv_at hl 4 rfl) ?_
  refine W.lcmp hx hb dX0_isDearer_8 ?_
  refine lv_if_eq (tgt := 30) hx hb dX0_isDearer_9 (by decide) (fun c_3 => ?_) (fun c_3 => ?_)
  · rw [if_pos c_3] at hT
    refine lv_aload_n hx hb dX0_isDearer_30 rfl (lv_at hl 0 rfl) ?_
    refine lv_iload_n hx hb dX0_isDearer_31 rfl (lv_at hl 1 rfl) ?_
    refine lv_iconst (v := 2) hx hb dX0_isDearer_32 (by decide) ?_
    obtain ⟨t_33, ht_33⟩ : ∃ t, t = m_k_X0_costAt cf a1 2 := ⟨_, rfl⟩
    rw [lE_eq ht_33] at hT
    refine wq_lW (wc := (wW_k_X0_costAt ty h0 s1 s2 ac ak cf)) (va_runV (As := [.int a1, .int 2]) (rest := []) ⟨hx, hb, hml, hown, hts⟩ (k_X0_costAt l D ty td mi H.size h0 s1 s2 ac ak cf a1 2 t_33 ht_33) (cwV 2 hts gv_k_X0_isDearer_1 rfl rfl rfl (by decide +kernel) ⟨(Nat.le_of_ble_eq_true rfl), (Nat.le_of_ble_eq_true rfl)⟩) (wm_V (wm_preS hP hD hK hE hS hA [true, true] rfl) (va_recv (q0 := 0) (ci := 2) hK hP rfl rfl)) rfl rfl hl.1 rfl (lv_room (Nat.le_of_ble_eq_true rfl)) dX0_isDearer_33 ⟨(Nat.le_of_ble_eq_true rfl), (Nat.le_of_ble_eq_true rfl)⟩) hS hA hP hD [true, true] rfl (fun _ _ h => by rcases h with ⟨-, rfl⟩; rfl) (fun r u H locs hw hP hD hS => ?_)
    obtain ⟨hr0, rfl⟩ := hw
    subst r
    have hP : va_P D vwCl (wW_k_X0_isDearer ty h0 s1 s2 ac ak cf) H := hP
    have hD : va_D A (wW_k_X0_isDearer ty h0 s1 s2 ac ak cf) := hD
    refine W.widen (k := 0) (n := 0) (Nat.le_of_ble_eq_true rfl) (Nat.le_of_ble_eq_true rfl) ?_
    refine lv_lload hx hb dX0_isDearer_36 (lv_at hl 3 rfl) ?_
    refine W.lcmp hx hb dX0_isDearer_38 ?_
    refine lv_if_eq (tgt := 60) hx hb dX0_isDearer_39 (by decide) (fun c_6 => ?_) (fun c_6 => ?_)
    · rw [if_pos c_6] at hT
      refine lv_aload_n hx hb dX0_isDearer_60 rfl (lv_at hl 0 rfl) ?_
      refine lv_iload_n hx hb dX0_isDearer_61 rfl (lv_at hl 1 rfl) ?_
      refine lv_iconst (v := 1) hx hb dX0_isDearer_62 (by decide) ?_
      obtain ⟨t_63, ht_63⟩ : ∃ t, t = m_k_X0_costAt cf a1 1 := ⟨_, rfl⟩
      rw [lE_eq ht_63] at hT
      refine wq_lW (wc := (wW_k_X0_costAt ty h0 s1 s2 ac ak cf)) (va_runV (As := [.int a1, .int 1]) (rest := []) ⟨hx, hb, hml, hown, hts⟩ (k_X0_costAt l D ty td mi H.size h0 s1 s2 ac ak cf a1 1 t_63 ht_63) (cwV 2 hts gv_k_X0_isDearer_2 rfl rfl rfl (by decide +kernel) ⟨(Nat.le_of_ble_eq_true rfl), (Nat.le_of_ble_eq_true rfl)⟩) (wm_V (wm_preS hP hD hK hE hS hA [true, true] rfl) (va_recv (q0 := 0) (ci := 2) hK hP rfl rfl)) rfl rfl hl.1 rfl (lv_room (Nat.le_of_ble_eq_true rfl)) dX0_isDearer_63 ⟨(Nat.le_of_ble_eq_true rfl), (Nat.le_of_ble_eq_true rfl)⟩) hS hA hP hD [true, true] rfl (fun _ _ h => by rcases h with ⟨-, rfl⟩; rfl) (fun r u H locs hw hP hD hS => ?_)
      obtain ⟨hr0, rfl⟩ := hw
      subst r
      have hP : va_P D vwCl (wW_k_X0_isDearer ty h0 s1 s2 ac ak cf) H := hP
      have hD : va_D A (wW_k_X0_isDearer ty h0 s1 s2 ac ak cf) := hD
      refine W.widen (k := 0) (n := 0) (Nat.le_of_ble_eq_true rfl) (Nat.le_of_ble_eq_true rfl) ?_
      refine lv_lload_n hx hb dX0_isDearer_66 rfl (lv_at hl 2 rfl) ?_
      refine W.lcmp hx hb dX0_isDearer_67 ?_
      refine lv_if_le (tgt := 75) hx hb dX0_isDearer_68 (by decide) (fun c_9 => ?_) (fun c_9 => ?_)
      · rw [if_pos c_9] at hT
        refine lv_iconst (v := 0) hx hb dX0_isDearer_75 (by decide) ?_
        exact END 0 hT (by decide) _ _ hP hD hS _ _ dX0_isDearer_76
      · rw [if_neg c_9] at hT
        refine lv_iconst (v := 1) hx hb dX0_isDearer_71 (by decide) ?_
        refine lv_goto (tgt := 76) hx hb dX0_isDearer_72 (by decide) ?_
        exact END 1 hT (by decide) _ _ hP hD hS _ _ dX0_isDearer_76
    · rw [if_neg c_6] at hT
      refine lv_aload_n hx hb dX0_isDearer_42 rfl (lv_at hl 0 rfl) ?_
      refine lv_iload_n hx hb dX0_isDearer_43 rfl (lv_at hl 1 rfl) ?_
      refine lv_iconst (v := 2) hx hb dX0_isDearer_44 (by decide) ?_
      obtain ⟨t_45, ht_45⟩ : ∃ t, t = m_k_X0_costAt cf a1 2 := ⟨_, rfl⟩
      rw [lE_eq ht_45] at hT
      refine wq_lW (wc := (wW_k_X0_costAt ty h0 s1 s2 ac ak cf)) (va_runV (As := [.int a1, .int 2]) (rest := []) ⟨hx, hb, hml, hown, hts⟩ (k_X0_costAt l D ty td mi H.size h0 s1 s2 ac ak cf a1 2 t_45 ht_45) (cwV 2 hts gv_k_X0_isDearer_3 rfl rfl rfl (by decide +kernel) ⟨(Nat.le_of_ble_eq_true rfl), (Nat.le_of_ble_eq_true rfl)⟩) (wm_V (wm_preS hP hD hK hE hS hA [true, true] rfl) (va_recv (q0 := 0) (ci := 2) hK hP rfl rfl)) rfl rfl hl.1 rfl (lv_room (Nat.le_of_ble_eq_true rfl)) dX0_isDearer_45 ⟨(Nat.le_of_ble_eq_true rfl), (Nat.le_of_ble_eq_true rfl)⟩) hS hA hP hD [true, true] rfl (fun _ _ h => by rcases h with ⟨-, rfl⟩; rfl) (fun r u H locs hw hP hD hS => ?_)
      obtain ⟨hr0, rfl⟩ := hw
      subst r
      have hP : va_P D vwCl (wW_k_X0_isDearer ty h0 s1 s2 ac ak cf) H := hP
      have hD : va_D A (wW_k_X0_isDearer ty h0 s1 s2 ac ak cf) := hD
      refine W.widen (k := 0) (n := 0) (Nat.le_of_ble_eq_true rfl) (Nat.le_of_ble_eq_true rfl) ?_
      refine lv_lload hx hb dX0_isDearer_48 (lv_at hl 3 rfl) ?_
      refine W.lcmp hx hb dX0_isDearer_50 ?_
      refine lv_if_le (tgt := 58) hx hb dX0_isDearer_51 (by decide) (fun c_12 => ?_) (fun c_12 => ?_)
      · rw [if_pos c_12] at hT
        refine lv_iconst (v := 0) hx hb dX0_isDearer_58 (by decide) ?_
        exact END 0 hT (by decide) _ _ hP hD hS _ _ dX0_isDearer_59
      · rw [if_neg c_12] at hT
        refine lv_iconst (v := 1) hx hb dX0_isDearer_54 (by decide) ?_
        refine lv_goto (tgt := 59) hx hb dX0_isDearer_55 (by decide) ?_
        exact END 1 hT (by decide) _ _ hP hD hS _ _ dX0_isDearer_59
  · rw [if_neg c_3] at hT
    refine lv_aload_n hx hb dX0_isDearer_12 rfl (lv_at hl 0 rfl) ?_
    refine lv_iload_n hx hb dX0_isDearer_13 rfl (lv_at hl 1 rfl) ?_
    refine lv_iconst (v := 3) hx hb dX0_isDearer_14 (by decide) ?_
    obtain ⟨t_15, ht_15⟩ : ∃ t, t = m_k_X0_costAt cf a1 3 := ⟨_, rfl⟩
    rw [lE_eq ht_15] at hT
    refine wq_lW (wc := (wW_k_X0_costAt ty h0 s1 s2 ac ak cf)) (va_runV (As := [.int a1, .int 3]) (rest := []) ⟨hx, hb, hml, hown, hts⟩ (k_X0_costAt l D ty td mi H.size h0 s1 s2 ac ak cf a1 3 t_15 ht_15) (cwV 2 hts gv_k_X0_isDearer_4 rfl rfl rfl (by decide +kernel) ⟨(Nat.le_of_ble_eq_true rfl), (Nat.le_of_ble_eq_true rfl)⟩) (wm_V (wm_preS hP hD hK hE hS hA [true, true] rfl) (va_recv (q0 := 0) (ci := 2) hK hP rfl rfl)) rfl rfl hl.1 rfl (lv_room (Nat.le_of_ble_eq_true rfl)) dX0_isDearer_15 ⟨(Nat.le_of_ble_eq_true rfl), (Nat.le_of_ble_eq_true rfl)⟩) hS hA hP hD [true, true] rfl (fun _ _ h => by rcases h with ⟨-, rfl⟩; rfl) (fun r u H locs hw hP hD hS => ?_)
    obtain ⟨hr0, rfl⟩ := hw
    subst r
    have hP : va_P D vwCl (wW_k_X0_isDearer ty h0 s1 s2 ac ak cf) H := hP
    have hD : va_D A (wW_k_X0_isDearer ty h0 s1 s2 ac ak cf) := hD
    refine W.widen (k := 0) (n := 0) (Nat.le_of_ble_eq_true rfl) (Nat.le_of_ble_eq_true rfl) ?_
    refine lv_lload hx hb dX0_isDearer_18 (lv_at hl 4 rfl) ?_
    refine W.lcmp hx hb dX0_isDearer_20 ?_
    refine lv_if_le (tgt := 28) hx hb dX0_isDearer_21 (by decide) (fun c_15 => ?_) (fun c_15 => ?_)
    · rw [if_pos c_15] at hT
      refine lv_iconst (v := 0) hx hb dX0_isDearer_28 (by decide) ?_
      exact END 0 hT (by decide) _ _ hP hD hS _ _ dX0_isDearer_29
    · rw [if_neg c_15] at hT
      refine lv_iconst (v := 1) hx hb dX0_isDearer_24 (by decide) ?_
      refine lv_goto (tgt := 29) hx hb dX0_isDearer_25 (by decide) ?_
      exact END 1 hT (by decide) _ _ hP hD hS _ _ dX0_isDearer_29
theorem dX0_insert_0 : decode cX0_insert 0 = .ok (.aload_n 0, 1) := by decide +kernel
theorem dX0_insert_1 : decode cX0_insert 1 = .ok (.getfield 19, 3) := by decide +kernel
theorem dX0_insert_4 : decode cX0_insert 4 = .ok (.ifCond .lt 12, 3) := by decide +kernel
theorem dX0_insert_7 : decode cX0_insert 7 = .ok (.aload_n 0, 1) := by decide +kernel
theorem dX0_insert_8 : decode cX0_insert 8 = .ok (.getfield 19, 3) := by decide +kernel
theorem dX0_insert_11 : decode cX0_insert 11 = .ok (.bipush 64, 2) := by decide +kernel
theorem dX0_insert_13 : decode cX0_insert 13 = .ok (.if_icmp .lt 5, 3) := by decide +kernel
theorem dX0_insert_16 : decode cX0_insert 16 = .ok (.iconst 0, 1) := by decide +kernel
theorem dX0_insert_17 : decode cX0_insert 17 = .ok (.ireturn, 1) := by decide +kernel
theorem dX0_insert_18 : decode cX0_insert 18 = .ok (.aload_n 0, 1) := by decide +kernel
theorem dX0_insert_19 : decode cX0_insert 19 = .ok (.getfield 19, 3) := by decide +kernel
theorem dX0_insert_22 : decode cX0_insert 22 = .ok (.istore 8, 2) := by decide +kernel
theorem dX0_insert_24 : decode cX0_insert 24 = .ok (.aload_n 0, 1) := by decide +kernel
theorem dX0_insert_25 : decode cX0_insert 25 = .ok (.getfield 19, 3) := by decide +kernel
theorem dX0_insert_28 : decode cX0_insert 28 = .ok (.istore 9, 2) := by decide +kernel
theorem dX0_insert_30 : decode cX0_insert 30 = .ok (.iload 9, 2) := by decide +kernel
theorem dX0_insert_32 : decode cX0_insert 32 = .ok (.ifCond .le 41, 3) := by decide +kernel
theorem dX0_insert_35 : decode cX0_insert 35 = .ok (.aload_n 0, 1) := by decide +kernel
theorem dX0_insert_36 : decode cX0_insert 36 = .ok (.iload 9, 2) := by decide +kernel
theorem dX0_insert_38 : decode cX0_insert 38 = .ok (.iconst 1, 1) := by decide +kernel
theorem dX0_insert_39 : decode cX0_insert 39 = .ok (.isub, 1) := by decide +kernel
theorem dX0_insert_40 : decode cX0_insert 40 = .ok (.lload_n 2, 1) := by decide +kernel
theorem dX0_insert_41 : decode cX0_insert 41 = .ok (.lload 4, 2) := by decide +kernel
theorem dX0_insert_43 : decode cX0_insert 43 = .ok (.lload 6, 2) := by decide +kernel
theorem dX0_insert_45 : decode cX0_insert 45 = .ok (.invokevirtual 23, 3) := by decide +kernel
theorem dX0_insert_48 : decode cX0_insert 48 = .ok (.ifCond .eq 25, 3) := by decide +kernel
theorem dX0_insert_51 : decode cX0_insert 51 = .ok (.aload_n 0, 1) := by decide +kernel
theorem dX0_insert_52 : decode cX0_insert 52 = .ok (.iload 9, 2) := by decide +kernel
theorem dX0_insert_54 : decode cX0_insert 54 = .ok (.iconst 1, 1) := by decide +kernel
theorem dX0_insert_55 : decode cX0_insert 55 = .ok (.isub, 1) := by decide +kernel
theorem dX0_insert_56 : decode cX0_insert 56 = .ok (.iload 9, 2) := by decide +kernel
theorem dX0_insert_58 : decode cX0_insert 58 = .ok (.invokevirtual 27, 3) := by decide +kernel
theorem dX0_insert_61 : decode cX0_insert 61 = .ok (.iload 9, 2) := by decide +kernel
theorem dX0_insert_63 : decode cX0_insert 63 = .ok (.iconst 1, 1) := by decide +kernel
theorem dX0_insert_64 : decode cX0_insert 64 = .ok (.isub, 1) := by decide +kernel
theorem dX0_insert_65 : decode cX0_insert 65 = .ok (.istore 8, 2) := by decide +kernel
theorem dX0_insert_67 : decode cX0_insert 67 = .ok (.iinc 9 (-1), 3) := by decide +kernel
theorem dX0_insert_70 : decode cX0_insert 70 = .ok (.goto (-40), 3) := by decide +kernel
theorem dX0_insert_73 : decode cX0_insert 73 = .ok (.aload_n 0, 1) := by decide +kernel
theorem dX0_insert_74 : decode cX0_insert 74 = .ok (.getfield 9, 3) := by decide +kernel
theorem dX0_insert_77 : decode cX0_insert 77 = .ok (.iload 8, 2) := by decide +kernel
theorem dX0_insert_79 : decode cX0_insert 79 = .ok (.iload_n 1, 1) := by decide +kernel
theorem dX0_insert_80 : decode cX0_insert 80 = .ok (.iastore, 1) := by decide +kernel
theorem dX0_insert_81 : decode cX0_insert 81 = .ok (.aload_n 0, 1) := by decide +kernel
theorem dX0_insert_82 : decode cX0_insert 82 = .ok (.getfield 15, 3) := by decide +kernel
theorem dX0_insert_85 : decode cX0_insert 85 = .ok (.iload 8, 2) := by decide +kernel
theorem dX0_insert_87 : decode cX0_insert 87 = .ok (.iconst 3, 1) := by decide +kernel
theorem dX0_insert_88 : decode cX0_insert 88 = .ok (.imul, 1) := by decide +kernel
theorem dX0_insert_89 : decode cX0_insert 89 = .ok (.lload_n 2, 1) := by decide +kernel
theorem dX0_insert_90 : decode cX0_insert 90 = .ok (.lastore, 1) := by decide +kernel
theorem dX0_insert_91 : decode cX0_insert 91 = .ok (.aload_n 0, 1) := by decide +kernel
theorem dX0_insert_92 : decode cX0_insert 92 = .ok (.getfield 15, 3) := by decide +kernel
theorem dX0_insert_95 : decode cX0_insert 95 = .ok (.iload 8, 2) := by decide +kernel
theorem dX0_insert_97 : decode cX0_insert 97 = .ok (.iconst 3, 1) := by decide +kernel
theorem dX0_insert_98 : decode cX0_insert 98 = .ok (.imul, 1) := by decide +kernel
theorem dX0_insert_99 : decode cX0_insert 99 = .ok (.iconst 1, 1) := by decide +kernel
theorem dX0_insert_100 : decode cX0_insert 100 = .ok (.iadd, 1) := by decide +kernel
theorem dX0_insert_101 : decode cX0_insert 101 = .ok (.lload 4, 2) := by decide +kernel
theorem dX0_insert_103 : decode cX0_insert 103 = .ok (.lastore, 1) := by decide +kernel
theorem dX0_insert_104 : decode cX0_insert 104 = .ok (.aload_n 0, 1) := by decide +kernel
theorem dX0_insert_105 : decode cX0_insert 105 = .ok (.getfield 15, 3) := by decide +kernel
theorem dX0_insert_108 : decode cX0_insert 108 = .ok (.iload 8, 2) := by decide +kernel
theorem dX0_insert_110 : decode cX0_insert 110 = .ok (.iconst 3, 1) := by decide +kernel
theorem dX0_insert_111 : decode cX0_insert 111 = .ok (.imul, 1) := by decide +kernel
theorem dX0_insert_112 : decode cX0_insert 112 = .ok (.iconst 2, 1) := by decide +kernel
theorem dX0_insert_113 : decode cX0_insert 113 = .ok (.iadd, 1) := by decide +kernel
theorem dX0_insert_114 : decode cX0_insert 114 = .ok (.lload 6, 2) := by decide +kernel
theorem dX0_insert_116 : decode cX0_insert 116 = .ok (.lastore, 1) := by decide +kernel
theorem dX0_insert_117 : decode cX0_insert 117 = .ok (.aload_n 0, 1) := by decide +kernel
theorem dX0_insert_118 : decode cX0_insert 118 = .ok (.dup, 1) := by decide +kernel
theorem dX0_insert_119 : decode cX0_insert 119 = .ok (.getfield 19, 3) := by decide +kernel
theorem dX0_insert_122 : decode cX0_insert 122 = .ok (.iconst 1, 1) := by decide +kernel
theorem dX0_insert_123 : decode cX0_insert 123 = .ok (.iadd, 1) := by decide +kernel
theorem dX0_insert_124 : decode cX0_insert 124 = .ok (.putfield 19, 3) := by decide +kernel
theorem dX0_insert_127 : decode cX0_insert 127 = .ok (.iconst 1, 1) := by decide +kernel
theorem dX0_insert_128 : decode cX0_insert 128 = .ok (.ireturn, 1) := by decide +kernel
def wW_k_X0_insert (ty : Nat → ClassId) (h0 : Nat) (s1 : Nat) (s2 : Nat) (z9_0 : Int32) (z9_1 : Int32) (z9_2 : Nat → Int32) (z9_3 : Nat → Int64) : va_W := [(h0, .inr (2, [.ref s1, .ref s2, .int z9_0, .int z9_1])), (s1, .inl (ty 0, 64, .inl z9_2)), (s2, .inl (ty 1, 192, .inr (.inl z9_3)))]
def vs_k_X0_insert : List Cond := .code yX0_insert cX0_insert 10 (some .boolean) :: ([.fieldLink RX0 19 "AnswerFold$Answers" "count" "I", .fieldLink RX0 9 "AnswerFold$Answers" "sets" "[I", .fieldLink RX0 15 "AnswerFold$Answers" "costs" "[J", .methodLink RX0 23 yX0_isDearer, .instanceMethod yX0_isDearer, .selects RX0 yX0_isDearer yX0_isDearer, .initialized RX0, .methodLink RX0 27 yX0_copy, .instanceMethod yX0_copy, .selects RX0 yX0_copy yX0_copy] ++ (u_ws RX0 TX0 4 ++ (vs_k_X0_isDearer ++ (vs_k_X0_copy))))
theorem iv_k_X0_insert_X0 : ∀ w ∈ u_ws RX0 TX0 4, w ∈ vs_k_X0_insert := (fun _ h => List.mem_cons_of_mem _ (List.mem_append_right _ (List.mem_append_left _ h)))
set_option maxRecDepth 20000 in
theorem gv_k_X0_insert_0 : GoodIn vs_k_X0_insert (wsV RX0 23 RX0 yX0_isDearer vs_k_X0_isDearer) := goodIn_app (goodIn_sub (by decide +kernel) (by decide +kernel)) (goodIn_sub (fun _ h => List.mem_cons_of_mem _ (List.mem_append_right _ (List.mem_append_right _ (List.mem_append_left _ h)))) (by decide +kernel))
set_option maxRecDepth 20000 in
theorem gv_k_X0_insert_1 : GoodIn vs_k_X0_insert (wsV RX0 27 RX0 yX0_copy vs_k_X0_copy) := goodIn_app (goodIn_sub (by decide +kernel) (by decide +kernel)) (goodIn_sub (fun _ h => List.mem_cons_of_mem _ (List.mem_append_right _ (List.mem_append_right _ (List.mem_append_right _ (h))))) (by decide +kernel))
theorem om_k_X0_insert_0 (v8_30 : Int32) (ac : Int32) (v9_30 : Int32) (c_1 : ¬ (ac < 0)) (c_2 : ac < 64) (hw0_30 : 0 ≤ (v8_30 : Int32).toInt ∧ (v8_30 : Int32).toInt ≤ ac.toInt ∧ (v9_30 : Int32).toInt ≤ ac.toInt) : vp_in (v8_30) 64 := by
  have f_0 := Int32.le_iff_toInt_le.mp (Int32.not_lt.mp c_1)
  have f_1 := Int32.lt_iff_toInt_lt.mp (c_2)
  have f_2 := hw0_30
  have nl_0 : (0 : Int32).toInt = 0 := rfl
  have nl_64 : (64 : Int32).toInt = 64 := rfl
  have r_v8_30 := wi_rng v8_30
  exact wi_in (by omega) (by omega)
theorem om_k_X0_insert_1 (v8_30 : Int32) (ac : Int32) (v9_30 : Int32) (c_1 : ¬ (ac < 0)) (c_2 : ac < 64) (hw0_30 : 0 ≤ (v8_30 : Int32).toInt ∧ (v8_30 : Int32).toInt ≤ ac.toInt ∧ (v9_30 : Int32).toInt ≤ ac.toInt) : vp_in (v8_30 * 3) 192 := by
  have f_0 := Int32.le_iff_toInt_le.mp (Int32.not_lt.mp c_1)
  have f_1 := Int32.lt_iff_toInt_lt.mp (c_2)
  have f_2 := hw0_30
  have nl_0 : (0 : Int32).toInt = 0 := rfl
  have nl_3 : (3 : Int32).toInt = 3 := rfl
  have nl_64 : (64 : Int32).toInt = 64 := rfl
  have r_v8_30 := wi_rng v8_30
  have q_1 : (v8_30 * 3).toInt = (v8_30).toInt * 3 := wi_mulc rfl (by omega) (by omega)
  exact wi_in (by omega) (by omega)
theorem om_k_X0_insert_2 (v8_30 : Int32) (ac : Int32) (v9_30 : Int32) (c_1 : ¬ (ac < 0)) (c_2 : ac < 64) (hw0_30 : 0 ≤ (v8_30 : Int32).toInt ∧ (v8_30 : Int32).toInt ≤ ac.toInt ∧ (v9_30 : Int32).toInt ≤ ac.toInt) : vp_in ((v8_30 * 3) + 1) 192 := by
  have f_0 := Int32.le_iff_toInt_le.mp (Int32.not_lt.mp c_1)
  have f_1 := Int32.lt_iff_toInt_lt.mp (c_2)
  have f_2 := hw0_30
  have nl_0 : (0 : Int32).toInt = 0 := rfl
  have nl_1 : (1 : Int32).toInt = 1 := rfl
  have nl_3 : (3 : Int32).toInt = 3 := rfl
  have nl_64 : (64 : Int32).toInt = 64 := rfl
  have r_v8_30 := wi_rng v8_30
  have q_1 : (v8_30 * 3).toInt = (v8_30).toInt * 3 := wi_mulc rfl (by omega) (by omega)
  have q_2 : ((v8_30 * 3) + 1).toInt = ((v8_30 * 3) : Int32).toInt + (1 : Int32).toInt := wi_add (by omega) (by omega)
  exact wi_in (by omega) (by omega)
theorem om_k_X0_insert_3 (v8_30 : Int32) (ac : Int32) (v9_30 : Int32) (c_1 : ¬ (ac < 0)) (c_2 : ac < 64) (hw0_30 : 0 ≤ (v8_30 : Int32).toInt ∧ (v8_30 : Int32).toInt ≤ ac.toInt ∧ (v9_30 : Int32).toInt ≤ ac.toInt) : vp_in ((v8_30 * 3) + 2) 192 := by
  have f_0 := Int32.le_iff_toInt_le.mp (Int32.not_lt.mp c_1)
  have f_1 := Int32.lt_iff_toInt_lt.mp (c_2)
  have f_2 := hw0_30
  have nl_0 : (0 : Int32).toInt = 0 := rfl
  have nl_2 : (2 : Int32).toInt = 2 := rfl
  have nl_3 : (3 : Int32).toInt = 3 := rfl
  have nl_64 : (64 : Int32).toInt = 64 := rfl
  have r_v8_30 := wi_rng v8_30
  have q_1 : (v8_30 * 3).toInt = (v8_30).toInt * 3 := wi_mulc rfl (by omega) (by omega)
  have q_2 : ((v8_30 * 3) + 2).toInt = ((v8_30 * 3) : Int32).toInt + (2 : Int32).toInt := wi_add (by omega) (by omega)
  exact wi_in (by omega) (by omega)
theorem om_k_X0_insert_4 (v9_30 : Int32) (ac : Int32) (v8_30 : Int32) (t_45 : r_k_X0_isDearer) (c_1 : ¬ (ac < 0)) (c_2 : ac < 64) (hw0_30 : 0 ≤ (v8_30 : Int32).toInt ∧ (v8_30 : Int32).toInt ≤ ac.toInt ∧ (v9_30 : Int32).toInt ≤ ac.toInt) (c_3 : ¬ (v9_30 ≤ 0)) (c_7 : ¬ (t_45 = 0)) : 0 ≤ (v9_30 - 1 : Int32).toInt ∧ (v9_30 - 1 : Int32).toInt ≤ ac.toInt ∧ (v9_30 + (-1) : Int32).toInt ≤ ac.toInt := by
  have f_0 := Int32.le_iff_toInt_le.mp (Int32.not_lt.mp c_1)
  have f_1 := Int32.lt_iff_toInt_lt.mp (c_2)
  have f_2 := hw0_30
  have f_3 := Int32.lt_iff_toInt_lt.mp (Int32.not_le.mp c_3)
  have f_4 : ¬ (t_45 : Int32).toInt = (0 : Int32).toInt := fun h => c_7 (Int32.toInt_inj.mp h)
  have nl_m1 : (-1 : Int32).toInt = -1 := rfl
  have nl_0 : (0 : Int32).toInt = 0 := rfl
  have nl_1 : (1 : Int32).toInt = 1 := rfl
  have nl_64 : (64 : Int32).toInt = 64 := rfl
  have r_v9_30 := wi_rng v9_30
  have q_1 : (v9_30 - 1).toInt = (v9_30 : Int32).toInt - (1 : Int32).toInt := wi_sub (by omega) (by omega)
  have q_2 : (v9_30 + (-1)).toInt = (v9_30 : Int32).toInt + ((-1) : Int32).toInt := wi_add (by omega) (by omega)
  omega
theorem om_k_X0_insert_5 (ac : Int32) (c_1 : ¬ (ac < 0)) (c_2 : ac < 64) : 0 ≤ (ac : Int32).toInt ∧ (ac : Int32).toInt ≤ ac.toInt ∧ (ac : Int32).toInt ≤ ac.toInt := by
  have f_0 := Int32.le_iff_toInt_le.mp (Int32.not_lt.mp c_1)
  have f_1 := Int32.lt_iff_toInt_lt.mp (c_2)
  have nl_0 : (0 : Int32).toInt = 0 := rfl
  have nl_64 : (64 : Int32).toInt = 64 := rfl
  have r_ac := wi_rng ac
  omega
set_option maxHeartbeats 4000000 in
set_option maxRecDepth 100000 in
theorem k_X0_insert (l : Launch) (D : va_G) (ty : Nat → ClassId) (td mi sz : Nat) (h0 : Nat) (s1 : Nat) (s2 : Nat) (ac : Int32) (ak : Int32) (sf : Nat → Int32) (cf : Nat → Int64) (a1 : Int32) (a2 : Int64) (a3 : Int64) (a4 : Int64) (TT : r_k_X0_insert) (hTT : TT = m_k_X0_insert ac sf cf a1 a2 a3 a4) : Met l yX0_insert vs_k_X0_insert { frames := 2, cells := 0, slots := 0, locals := 50 } (va_Pc [.ref h0, .int a1, .long a2, .long a3, .long a4] (wq_P D ty td mi (wW_k_X0_insert ty h0 s1 s2 ac ak sf cf) sz)) (va_Qi (fun (r : Int32) (u : va_W) => (r = TT.1 ∧ (TT.1 = 0 ∨ TT.1 = 1) ∧ (u = (wW_k_X0_insert ty h0 s1 s2 TT.2.1 ak TT.2.2.1 TT.2.2.2)))) (wq_B D (va_A (wW_k_X0_insert ty h0 s1 s2 ac ak sf cf) sz)) (va_A (wW_k_X0_insert ty h0 s1 s2 ac ak sf cf) sz)) 0 0 (va_A (wW_k_X0_insert ty h0 s1 s2 ac ak sf cf) sz) := by
  refine Met.ofW (cc := cX0_insert) (maxL := 10) (ret := (some .boolean)) (by decide) rfl ?_
  intro p e s m args below meth c s₁ B hml hv
  obtain ⟨rfl, hsz, hP, hK, hD0, hE⟩ := hv
  have hx := B.exec
  have hb := B.bytes
  have hr := B.returns
  have hts := atoms_spec (ws := vs_k_X0_insert) B.pre
  have hown : s.vm.findClass RX0 = some m.cls := findClass_of_methodNamed B.named
  have hlocks := B.notSynchronized
  subst hsz
  have hD := hD0.self (sz := s.heap.size)
  generalize hAe : va_A (wW_k_X0_insert ty h0 s1 s2 ac ak sf cf) s.heap.size = A at hD hE ⊢
  have hA : ∀ q : Nat, s.heap.size ≤ q → A q := fun q h => by rw [← hAe]; exact Or.inr h
  have hS : va_S A s.heap s.heap [] := va_S.rf
  have hP : va_P D vwCl (wW_k_X0_insert ty h0 s1 s2 ac ak sf cf) s.heap := hP
  have hl := lv_entry ([.ref h0, .int a1, .long a2, .long a3, .long a4]) (n := 10) (Nat.le_of_ble_eq_true rfl)
  rw [lg_entry_eq]
  generalize (lg_sl ([.ref h0, .int a1, .long a2, .long a3, .long a4]) ++ List.replicate (10 - (lg_sl ([.ref h0, .int a1, .long a2, .long a3, .long a4])).length) Slot.unset).toArray = ls at hl ⊢
  have hl : lv_has ls 10 [(0, .ref h0), (1, .int a1), (2, .long a2), (4, .long a3), (6, .long a4)] := hl
  have END : ∀ (r : Int32) (w9_0 : Int32) (w9_1 : Nat → Int32) (w9_2 : Nat → Int64), TT = (r, w9_0, w9_1, w9_2) → (r = 0 ∨ r = 1) → ∀ (H : Heap) (locs : List Loc), va_P D vwCl (wW_k_X0_insert ty h0 s1 s2 w9_0 ak w9_1 w9_2) H → va_D A (wW_k_X0_insert ty h0 s1 s2 w9_0 ak w9_1 w9_2) → va_S A s.heap H locs → ∀ (ls : Array Slot) (pc : Nat), decode cX0_insert pc = .ok (.ireturn, 1) → W p l e (headSpec vs_k_X0_insert { frames := 2, cells := 0, slots := 0, locals := 50 }).room s m ([.ref h0, .int a1, .long a2, .long a3, .long a4] : List Value).toArray below meth c H locs 0 0 (MQ below (va_Qi (fun (r : Int32) (u : va_W) => (r = TT.1 ∧ (TT.1 = 0 ∨ TT.1 = 1) ∧ (u = (wW_k_X0_insert ty h0 s1 s2 TT.2.1 ak TT.2.2.1 TT.2.2.2)))) (wq_B D A) A) ([.ref h0, .int a1, .long a2, .long a3, .long a4] : List Value).toArray s 0 0 A) (F0 m pc ls [.int r]) := by
    intro r w9_0 w9_1 w9_2 hT hb01 H locs hP hD hS ls pc hd
    have hM : TT = (r, w9_0, w9_1, w9_2) := hT
    exact W.zret (v := r) hx hb hr (wz_nar hb01) (fun t ht hW => ⟨⟨r, (wW_k_X0_insert ty h0 s1 s2 w9_0 ak w9_1 w9_2), rfl, ⟨(by rw [hM]), (by rw [hM]; exact hb01), (by rw [hM])⟩, wq_B.of ht hP hD⟩, hS.F ht⟩) hS.2.2 hd
  have hT := hTT
  rw [m_k_X0_insert] at hT
  refine lv_aload_n hx hb dX0_insert_0 rfl (lv_at hl 0 rfl) ?_
  refine va_get (D := D) (ci := 2) (v := .int ac) (C := RX0) (T := TX0) (N := 4) hx hb hts iv_k_X0_insert_X0 hown hK hP 0 rfl rfl 2 (by decide) (hts (.fieldLink RX0 19 "AnswerFold$Answers" "count" "I") (by decide +kernel)) (fun _ h9 => h9) rfl dX0_insert_1 ?_
  refine lv_if_lt (tgt := 16) hx hb dX0_insert_4 (by decide) (fun c_1 => ?_) (fun c_1 => ?_)
  · rw [if_pos c_1] at hT
    refine lv_iconst (v := 0) hx hb dX0_insert_16 (by decide) ?_
    exact END 0 ac sf cf hT (by decide) _ _ hP hD hS _ _ dX0_insert_17
  · rw [if_neg c_1] at hT
    refine lv_aload_n hx hb dX0_insert_7 rfl (lv_at hl 0 rfl) ?_
    refine va_get (D := D) (ci := 2) (v := .int ac) (C := RX0) (T := TX0) (N := 4) hx hb hts iv_k_X0_insert_X0 hown hK hP 0 rfl rfl 2 (by decide) (hts (.fieldLink RX0 19 "AnswerFold$Answers" "count" "I") (by decide +kernel)) (fun _ h9 => h9) rfl dX0_insert_8 ?_
    refine lv_bipush (v := 64) hx hb dX0_insert_11 (by decide) ?_
    refine lv_icmp_lt (tgt := 18) hx hb dX0_insert_13 (by decide) (fun c_2 => ?_) (fun c_2 => ?_)
    · rw [if_pos c_2] at hT
      refine lv_aload_n hx hb dX0_insert_18 rfl (lv_at hl 0 rfl) ?_
      refine va_get (D := D) (ci := 2) (v := .int ac) (C := RX0) (T := TX0) (N := 4) hx hb hts iv_k_X0_insert_X0 hown hK hP 0 rfl rfl 2 (by decide) (hts (.fieldLink RX0 19 "AnswerFold$Answers" "count" "I") (by decide +kernel)) (fun _ h9 => h9) rfl dX0_insert_19 ?_
      refine lv_istore (lv' := [(8, .int ac), (0, .ref h0), (1, .int a1), (2, .long a2), (4, .long a3), (6, .long a4)]) hx hb dX0_insert_22 hl (by decide) rfl (fun ls hl => ?_)
      refine lv_aload_n hx hb dX0_insert_24 rfl (lv_at hl 1 rfl) ?_
      refine va_get (D := D) (ci := 2) (v := .int ac) (C := RX0) (T := TX0) (N := 4) hx hb hts iv_k_X0_insert_X0 hown hK hP 0 rfl rfl 2 (by decide) (hts (.fieldLink RX0 19 "AnswerFold$Answers" "count" "I") (by decide +kernel)) (fun _ h9 => h9) rfl dX0_insert_25 ?_
      refine lv_istore (lv' := [(9, .int ac), (8, .int ac), (0, .ref h0), (1, .int a1), (2, .long a2), (4, .long a3), (6, .long a4)]) hx hb dX0_insert_28 hl (by decide) rfl (fun ls hl => ?_)
      have L_30 : ∀ (n_30 : Nat) (v8_30 : Int32) (v9_30 : Int32) (s1_f_30 : Nat → Int32) (s2_f_30 : Nat → Int64), (v9_30.toInt + 2147483648).toNat < n_30 → TT = m_k_X0_insert_30 ac a1 a2 a3 a4 n_30 v8_30 v9_30 s1_f_30 s2_f_30 → 0 ≤ (v8_30 : Int32).toInt ∧ (v8_30 : Int32).toInt ≤ ac.toInt ∧ (v9_30 : Int32).toInt ≤ ac.toInt → ∀ (H : Heap) (locs : List Loc), va_P D vwCl (wW_k_X0_insert ty h0 s1 s2 ac ak s1_f_30 s2_f_30) H → va_D A (wW_k_X0_insert ty h0 s1 s2 ac ak s1_f_30 s2_f_30) → va_S A s.heap H locs → ∀ ls : Array Slot, lv_has ls 10 [(0, .ref h0), (1, .int a1), (2, .long a2), (4, .long a3), (6, .long a4), (8, .int v8_30), (9, .int v9_30)] → W p l e (headSpec vs_k_X0_insert { frames := 2, cells := 0, slots := 0, locals := 50 }).room s m ([.ref h0, .int a1, .long a2, .long a3, .long a4] : List Value).toArray below meth c H locs 0 0 (MQ below (va_Qi (fun (r : Int32) (u : va_W) => (r = TT.1 ∧ (TT.1 = 0 ∨ TT.1 = 1) ∧ (u = (wW_k_X0_insert ty h0 s1 s2 TT.2.1 ak TT.2.2.1 TT.2.2.2)))) (wq_B D A) A) ([.ref h0, .int a1, .long a2, .long a3, .long a4] : List Value).toArray s 0 0 A) (F0 m 30 ls []) := by
        intro n_30
        induction n_30 with
        | zero => intro v8_30 v9_30 s1_f_30 s2_f_30 hu; exact absurd hu (Nat.not_lt_zero _)
        | succ n_30 ih_30 =>
          intro v8_30 v9_30 s1_f_30 s2_f_30 hu_30 hT hw0_30 H locs hP hD hS ls hl
          rw [m_k_X0_insert_30_succ, m_k_X0_insert_30s] at hT
          refine lv_iload hx hb dX0_insert_30 (lv_at hl 6 rfl) ?_
          have J_73 : ∀ (_ : Unit), TT = m_k_X0_insert_73 ac a1 a2 a3 a4 s1_f_30 s2_f_30 v8_30 → ∀ (H : Heap) (locs : List Loc), va_P D vwCl (wW_k_X0_insert ty h0 s1 s2 ac ak s1_f_30 s2_f_30) H → va_D A (wW_k_X0_insert ty h0 s1 s2 ac ak s1_f_30 s2_f_30) → va_S A s.heap H locs → ∀ ls : Array Slot, lv_has ls 10 [(0, .ref h0), (1, .int a1), (2, .long a2), (4, .long a3), (6, .long a4), (8, .int v8_30)] → W p l e (headSpec vs_k_X0_insert { frames := 2, cells := 0, slots := 0, locals := 50 }).room s m ([.ref h0, .int a1, .long a2, .long a3, .long a4] : List Value).toArray below meth c H locs 0 0 (MQ below (va_Qi (fun (r : Int32) (u : va_W) => (r = TT.1 ∧ (TT.1 = 0 ∨ TT.1 = 1) ∧ (u = (wW_k_X0_insert ty h0 s1 s2 TT.2.1 ak TT.2.2.1 TT.2.2.2)))) (wq_B D A) A) ([.ref h0, .int a1, .long a2, .long a3, .long a4] : List Value).toArray s 0 0 A) (F0 m 73 ls []) := by
            intro _ hT  H locs hP hD hS ls hl
            rw [m_k_X0_insert_73] at hT
            refine lv_aload_n hx hb dX0_insert_73 rfl (lv_at hl 0 rfl) ?_
            refine va_get (D := D) (ci := 2) (v := .ref s1) (C := RX0) (T := TX0) (N := 4) hx hb hts iv_k_X0_insert_X0 hown hK hP 0 rfl rfl 0 (by decide) (hts (.fieldLink RX0 9 "AnswerFold$Answers" "sets" "[I") (by decide +kernel)) (fun _ h9 => h9) rfl dX0_insert_74 ?_
            refine lv_iload hx hb dX0_insert_77 (lv_at hl 5 rfl) ?_
            refine lv_iload_n hx hb dX0_insert_79 rfl (lv_at hl 1 rfl) ?_
            refine va_iast (D := D) hx hb hK hP hD hS 1 0 rfl rfl (om_k_X0_insert_0 v8_30 ac v9_30 c_1 c_2 hw0_30) dX0_insert_80 (fun H locs hP hD hS => ?_)
            have hP : va_P D vwCl (wW_k_X0_insert ty h0 s1 s2 ac ak (upd s1_f_30 v8_30.toNatClampNeg a1) s2_f_30) H := hP
            have hD : va_D A (wW_k_X0_insert ty h0 s1 s2 ac ak (upd s1_f_30 v8_30.toNatClampNeg a1) s2_f_30) := hD
            refine lv_aload_n hx hb dX0_insert_81 rfl (lv_at hl 0 rfl) ?_
            refine va_get (D := D) (ci := 2) (v := .ref s2) (C := RX0) (T := TX0) (N := 4) hx hb hts iv_k_X0_insert_X0 hown hK hP 0 rfl rfl 1 (by decide) (hts (.fieldLink RX0 15 "AnswerFold$Answers" "costs" "[J") (by decide +kernel)) (fun _ h9 => h9) rfl dX0_insert_82 ?_
            refine lv_iload hx hb dX0_insert_85 (lv_at hl 5 rfl) ?_
            refine lv_iconst (v := 3) hx hb dX0_insert_87 (by decide) ?_
            refine lv_imul hx hb dX0_insert_88 ?_
            refine lv_lload_n hx hb dX0_insert_89 rfl (lv_at hl 2 rfl) ?_
            refine va_last (D := D) hx hb hK hP hD hS 2 1 rfl rfl (om_k_X0_insert_1 v8_30 ac v9_30 c_1 c_2 hw0_30) dX0_insert_90 (fun H locs hP hD hS => ?_)
            have hP : va_P D vwCl (wW_k_X0_insert ty h0 s1 s2 ac ak (upd s1_f_30 v8_30.toNatClampNeg a1) (vp_updL s2_f_30 ((v8_30 * 3).toNatClampNeg) a2)) H := hP
            have hD : va_D A (wW_k_X0_insert ty h0 s1 s2 ac ak (upd s1_f_30 v8_30.toNatClampNeg a1) (vp_updL s2_f_30 ((v8_30 * 3).toNatClampNeg) a2)) := hD
            refine lv_aload_n hx hb dX0_insert_91 rfl (lv_at hl 0 rfl) ?_
            refine va_get (D := D) (ci := 2) (v := .ref s2) (C := RX0) (T := TX0) (N := 4) hx hb hts iv_k_X0_insert_X0 hown hK hP 0 rfl rfl 1 (by decide) (hts (.fieldLink RX0 15 "AnswerFold$Answers" "costs" "[J") (by decide +kernel)) (fun _ h9 => h9) rfl dX0_insert_92 ?_
            refine lv_iload hx hb dX0_insert_95 (lv_at hl 5 rfl) ?_
            refine lv_iconst (v := 3) hx hb dX0_insert_97 (by decide) ?_
            refine lv_imul hx hb dX0_insert_98 ?_
            refine lv_iconst (v := 1) hx hb dX0_insert_99 (by decide) ?_
            refine lv_iadd hx hb dX0_insert_100 ?_
            refine lv_lload hx hb dX0_insert_101 (lv_at hl 3 rfl) ?_
            refine va_last (D := D) hx hb hK hP hD hS 2 1 rfl rfl (om_k_X0_insert_2 v8_30 ac v9_30 c_1 c_2 hw0_30) dX0_insert_103 (fun H locs hP hD hS => ?_)
            have hP : va_P D vwCl (wW_k_X0_insert ty h0 s1 s2 ac ak (upd s1_f_30 v8_30.toNatClampNeg a1) (vp_updL (vp_updL s2_f_30 ((v8_30 * 3).toNatClampNeg) a2) (((v8_30 * 3) + 1).toNatClampNeg) a3)) H := hP
            have hD : va_D A (wW_k_X0_insert ty h0 s1 s2 ac ak (upd s1_f_30 v8_30.toNatClampNeg a1) (vp_updL (vp_updL s2_f_30 ((v8_30 * 3).toNatClampNeg) a2) (((v8_30 * 3) + 1).toNatClampNeg) a3)) := hD
            refine lv_aload_n hx hb dX0_insert_104 rfl (lv_at hl 0 rfl) ?_
            refine va_get (D := D) (ci := 2) (v := .ref s2) (C := RX0) (T := TX0) (N := 4) hx hb hts iv_k_X0_insert_X0 hown hK hP 0 rfl rfl 1 (by decide) (hts (.fieldLink RX0 15 "AnswerFold$Answers" "costs" "[J") (by decide +kernel)) (fun _ h9 => h9) rfl dX0_insert_105 ?_
            refine lv_iload hx hb dX0_insert_108 (lv_at hl 5 rfl) ?_
            refine lv_iconst (v := 3) hx hb dX0_insert_110 (by decide) ?_
            refine lv_imul hx hb dX0_insert_111 ?_
            refine lv_iconst (v := 2) hx hb dX0_insert_112 (by decide) ?_
            refine lv_iadd hx hb dX0_insert_113 ?_
            refine lv_lload hx hb dX0_insert_114 (lv_at hl 4 rfl) ?_
            refine va_last (D := D) hx hb hK hP hD hS 2 1 rfl rfl (om_k_X0_insert_3 v8_30 ac v9_30 c_1 c_2 hw0_30) dX0_insert_116 (fun H locs hP hD hS => ?_)
            have hP : va_P D vwCl (wW_k_X0_insert ty h0 s1 s2 ac ak (upd s1_f_30 v8_30.toNatClampNeg a1) (vp_updL (vp_updL (vp_updL s2_f_30 ((v8_30 * 3).toNatClampNeg) a2) (((v8_30 * 3) + 1).toNatClampNeg) a3) (((v8_30 * 3) + 2).toNatClampNeg) a4)) H := hP
            have hD : va_D A (wW_k_X0_insert ty h0 s1 s2 ac ak (upd s1_f_30 v8_30.toNatClampNeg a1) (vp_updL (vp_updL (vp_updL s2_f_30 ((v8_30 * 3).toNatClampNeg) a2) (((v8_30 * 3) + 1).toNatClampNeg) a3) (((v8_30 * 3) + 2).toNatClampNeg) a4)) := hD
            refine lv_aload_n hx hb dX0_insert_117 rfl (lv_at hl 0 rfl) ?_
            refine lv_dup hx hb dX0_insert_118 rfl ?_
            refine va_get (D := D) (ci := 2) (v := .int ac) (C := RX0) (T := TX0) (N := 4) hx hb hts iv_k_X0_insert_X0 hown hK hP 0 rfl rfl 2 (by decide) (hts (.fieldLink RX0 19 "AnswerFold$Answers" "count" "I") (by decide +kernel)) (fun _ h9 => h9) rfl dX0_insert_119 ?_
            refine lv_iconst (v := 1) hx hb dX0_insert_122 (by decide) ?_
            refine lv_iadd hx hb dX0_insert_123 ?_
            refine va_put (D := D) (ci := 2) (v := .int (ac + 1)) (ty := tyX0 2) (C := RX0) (T := TX0) (N := 4) hx hb hts iv_k_X0_insert_X0 tyX0 tyX0_ok nmX0 hown hK hP hD hS 0 rfl rfl 2 (by decide) (hts (.fieldLink RX0 19 "AnswerFold$Answers" "count" "I") (by decide +kernel)) (fun _ h9 => h9) rfl (by decide +kernel) rfl rfl (Nat.le_of_ble_eq_true rfl) dX0_insert_124 (fun H locs hP hD hS => ?_)
            have hP : va_P D vwCl (wW_k_X0_insert ty h0 s1 s2 (ac + 1) ak (upd s1_f_30 v8_30.toNatClampNeg a1) (vp_updL (vp_updL (vp_updL s2_f_30 ((v8_30 * 3).toNatClampNeg) a2) (((v8_30 * 3) + 1).toNatClampNeg) a3) (((v8_30 * 3) + 2).toNatClampNeg) a4)) H := hP
            have hD : va_D A (wW_k_X0_insert ty h0 s1 s2 (ac + 1) ak (upd s1_f_30 v8_30.toNatClampNeg a1) (vp_updL (vp_updL (vp_updL s2_f_30 ((v8_30 * 3).toNatClampNeg) a2) (((v8_30 * 3) + 1).toNatClampNeg) a3) (((v8_30 * 3) + 2).toNatClampNeg) a4)) := hD
            refine lv_iconst (v := 1) hx hb dX0_insert_127 (by decide) ?_
            exact END 1 (ac + 1) (upd s1_f_30 v8_30.toNatClampNeg a1) (vp_updL (vp_updL (vp_updL s2_f_30 ((v8_30 * 3).toNatClampNeg) a2) (((v8_30 * 3) + 1).toNatClampNeg) a3) (((v8_30 * 3) + 2).toNatClampNeg) a4) hT (by decide) _ _ hP hD hS _ _ dX0_insert_128
          refine lv_if_le (tgt := 73) hx hb dX0_insert_32 (by decide) (fun c_3 => ?_) (fun c_3 => ?_)
          · rw [if_pos c_3] at hT
            exact J_73 () hT _ _ hP hD hS _ (lv_sub hl [0, 1, 2, 3, 4, 5] rfl)
          · rw [if_neg c_3] at hT
            refine lv_aload_n hx hb dX0_insert_35 rfl (lv_at hl 0 rfl) ?_
            refine lv_iload hx hb dX0_insert_36 (lv_at hl 6 rfl) ?_
            refine lv_iconst (v := 1) hx hb dX0_insert_38 (by decide) ?_
            refine lv_isub hx hb dX0_insert_39 ?_
            refine lv_lload_n hx hb dX0_insert_40 rfl (lv_at hl 2 rfl) ?_
            refine lv_lload hx hb dX0_insert_41 (lv_at hl 3 rfl) ?_
            refine lv_lload hx hb dX0_insert_43 (lv_at hl 4 rfl) ?_
            obtain ⟨t_45, ht_45⟩ : ∃ t, t = m_k_X0_isDearer s2_f_30 (v9_30 - 1) a2 a3 a4 := ⟨_, rfl⟩
            rw [lE_eq ht_45] at hT
            refine wq_iW (wc := (wW_k_X0_isDearer ty h0 s1 s2 ac ak s2_f_30)) (va_runV (As := [.int (v9_30 - 1), .long a2, .long a3, .long a4]) (rest := []) ⟨hx, hb, hml, hown, hts⟩ (k_X0_isDearer l D ty td mi H.size h0 s1 s2 ac ak s2_f_30 (v9_30 - 1) a2 a3 a4 t_45 ht_45) (cwV 4 hts gv_k_X0_insert_0 rfl rfl rfl (by decide +kernel) ⟨(Nat.le_of_ble_eq_true rfl), (Nat.le_of_ble_eq_true rfl)⟩) (wm_V (wm_preS hP hD hK hE hS hA [true, false, true] rfl) (va_recv (q0 := 0) (ci := 2) hK hP rfl rfl)) rfl rfl hl.1 rfl (lv_room (Nat.le_of_ble_eq_true rfl)) dX0_insert_45 ⟨(Nat.le_of_ble_eq_true rfl), (Nat.le_of_ble_eq_true rfl)⟩) hS hA hP hD [true, false, true] rfl (fun _ _ h => by rcases h with ⟨-, -, rfl⟩; rfl) (fun r u H locs hw hP hD hS => ?_)
            obtain ⟨hr0, c_6, rfl⟩ := hw
            subst r
            have hP : va_P D vwCl (wW_k_X0_insert ty h0 s1 s2 ac ak s1_f_30 s2_f_30) H := hP
            have hD : va_D A (wW_k_X0_insert ty h0 s1 s2 ac ak s1_f_30 s2_f_30) := hD
            refine W.widen (k := 0) (n := 0) (Nat.le_of_ble_eq_true rfl) (Nat.le_of_ble_eq_true rfl) ?_
            refine lv_if_eq (tgt := 73) hx hb dX0_insert_48 (by decide) (fun c_7 => ?_) (fun c_7 => ?_)
            · rw [if_pos c_7] at hT
              exact J_73 () hT _ _ hP hD hS _ (lv_sub hl [0, 1, 2, 3, 4, 5] rfl)
            · rw [if_neg c_7] at hT
              refine lv_aload_n hx hb dX0_insert_51 rfl (lv_at hl 0 rfl) ?_
              refine lv_iload hx hb dX0_insert_52 (lv_at hl 6 rfl) ?_
              refine lv_iconst (v := 1) hx hb dX0_insert_54 (by decide) ?_
              refine lv_isub hx hb dX0_insert_55 ?_
              refine lv_iload hx hb dX0_insert_56 (lv_at hl 6 rfl) ?_
              obtain ⟨t_58, ht_58⟩ : ∃ t, t = m_k_X0_copy s1_f_30 s2_f_30 (v9_30 - 1) v9_30 := ⟨_, rfl⟩
              rw [lE_eq ht_58] at hT
              refine wq_vW (wc := (wW_k_X0_copy ty h0 s1 s2 ac ak s1_f_30 s2_f_30)) (va_runV (As := [.int (v9_30 - 1), .int v9_30]) (rest := []) ⟨hx, hb, hml, hown, hts⟩ (k_X0_copy l D ty td mi H.size h0 s1 s2 ac ak s1_f_30 s2_f_30 (v9_30 - 1) v9_30 t_58 ht_58) (cwV 2 hts gv_k_X0_insert_1 rfl rfl rfl (by decide +kernel) ⟨(Nat.le_of_ble_eq_true rfl), (Nat.le_of_ble_eq_true rfl)⟩) (wm_V (wm_preS hP hD hK hE hS hA [true, true, true] rfl) (va_recv (q0 := 0) (ci := 2) hK hP rfl rfl)) rfl rfl hl.1 rfl (lv_room (Nat.le_of_ble_eq_true rfl)) dX0_insert_58 ⟨(Nat.le_of_ble_eq_true rfl), (Nat.le_of_ble_eq_true rfl)⟩) hS hA hP hD [true, true, true] rfl (fun _ h => by rcases h with rfl; rfl) (fun u H locs hw hP hD hS => ?_)
              obtain rfl := hw
              have hP : va_P D vwCl (wW_k_X0_insert ty h0 s1 s2 ac ak t_58.1 t_58.2) H := hP
              have hD : va_D A (wW_k_X0_insert ty h0 s1 s2 ac ak t_58.1 t_58.2) := hD
              refine W.widen (k := 0) (n := 0) (Nat.le_of_ble_eq_true rfl) (Nat.le_of_ble_eq_true rfl) ?_
              refine lv_iload hx hb dX0_insert_61 (lv_at hl 6 rfl) ?_
              refine lv_iconst (v := 1) hx hb dX0_insert_63 (by decide) ?_
              refine lv_isub hx hb dX0_insert_64 ?_
              refine lv_istore (lv' := [(8, .int (v9_30 - 1)), (0, .ref h0), (1, .int a1), (2, .long a2), (4, .long a3), (6, .long a4), (9, .int v9_30)]) hx hb dX0_insert_65 hl (by decide) rfl (fun ls hl => ?_)
              refine lv_iinc (v := v9_30 + (-1)) (lv' := [(9, .int (v9_30 + (-1))), (8, .int (v9_30 - 1)), (0, .ref h0), (1, .int a1), (2, .long a2), (4, .long a3), (6, .long a4)]) hx hb dX0_insert_67 hl (k := 6) rfl (by rfl) (by decide) rfl (fun ls hl => ?_)
              refine lv_goto (tgt := 30) hx hb dX0_insert_70 (by decide) ?_
              exact ih_30 (v9_30 - 1) (v9_30 + (-1)) t_58.1 t_58.2 (wi_dn hu_30 (wi_pos (Int32.not_le.mp c_3))) hT (om_k_X0_insert_4 v9_30 ac v8_30 t_45 c_1 c_2 hw0_30 c_3 c_7) _ _ hP hD hS _ (lv_sub hl [2, 3, 4, 5, 6, 1, 0] rfl)
      exact L_30 wF ac ac sf cf (wF_dn ac) hT (om_k_X0_insert_5 ac c_1 c_2) _ _ hP hD hS _ (lv_sub hl [2, 3, 4, 5, 6, 1, 0] rfl)
    · rw [if_neg c_2] at hT
      refine lv_iconst (v := 0) hx hb dX0_insert_16 (by decide) ?_
      exact END 0 ac sf cf hT (by decide) _ _ hP hD hS _ _ dX0_insert_17
theorem dX6_hasPredicate_0 : decode cX6_hasPredicate 0 = .ok (.iload_n 1, 1) := by decide +kernel
theorem dX6_hasPredicate_1 : decode cX6_hasPredicate 1 = .ok (.ifCond .lt 21, 3) := by decide +kernel
theorem dX6_hasPredicate_4 : decode cX6_hasPredicate 4 = .ok (.iload_n 1, 1) := by decide +kernel
theorem dX6_hasPredicate_5 : decode cX6_hasPredicate 5 = .ok (.aload_n 0, 1) := by decide +kernel
theorem dX6_hasPredicate_6 : decode cX6_hasPredicate 6 = .ok (.getfield 38, 3) := by decide +kernel
theorem dX6_hasPredicate_9 : decode cX6_hasPredicate 9 = .ok (.if_icmp .ge 13, 3) := by decide +kernel
theorem dX6_hasPredicate_12 : decode cX6_hasPredicate 12 = .ok (.iload_n 1, 1) := by decide +kernel
theorem dX6_hasPredicate_13 : decode cX6_hasPredicate 13 = .ok (.bipush 6, 2) := by decide +kernel
theorem dX6_hasPredicate_15 : decode cX6_hasPredicate 15 = .ok (.if_icmp .ge 7, 3) := by decide +kernel
theorem dX6_hasPredicate_18 : decode cX6_hasPredicate 18 = .ok (.iconst 1, 1) := by decide +kernel
theorem dX6_hasPredicate_19 : decode cX6_hasPredicate 19 = .ok (.goto 4, 3) := by decide +kernel
theorem dX6_hasPredicate_22 : decode cX6_hasPredicate 22 = .ok (.iconst 0, 1) := by decide +kernel
theorem dX6_hasPredicate_23 : decode cX6_hasPredicate 23 = .ok (.ireturn, 1) := by decide +kernel
def wW_k_X6_hasPredicate (ty : Nat → ClassId) (X : Nat → Nat) (z9_0 : Int32) (z9_1 : Int32) (z9_2 : Int32) (z9_3 : Int32) : va_W := [((X 1), .inr (8, [.ref (X 2), .int z9_0, .ref (X 3), .int z9_1, .ref (X 4), .ref (X 5), .int z9_2, .ref (X 6), .ref (X 7), .int z9_3]))]
def vs_k_X6_hasPredicate : List Cond := .code yX6_hasPredicate cX6_hasPredicate 2 (some .boolean) :: ([.fieldLink RX6 38 "AnswerFold$Program" "predicateCount" "I"] ++ (u_ws RX6 TX6 10))
theorem iv_k_X6_hasPredicate_X6 : ∀ w ∈ u_ws RX6 TX6 10, w ∈ vs_k_X6_hasPredicate := (fun _ h => List.mem_cons_of_mem _ (List.mem_append_right _ (h)))
set_option maxHeartbeats 4000000 in
set_option maxRecDepth 100000 in
theorem k_X6_hasPredicate (l : Launch) (D : va_G) (ty : Nat → ClassId) (td mi sz : Nat) (X : Nat → Nat) (pn : Int32) (rn : Int32) (tn : Int32) (en : Int32) (a1 : Int32) (TT : r_k_X6_hasPredicate) (hTT : TT = m_k_X6_hasPredicate pn a1) : Met l yX6_hasPredicate vs_k_X6_hasPredicate { frames := 0, cells := 0, slots := 0, locals := 0 } (va_Pc [.ref (X 1), .int a1] (wq_P D ty td mi (wW_k_X6_hasPredicate ty X pn rn tn en) sz)) (va_Qi (fun (r : Int32) (u : va_W) => (r = TT ∧ (TT = 0 ∨ TT = 1) ∧ (u = (wW_k_X6_hasPredicate ty X pn rn tn en)))) (wq_B D (va_A (wW_k_X6_hasPredicate ty X pn rn tn en) sz)) (va_A (wW_k_X6_hasPredicate ty X pn rn tn en) sz)) 0 0 (va_A (wW_k_X6_hasPredicate ty X pn rn tn en) sz) := by
  refine Met.ofW (cc := cX6_hasPredicate) (maxL := 2) (ret := (some .boolean)) (by decide) rfl ?_
  intro p e s m args below meth c s₁ B hml hv
  obtain ⟨rfl, hsz, hP, hK, hD0, hE⟩ := hv
  have hx := B.exec
  have hb := B.bytes
  have hr := B.returns
  have hts := atoms_spec (ws := vs_k_X6_hasPredicate) B.pre
  have hown : s.vm.findClass RX6 = some m.cls := findClass_of_methodNamed B.named
  have hlocks := B.notSynchronized
  subst hsz
  have hD := hD0.self (sz := s.heap.size)
  generalize hAe : va_A (wW_k_X6_hasPredicate ty X pn rn tn en) s.heap.size = A at hD hE ⊢
  have hA : ∀ q : Nat, s.heap.size ≤ q → A q := fun q h => by rw [← hAe]; exact Or.inr h
  have hS : va_S A s.heap s.heap [] := va_S.rf
  have hP : va_P D vwCl (wW_k_X6_hasPredicate ty X pn rn tn en) s.heap := hP
  have hl := lv_entry ([.ref (X 1), .int a1]) (n := 2) (Nat.le_of_ble_eq_true rfl)
  rw [lg_entry_eq]
  generalize (lg_sl ([.ref (X 1), .int a1]) ++ List.replicate (2 - (lg_sl ([.ref (X 1), .int a1])).length) Slot.unset).toArray = ls at hl ⊢
  have hl : lv_has ls 2 [(0, .ref (X 1)), (1, .int a1)] := hl
  have END : ∀ (r : Int32), TT = r → (r = 0 ∨ r = 1) → ∀ (H : Heap) (locs : List Loc), va_P D vwCl (wW_k_X6_hasPredicate ty X pn rn tn en) H → va_D A (wW_k_X6_hasPredicate ty X pn rn tn en) → va_S A s.heap H locs → ∀ (ls : Array Slot) (pc : Nat), decode cX6_hasPredicate pc = .ok (.ireturn, 1) → W p l e (headSpec vs_k_X6_hasPredicate { frames := 0, cells := 0, slots := 0, locals := 0 }).room s m ([.ref (X 1), .int a1] : List Value).toArray below meth c H locs 0 0 (MQ below (va_Qi (fun (r : Int32) (u : va_W) => (r = TT ∧ (TT = 0 ∨ TT = 1) ∧ (u = (wW_k_X6_hasPredicate ty X pn rn tn en)))) (wq_B D A) A) ([.ref (X 1), .int a1] : List Value).toArray s 0 0 A) (F0 m pc ls [.int r]) := by
    intro r hT hb01 H locs hP hD hS ls pc hd
    have hM : TT = r := hT
    exact W.zret (v := r) hx hb hr (wz_nar hb01) (fun t ht hW => ⟨⟨r, (wW_k_X6_hasPredicate ty X pn rn tn en), rfl, ⟨(by rw [hM]), (by rw [hM]; exact hb01), rfl⟩, wq_B.of ht hP hD⟩, hS.F ht⟩) hS.2.2 hd
  have hT := hTT
  rw [m_k_X6_hasPredicate] at hT
  refine lv_iload_n hx hb dX6_hasPredicate_0 rfl (lv_at hl 1 rfl) ?_
  refine lv_if_lt (tgt := 22) hx hb dX6_hasPredicate_1 (by decide) (fun c_1 => ?_) (fun c_1 => ?_)
  · rw [if_pos c_1] at hT
    refine lv_iconst (v := 0) hx hb dX6_hasPredicate_22 (by decide) ?_
    exact END 0 hT (by decide) _ _ hP hD hS _ _ dX6_hasPredicate_23
  · rw [if_neg c_1] at hT
    refine lv_iload_n hx hb dX6_hasPredicate_4 rfl (lv_at hl 1 rfl) ?_
    refine lv_aload_n hx hb dX6_hasPredicate_5 rfl (lv_at hl 0 rfl) ?_
    refine va_get (D := D) (ci := 8) (v := .int pn) (C := RX6) (T := TX6) (N := 10) hx hb hts iv_k_X6_hasPredicate_X6 hown hK hP 0 rfl rfl 1 (by decide) (hts (.fieldLink RX6 38 "AnswerFold$Program" "predicateCount" "I") (by decide +kernel)) (fun _ h9 => h9) rfl dX6_hasPredicate_6 ?_
    refine lv_icmp_ge (tgt := 22) hx hb dX6_hasPredicate_9 (by decide) (fun c_2 => ?_) (fun c_2 => ?_)
    · rw [if_pos c_2] at hT
      refine lv_iconst (v := 0) hx hb dX6_hasPredicate_22 (by decide) ?_
      exact END 0 hT (by decide) _ _ hP hD hS _ _ dX6_hasPredicate_23
    · rw [if_neg c_2] at hT
      refine lv_iload_n hx hb dX6_hasPredicate_12 rfl (lv_at hl 1 rfl) ?_
      refine lv_bipush (v := 6) hx hb dX6_hasPredicate_13 (by decide) ?_
      refine lv_icmp_ge (tgt := 22) hx hb dX6_hasPredicate_15 (by decide) (fun c_3 => ?_) (fun c_3 => ?_)
      · rw [if_pos c_3] at hT
        refine lv_iconst (v := 0) hx hb dX6_hasPredicate_22 (by decide) ?_
        exact END 0 hT (by decide) _ _ hP hD hS _ _ dX6_hasPredicate_23
      · rw [if_neg c_3] at hT
        refine lv_iconst (v := 1) hx hb dX6_hasPredicate_18 (by decide) ?_
        refine lv_goto (tgt := 23) hx hb dX6_hasPredicate_19 (by decide) ?_
        exact END 1 hT (by decide) _ _ hP hD hS _ _ dX6_hasPredicate_23
theorem hasPred_in {pn a : Int32} (h : ¬ m_k_X6_hasPredicate pn a = 0) : vp_in a 6 := by
  unfold m_k_X6_hasPredicate at h
  by_cases h1 : a < 0
  · rw [if_pos h1] at h
    exact absurd rfl h
  · rw [if_neg h1] at h
    by_cases h2 : pn ≤ a
    · rw [if_pos h2] at h
      exact absurd rfl h
    · rw [if_neg h2] at h
      by_cases h3 : 6 ≤ a
      · rw [if_pos h3] at h
        exact absurd rfl h
      · exact wi_in (wi_lo h1) (wi_hi h3 (by decide))
theorem dX6_placesOf_0 : decode cX6_placesOf 0 = .ok (.aload_n 0, 1) := by decide +kernel
theorem dX6_placesOf_1 : decode cX6_placesOf 1 = .ok (.iload_n 1, 1) := by decide +kernel
theorem dX6_placesOf_2 : decode cX6_placesOf 2 = .ok (.invokevirtual 41, 3) := by decide +kernel
theorem dX6_placesOf_5 : decode cX6_placesOf 5 = .ok (.ifCond .eq 12, 3) := by decide +kernel
theorem dX6_placesOf_8 : decode cX6_placesOf 8 = .ok (.aload_n 0, 1) := by decide +kernel
theorem dX6_placesOf_9 : decode cX6_placesOf 9 = .ok (.getfield 9, 3) := by decide +kernel
theorem dX6_placesOf_12 : decode cX6_placesOf 12 = .ok (.iload_n 1, 1) := by decide +kernel
theorem dX6_placesOf_13 : decode cX6_placesOf 13 = .ok (.iaload, 1) := by decide +kernel
theorem dX6_placesOf_14 : decode cX6_placesOf 14 = .ok (.goto 4, 3) := by decide +kernel
theorem dX6_placesOf_17 : decode cX6_placesOf 17 = .ok (.iconst (-1), 1) := by decide +kernel
theorem dX6_placesOf_18 : decode cX6_placesOf 18 = .ok (.ireturn, 1) := by decide +kernel
def wW_k_X6_placesOf (ty : Nat → ClassId) (X : Nat → Nat) (z9_0 : Int32) (z9_1 : Int32) (z9_2 : Int32) (z9_3 : Int32) (z9_4 : Nat → Int32) : va_W := [((X 1), .inr (8, [.ref (X 2), .int z9_0, .ref (X 3), .int z9_1, .ref (X 4), .ref (X 5), .int z9_2, .ref (X 6), .ref (X 7), .int z9_3])), ((X 2), .inl (ty 0, 6, .inl z9_4))]
def vs_k_X6_placesOf : List Cond := .code yX6_placesOf cX6_placesOf 2 (some .int) :: ([.methodLink RX6 41 yX6_hasPredicate, .instanceMethod yX6_hasPredicate, .selects RX6 yX6_hasPredicate yX6_hasPredicate, .initialized RX6, .fieldLink RX6 9 "AnswerFold$Program" "places" "[I"] ++ (vs_k_X6_hasPredicate ++ (u_ws RX6 TX6 10)))
theorem iv_k_X6_placesOf_X6 : ∀ w ∈ u_ws RX6 TX6 10, w ∈ vs_k_X6_placesOf := (fun _ h => List.mem_cons_of_mem _ (List.mem_append_right _ (List.mem_append_right _ (h))))
set_option maxRecDepth 20000 in
theorem gv_k_X6_placesOf_0 : GoodIn vs_k_X6_placesOf (wsV RX6 41 RX6 yX6_hasPredicate vs_k_X6_hasPredicate) := goodIn_app (goodIn_sub (by decide +kernel) (by decide +kernel)) (goodIn_sub (fun _ h => List.mem_cons_of_mem _ (List.mem_append_right _ (List.mem_append_left _ h))) (by decide +kernel))
set_option maxHeartbeats 4000000 in
set_option maxRecDepth 100000 in
theorem k_X6_placesOf (l : Launch) (D : va_G) (ty : Nat → ClassId) (td mi sz : Nat) (X : Nat → Nat) (pn : Int32) (rn : Int32) (tn : Int32) (en : Int32) (pl : Nat → Int32) (a1 : Int32) (TT : r_k_X6_placesOf) (hTT : TT = m_k_X6_placesOf pn pl a1) : Met l yX6_placesOf vs_k_X6_placesOf { frames := 1, cells := 0, slots := 0, locals := 21 } (va_Pc [.ref (X 1), .int a1] (wq_P D ty td mi (wW_k_X6_placesOf ty X pn rn tn en pl) sz)) (va_Qi (fun (r : Int32) (u : va_W) => (r = TT ∧ (u = (wW_k_X6_placesOf ty X pn rn tn en pl)))) (wq_B D (va_A (wW_k_X6_placesOf ty X pn rn tn en pl) sz)) (va_A (wW_k_X6_placesOf ty X pn rn tn en pl) sz)) 0 0 (va_A (wW_k_X6_placesOf ty X pn rn tn en pl) sz) := by
  refine Met.ofW (cc := cX6_placesOf) (maxL := 2) (ret := (some .int)) (by decide) rfl ?_
  intro p e s m args below meth c s₁ B hml hv
  obtain ⟨rfl, hsz, hP, hK, hD0, hE⟩ := hv
  have hx := B.exec
  have hb := B.bytes
  have hr := B.returns
  have hts := atoms_spec (ws := vs_k_X6_placesOf) B.pre
  have hown : s.vm.findClass RX6 = some m.cls := findClass_of_methodNamed B.named
  have hlocks := B.notSynchronized
  subst hsz
  have hD := hD0.self (sz := s.heap.size)
  generalize hAe : va_A (wW_k_X6_placesOf ty X pn rn tn en pl) s.heap.size = A at hD hE ⊢
  have hA : ∀ q : Nat, s.heap.size ≤ q → A q := fun q h => by rw [← hAe]; exact Or.inr h
  have hS : va_S A s.heap s.heap [] := va_S.rf
  have hP : va_P D vwCl (wW_k_X6_placesOf ty X pn rn tn en pl) s.heap := hP
  have hl := lv_entry ([.ref (X 1), .int a1]) (n := 2) (Nat.le_of_ble_eq_true rfl)
  rw [lg_entry_eq]
  generalize (lg_sl ([.ref (X 1), .int a1]) ++ List.replicate (2 - (lg_sl ([.ref (X 1), .int a1])).length) Slot.unset).toArray = ls at hl ⊢
  have hl : lv_has ls 2 [(0, .ref (X 1)), (1, .int a1)] := hl
  have END : ∀ (r : Int32), TT = r → ∀ (H : Heap) (locs : List Loc), va_P D vwCl (wW_k_X6_placesOf ty X pn rn tn en pl) H → va_D A (wW_k_X6_placesOf ty X pn rn tn en pl) → va_S A s.heap H locs → ∀ (ls : Array Slot) (pc : Nat), decode cX6_placesOf pc = .ok (.ireturn, 1) → W p l e (headSpec vs_k_X6_placesOf { frames := 1, cells := 0, slots := 0, locals := 21 }).room s m ([.ref (X 1), .int a1] : List Value).toArray below meth c H locs 0 0 (MQ below (va_Qi (fun (r : Int32) (u : va_W) => (r = TT ∧ (u = (wW_k_X6_placesOf ty X pn rn tn en pl)))) (wq_B D A) A) ([.ref (X 1), .int a1] : List Value).toArray s 0 0 A) (F0 m pc ls [.int r]) := by
    intro r hT H locs hP hD hS ls pc hd
    have hM : TT = r := hT
    exact W.iret (v := r) hx hb hr (fun t ht hW => ⟨⟨r, (wW_k_X6_placesOf ty X pn rn tn en pl), rfl, ⟨(by rw [hM]), rfl⟩, wq_B.of ht hP hD⟩, hS.F ht⟩) hS.2.2 hd
  have hT := hTT
  rw [m_k_X6_placesOf] at hT
  refine lv_aload_n hx hb dX6_placesOf_0 rfl (lv_at hl 0 rfl) ?_
  refine lv_iload_n hx hb dX6_placesOf_1 rfl (lv_at hl 1 rfl) ?_
  obtain ⟨t_2, ht_2⟩ : ∃ t, t = m_k_X6_hasPredicate pn a1 := ⟨_, rfl⟩
  rw [lE_eq ht_2] at hT
  refine wq_iW (wc := (wW_k_X6_hasPredicate ty X pn rn tn en)) (va_runV (As := [.int a1]) (rest := []) ⟨hx, hb, hml, hown, hts⟩ (k_X6_hasPredicate l D ty td mi s.heap.size X pn rn tn en a1 t_2 ht_2) (cwV 1 hts gv_k_X6_placesOf_0 rfl rfl rfl (by decide +kernel) ⟨(Nat.le_of_ble_eq_true rfl), (Nat.le_of_ble_eq_true rfl)⟩) (wm_V (wm_preS hP hD hK hE hS hA [true] rfl) (va_recv (q0 := 0) (ci := 8) hK hP rfl rfl)) rfl rfl hl.1 rfl (lv_room (Nat.le_of_ble_eq_true rfl)) dX6_placesOf_2 ⟨(Nat.le_of_ble_eq_true rfl), (Nat.le_of_ble_eq_true rfl)⟩) hS hA hP hD [true] rfl (fun _ _ h => by rcases h with ⟨-, -, rfl⟩; rfl) (fun r u H locs hw hP hD hS => ?_)
  obtain ⟨hr0, c_3, rfl⟩ := hw
  subst r
  have hP : va_P D vwCl (wW_k_X6_placesOf ty X pn rn tn en pl) H := hP
  have hD : va_D A (wW_k_X6_placesOf ty X pn rn tn en pl) := hD
  refine W.widen (k := 0) (n := 0) (Nat.le_of_ble_eq_true rfl) (Nat.le_of_ble_eq_true rfl) ?_
  refine lv_if_eq (tgt := 17) hx hb dX6_placesOf_5 (by decide) (fun c_4 => ?_) (fun c_4 => ?_)
  · rw [if_pos c_4] at hT
    refine lv_iconst (v := (-1)) hx hb dX6_placesOf_17 (by decide) ?_
    exact END (-1) hT _ _ hP hD hS _ _ dX6_placesOf_18
  · rw [if_neg c_4] at hT
    refine lv_aload_n hx hb dX6_placesOf_8 rfl (lv_at hl 0 rfl) ?_
    refine va_get (D := D) (ci := 8) (v := .ref (X 2)) (C := RX6) (T := TX6) (N := 10) hx hb hts iv_k_X6_placesOf_X6 hown hK hP 0 rfl rfl 0 (by decide) (hts (.fieldLink RX6 9 "AnswerFold$Program" "places" "[I") (by decide +kernel)) (fun _ h9 => h9) rfl dX6_placesOf_9 ?_
    refine lv_iload_n hx hb dX6_placesOf_12 rfl (lv_at hl 1 rfl) ?_
    refine va_iald (D := D) hx hb hK hP 1 0 rfl rfl (hasPred_in (a := a1) (by rw [← ht_2]; exact c_4)) dX6_placesOf_13 ?_
    refine lv_goto (tgt := 18) hx hb dX6_placesOf_14 (by decide) ?_
    exact END (pl a1.toNatClampNeg) hT _ _ hP hD hS _ _ dX6_placesOf_18
theorem dX6_tellPredicate_0 : decode cX6_tellPredicate 0 = .ok (.aload_n 0, 1) := by decide +kernel
theorem dX6_tellPredicate_1 : decode cX6_tellPredicate 1 = .ok (.getfield 38, 3) := by decide +kernel
theorem dX6_tellPredicate_4 : decode cX6_tellPredicate 4 = .ok (.ifCond .lt 12, 3) := by decide +kernel
theorem dX6_tellPredicate_7 : decode cX6_tellPredicate 7 = .ok (.aload_n 0, 1) := by decide +kernel
theorem dX6_tellPredicate_8 : decode cX6_tellPredicate 8 = .ok (.getfield 38, 3) := by decide +kernel
theorem dX6_tellPredicate_11 : decode cX6_tellPredicate 11 = .ok (.bipush 6, 2) := by decide +kernel
theorem dX6_tellPredicate_13 : decode cX6_tellPredicate 13 = .ok (.if_icmp .lt 5, 3) := by decide +kernel
theorem dX6_tellPredicate_16 : decode cX6_tellPredicate 16 = .ok (.iconst (-1), 1) := by decide +kernel
theorem dX6_tellPredicate_17 : decode cX6_tellPredicate 17 = .ok (.ireturn, 1) := by decide +kernel
theorem dX6_tellPredicate_18 : decode cX6_tellPredicate 18 = .ok (.aload_n 0, 1) := by decide +kernel
theorem dX6_tellPredicate_19 : decode cX6_tellPredicate 19 = .ok (.getfield 9, 3) := by decide +kernel
theorem dX6_tellPredicate_22 : decode cX6_tellPredicate 22 = .ok (.aload_n 0, 1) := by decide +kernel
theorem dX6_tellPredicate_23 : decode cX6_tellPredicate 23 = .ok (.getfield 38, 3) := by decide +kernel
theorem dX6_tellPredicate_26 : decode cX6_tellPredicate 26 = .ok (.iload_n 1, 1) := by decide +kernel
theorem dX6_tellPredicate_27 : decode cX6_tellPredicate 27 = .ok (.iastore, 1) := by decide +kernel
theorem dX6_tellPredicate_28 : decode cX6_tellPredicate 28 = .ok (.aload_n 0, 1) := by decide +kernel
theorem dX6_tellPredicate_29 : decode cX6_tellPredicate 29 = .ok (.dup, 1) := by decide +kernel
theorem dX6_tellPredicate_30 : decode cX6_tellPredicate 30 = .ok (.getfield 38, 3) := by decide +kernel
theorem dX6_tellPredicate_33 : decode cX6_tellPredicate 33 = .ok (.dup_x1, 1) := by decide +kernel
theorem dX6_tellPredicate_34 : decode cX6_tellPredicate 34 = .ok (.iconst 1, 1) := by decide +kernel
theorem dX6_tellPredicate_35 : decode cX6_tellPredicate 35 = .ok (.iadd, 1) := by decide +kernel
theorem dX6_tellPredicate_36 : decode cX6_tellPredicate 36 = .ok (.putfield 38, 3) := by decide +kernel
theorem dX6_tellPredicate_39 : decode cX6_tellPredicate 39 = .ok (.ireturn, 1) := by decide +kernel
def wW_k_X6_tellPredicate (ty : Nat → ClassId) (X : Nat → Nat) (z9_0 : Int32) (z9_1 : Int32) (z9_2 : Int32) (z9_3 : Int32) (z9_4 : Nat → Int32) : va_W := [((X 1), .inr (8, [.ref (X 2), .int z9_0, .ref (X 3), .int z9_1, .ref (X 4), .ref (X 5), .int z9_2, .ref (X 6), .ref (X 7), .int z9_3])), ((X 2), .inl (ty 0, 6, .inl z9_4))]
def vs_k_X6_tellPredicate : List Cond := .code yX6_tellPredicate cX6_tellPredicate 2 (some .int) :: ([.fieldLink RX6 38 "AnswerFold$Program" "predicateCount" "I", .fieldLink RX6 9 "AnswerFold$Program" "places" "[I"] ++ (u_ws RX6 TX6 10))
theorem iv_k_X6_tellPredicate_X6 : ∀ w ∈ u_ws RX6 TX6 10, w ∈ vs_k_X6_tellPredicate := (fun _ h => List.mem_cons_of_mem _ (List.mem_append_right _ (h)))
set_option maxHeartbeats 4000000 in
set_option maxRecDepth 100000 in
theorem k_X6_tellPredicate (l : Launch) (D : va_G) (ty : Nat → ClassId) (td mi sz : Nat) (X : Nat → Nat) (pn : Int32) (rn : Int32) (tn : Int32) (en : Int32) (pl : Nat → Int32) (a1 : Int32) (TT : r_k_X6_tellPredicate) (hTT : TT = m_k_X6_tellPredicate pn pl a1) : Met l yX6_tellPredicate vs_k_X6_tellPredicate { frames := 0, cells := 0, slots := 0, locals := 0 } (va_Pc [.ref (X 1), .int a1] (wq_P D ty td mi (wW_k_X6_tellPredicate ty X pn rn tn en pl) sz)) (va_Qi (fun (r : Int32) (u : va_W) => (r = TT.1 ∧ (u = (wW_k_X6_tellPredicate ty X TT.2.1 rn tn en TT.2.2)))) (wq_B D (va_A (wW_k_X6_tellPredicate ty X pn rn tn en pl) sz)) (va_A (wW_k_X6_tellPredicate ty X pn rn tn en pl) sz)) 0 0 (va_A (wW_k_X6_tellPredicate ty X pn rn tn en pl) sz) := by
  refine Met.ofW (cc := cX6_tellPredicate) (maxL := 2) (ret := (some .int)) (by decide) rfl ?_
  intro p e s m args below meth c s₁ B hml hv
  obtain ⟨rfl, hsz, hP, hK, hD0, hE⟩ := hv
  have hx := B.exec
  have hb := B.bytes
  have hr := B.returns
  have hts := atoms_spec (ws := vs_k_X6_tellPredicate) B.pre
  have hown : s.vm.findClass RX6 = some m.cls := findClass_of_methodNamed B.named
  have hlocks := B.notSynchronized
  subst hsz
  have hD := hD0.self (sz := s.heap.size)
  generalize hAe : va_A (wW_k_X6_tellPredicate ty X pn rn tn en pl) s.heap.size = A at hD hE ⊢
  have hA : ∀ q : Nat, s.heap.size ≤ q → A q := fun q h => by rw [← hAe]; exact Or.inr h
  have hS : va_S A s.heap s.heap [] := va_S.rf
  have hP : va_P D vwCl (wW_k_X6_tellPredicate ty X pn rn tn en pl) s.heap := hP
  have hl := lv_entry ([.ref (X 1), .int a1]) (n := 2) (Nat.le_of_ble_eq_true rfl)
  rw [lg_entry_eq]
  generalize (lg_sl ([.ref (X 1), .int a1]) ++ List.replicate (2 - (lg_sl ([.ref (X 1), .int a1])).length) Slot.unset).toArray = ls at hl ⊢
  have hl : lv_has ls 2 [(0, .ref (X 1)), (1, .int a1)] := hl
  have END : ∀ (r : Int32) (w9_0 : Int32) (w9_1 : Nat → Int32), TT = (r, w9_0, w9_1) → ∀ (H : Heap) (locs : List Loc), va_P D vwCl (wW_k_X6_tellPredicate ty X w9_0 rn tn en w9_1) H → va_D A (wW_k_X6_tellPredicate ty X w9_0 rn tn en w9_1) → va_S A s.heap H locs → ∀ (ls : Array Slot) (pc : Nat), decode cX6_tellPredicate pc = .ok (.ireturn, 1) → W p l e (headSpec vs_k_X6_tellPredicate { frames := 0, cells := 0, slots := 0, locals := 0 }).room s m ([.ref (X 1), .int a1] : List Value).toArray below meth c H locs 0 0 (MQ below (va_Qi (fun (r : Int32) (u : va_W) => (r = TT.1 ∧ (u = (wW_k_X6_tellPredicate ty X TT.2.1 rn tn en TT.2.2)))) (wq_B D A) A) ([.ref (X 1), .int a1] : List Value).toArray s 0 0 A) (F0 m pc ls [.int r]) := by
    intro r w9_0 w9_1 hT H locs hP hD hS ls pc hd
    have hM : TT = (r, w9_0, w9_1) := hT
    exact W.iret (v := r) hx hb hr (fun t ht hW => ⟨⟨r, (wW_k_X6_tellPredicate ty X w9_0 rn tn en w9_1), rfl, ⟨(by rw [hM]), (by rw [hM])⟩, wq_B.of ht hP hD⟩, hS.F ht⟩) hS.2.2 hd
  have hT := hTT
  rw [m_k_X6_tellPredicate] at hT
  refine lv_aload_n hx hb dX6_tellPredicate_0 rfl (lv_at hl 0 rfl) ?_
  refine va_get (D := D) (ci := 8) (v := .int pn) (C := RX6) (T := TX6) (N := 10) hx hb hts iv_k_X6_tellPredicate_X6 hown hK hP 0 rfl rfl 1 (by decide) (hts (.fieldLink RX6 38 "AnswerFold$Program" "predicateCount" "I") (by decide +kernel)) (fun _ h9 => h9) rfl dX6_tellPredicate_1 ?_
  refine lv_if_lt (tgt := 16) hx hb dX6_tellPredicate_4 (by decide) (fun c_1 => ?_) (fun c_1 => ?_)
  · rw [if_pos c_1] at hT
    refine lv_iconst (v := (-1)) hx hb dX6_tellPredicate_16 (by decide) ?_
    exact END (-1) pn pl hT _ _ hP hD hS _ _ dX6_tellPredicate_17
  · rw [if_neg c_1] at hT
    refine lv_aload_n hx hb dX6_tellPredicate_7 rfl (lv_at hl 0 rfl) ?_
    refine va_get (D := D) (ci := 8) (v := .int pn) (C := RX6) (T := TX6) (N := 10) hx hb hts iv_k_X6_tellPredicate_X6 hown hK hP 0 rfl rfl 1 (by decide) (hts (.fieldLink RX6 38 "AnswerFold$Program" "predicateCount" "I") (by decide +kernel)) (fun _ h9 => h9) rfl dX6_tellPredicate_8 ?_
    refine lv_bipush (v := 6) hx hb dX6_tellPredicate_11 (by decide) ?_
    refine lv_icmp_lt (tgt := 18) hx hb dX6_tellPredicate_13 (by decide) (fun c_2 => ?_) (fun c_2 => ?_)
    · rw [if_pos c_2] at hT
      refine lv_aload_n hx hb dX6_tellPredicate_18 rfl (lv_at hl 0 rfl) ?_
      refine va_get (D := D) (ci := 8) (v := .ref (X 2)) (C := RX6) (T := TX6) (N := 10) hx hb hts iv_k_X6_tellPredicate_X6 hown hK hP 0 rfl rfl 0 (by decide) (hts (.fieldLink RX6 9 "AnswerFold$Program" "places" "[I") (by decide +kernel)) (fun _ h9 => h9) rfl dX6_tellPredicate_19 ?_
      refine lv_aload_n hx hb dX6_tellPredicate_22 rfl (lv_at hl 0 rfl) ?_
      refine va_get (D := D) (ci := 8) (v := .int pn) (C := RX6) (T := TX6) (N := 10) hx hb hts iv_k_X6_tellPredicate_X6 hown hK hP 0 rfl rfl 1 (by decide) (hts (.fieldLink RX6 38 "AnswerFold$Program" "predicateCount" "I") (by decide +kernel)) (fun _ h9 => h9) rfl dX6_tellPredicate_23 ?_
      refine lv_iload_n hx hb dX6_tellPredicate_26 rfl (lv_at hl 1 rfl) ?_
      refine va_iast (D := D) hx hb hK hP hD hS 1 0 rfl rfl (wi_in (wi_lo c_1) (wi_hi (Int32.not_le.mpr c_2) (by decide))) dX6_tellPredicate_27 (fun H locs hP hD hS => ?_)
      have hP : va_P D vwCl (wW_k_X6_tellPredicate ty X pn rn tn en (upd pl pn.toNatClampNeg a1)) H := hP
      have hD : va_D A (wW_k_X6_tellPredicate ty X pn rn tn en (upd pl pn.toNatClampNeg a1)) := hD
      refine lv_aload_n hx hb dX6_tellPredicate_28 rfl (lv_at hl 0 rfl) ?_
      refine lv_dup hx hb dX6_tellPredicate_29 rfl ?_
      refine va_get (D := D) (ci := 8) (v := .int pn) (C := RX6) (T := TX6) (N := 10) hx hb hts iv_k_X6_tellPredicate_X6 hown hK hP 0 rfl rfl 1 (by decide) (hts (.fieldLink RX6 38 "AnswerFold$Program" "predicateCount" "I") (by decide +kernel)) (fun _ h9 => h9) rfl dX6_tellPredicate_30 ?_
      refine lv_dup_x1 hx hb dX6_tellPredicate_33 rfl rfl ?_
      refine lv_iconst (v := 1) hx hb dX6_tellPredicate_34 (by decide) ?_
      refine lv_iadd hx hb dX6_tellPredicate_35 ?_
      refine va_put (D := D) (ci := 8) (v := .int (pn + 1)) (ty := tyX6 1) (C := RX6) (T := TX6) (N := 10) hx hb hts iv_k_X6_tellPredicate_X6 tyX6 tyX6_ok nmX6 hown hK hP hD hS 0 rfl rfl 1 (by decide) (hts (.fieldLink RX6 38 "AnswerFold$Program" "predicateCount" "I") (by decide +kernel)) (fun _ h9 => h9) rfl (by decide +kernel) rfl rfl (Nat.le_of_ble_eq_true rfl) dX6_tellPredicate_36 (fun H locs hP hD hS => ?_)
      have hP : va_P D vwCl (wW_k_X6_tellPredicate ty X (pn + 1) rn tn en (upd pl pn.toNatClampNeg a1)) H := hP
      have hD : va_D A (wW_k_X6_tellPredicate ty X (pn + 1) rn tn en (upd pl pn.toNatClampNeg a1)) := hD
      exact END pn (pn + 1) (upd pl pn.toNatClampNeg a1) hT _ _ hP hD hS _ _ dX6_tellPredicate_39
    · rw [if_neg c_2] at hT
      refine lv_iconst (v := (-1)) hx hb dX6_tellPredicate_16 (by decide) ?_
      exact END (-1) pn pl hT _ _ hP hD hS _ _ dX6_tellPredicate_17
theorem dX6_tellTime_0 : decode cX6_tellTime 0 = .ok (.aload_n 0, 1) := by decide +kernel
theorem dX6_tellTime_1 : decode cX6_tellTime 1 = .ok (.getfield 27, 3) := by decide +kernel
theorem dX6_tellTime_4 : decode cX6_tellTime 4 = .ok (.ifCond .lt 57, 3) := by decide +kernel
theorem dX6_tellTime_7 : decode cX6_tellTime 7 = .ok (.aload_n 0, 1) := by decide +kernel
theorem dX6_tellTime_8 : decode cX6_tellTime 8 = .ok (.getfield 27, 3) := by decide +kernel
theorem dX6_tellTime_11 : decode cX6_tellTime 11 = .ok (.aload_n 0, 1) := by decide +kernel
theorem dX6_tellTime_12 : decode cX6_tellTime 12 = .ok (.getfield 21, 3) := by decide +kernel
theorem dX6_tellTime_15 : decode cX6_tellTime 15 = .ok (.arraylength, 1) := by decide +kernel
theorem dX6_tellTime_16 : decode cX6_tellTime 16 = .ok (.if_icmp .ge 45, 3) := by decide +kernel
theorem dX6_tellTime_19 : decode cX6_tellTime 19 = .ok (.aload_n 0, 1) := by decide +kernel
theorem dX6_tellTime_20 : decode cX6_tellTime 20 = .ok (.getfield 27, 3) := by decide +kernel
theorem dX6_tellTime_23 : decode cX6_tellTime 23 = .ok (.aload_n 0, 1) := by decide +kernel
theorem dX6_tellTime_24 : decode cX6_tellTime 24 = .ok (.getfield 24, 3) := by decide +kernel
theorem dX6_tellTime_27 : decode cX6_tellTime 27 = .ok (.arraylength, 1) := by decide +kernel
theorem dX6_tellTime_28 : decode cX6_tellTime 28 = .ok (.if_icmp .ge 33, 3) := by decide +kernel
theorem dX6_tellTime_31 : decode cX6_tellTime 31 = .ok (.aload_n 0, 1) := by decide +kernel
theorem dX6_tellTime_32 : decode cX6_tellTime 32 = .ok (.getfield 21, 3) := by decide +kernel
theorem dX6_tellTime_35 : decode cX6_tellTime 35 = .ok (.aload_n 0, 1) := by decide +kernel
theorem dX6_tellTime_36 : decode cX6_tellTime 36 = .ok (.getfield 27, 3) := by decide +kernel
theorem dX6_tellTime_39 : decode cX6_tellTime 39 = .ok (.iload_n 1, 1) := by decide +kernel
theorem dX6_tellTime_40 : decode cX6_tellTime 40 = .ok (.iastore, 1) := by decide +kernel
theorem dX6_tellTime_41 : decode cX6_tellTime 41 = .ok (.aload_n 0, 1) := by decide +kernel
theorem dX6_tellTime_42 : decode cX6_tellTime 42 = .ok (.getfield 24, 3) := by decide +kernel
theorem dX6_tellTime_45 : decode cX6_tellTime 45 = .ok (.aload_n 0, 1) := by decide +kernel
theorem dX6_tellTime_46 : decode cX6_tellTime 46 = .ok (.getfield 27, 3) := by decide +kernel
theorem dX6_tellTime_49 : decode cX6_tellTime 49 = .ok (.iload_n 2, 1) := by decide +kernel
theorem dX6_tellTime_50 : decode cX6_tellTime 50 = .ok (.iastore, 1) := by decide +kernel
theorem dX6_tellTime_51 : decode cX6_tellTime 51 = .ok (.aload_n 0, 1) := by decide +kernel
theorem dX6_tellTime_52 : decode cX6_tellTime 52 = .ok (.dup, 1) := by decide +kernel
theorem dX6_tellTime_53 : decode cX6_tellTime 53 = .ok (.getfield 27, 3) := by decide +kernel
theorem dX6_tellTime_56 : decode cX6_tellTime 56 = .ok (.iconst 1, 1) := by decide +kernel
theorem dX6_tellTime_57 : decode cX6_tellTime 57 = .ok (.iadd, 1) := by decide +kernel
theorem dX6_tellTime_58 : decode cX6_tellTime 58 = .ok (.putfield 27, 3) := by decide +kernel
theorem dX6_tellTime_61 : decode cX6_tellTime 61 = .ok (.return_, 1) := by decide +kernel
def wW_k_X6_tellTime (ty : Nat → ClassId) (X : Nat → Nat) (z9_0 : Int32) (z9_1 : Int32) (z9_2 : Int32) (z9_3 : Int32) (z9_4 : Nat → Int32) (z9_5 : Nat → Int32) : va_W := [((X 1), .inr (8, [.ref (X 2), .int z9_0, .ref (X 3), .int z9_1, .ref (X 4), .ref (X 5), .int z9_2, .ref (X 6), .ref (X 7), .int z9_3])), ((X 4), .inl (ty 0, 7, .inl z9_4)), ((X 5), .inl (ty 0, 7, .inl z9_5))]
def vs_k_X6_tellTime : List Cond := .code yX6_tellTime cX6_tellTime 3 none :: ([.fieldLink RX6 27 "AnswerFold$Program" "timeCount" "I", .fieldLink RX6 21 "AnswerFold$Program" "timePart" "[I", .fieldLink RX6 24 "AnswerFold$Program" "timeParameter" "[I"] ++ (u_ws RX6 TX6 10))
theorem iv_k_X6_tellTime_X6 : ∀ w ∈ u_ws RX6 TX6 10, w ∈ vs_k_X6_tellTime := (fun _ h => List.mem_cons_of_mem _ (List.mem_append_right _ (h)))
set_option maxHeartbeats 4000000 in
set_option maxRecDepth 100000 in
theorem k_X6_tellTime (l : Launch) (D : va_G) (ty : Nat → ClassId) (td mi sz : Nat) (X : Nat → Nat) (pn : Int32) (rn : Int32) (tn : Int32) (en : Int32) (tp : Nat → Int32) (tq : Nat → Int32) (a1 : Int32) (a2 : Int32) (TT : r_k_X6_tellTime) (hTT : TT = m_k_X6_tellTime tn tp tq a1 a2) : Met l yX6_tellTime vs_k_X6_tellTime { frames := 0, cells := 0, slots := 0, locals := 0 } (va_Pc [.ref (X 1), .int a1, .int a2] (wq_P D ty td mi (wW_k_X6_tellTime ty X pn rn tn en tp tq) sz)) (va_Qv (fun u : va_W => ((u = (wW_k_X6_tellTime ty X pn rn TT.1 en TT.2.1 TT.2.2)))) (wq_B D (va_A (wW_k_X6_tellTime ty X pn rn tn en tp tq) sz)) (va_A (wW_k_X6_tellTime ty X pn rn tn en tp tq) sz)) 0 0 (va_A (wW_k_X6_tellTime ty X pn rn tn en tp tq) sz) := by
  refine Met.ofW (cc := cX6_tellTime) (maxL := 3) (ret := none) (by decide) rfl ?_
  intro p e s m args below meth c s₁ B hml hv
  obtain ⟨rfl, hsz, hP, hK, hD0, hE⟩ := hv
  have hx := B.exec
  have hb := B.bytes
  have hr := B.returns
  have hts := atoms_spec (ws := vs_k_X6_tellTime) B.pre
  have hown : s.vm.findClass RX6 = some m.cls := findClass_of_methodNamed B.named
  have hlocks := B.notSynchronized
  subst hsz
  have hD := hD0.self (sz := s.heap.size)
  generalize hAe : va_A (wW_k_X6_tellTime ty X pn rn tn en tp tq) s.heap.size = A at hD hE ⊢
  have hA : ∀ q : Nat, s.heap.size ≤ q → A q := fun q h => by rw [← hAe]; exact Or.inr h
  have hS : va_S A s.heap s.heap [] := va_S.rf
  have hP : va_P D vwCl (wW_k_X6_tellTime ty X pn rn tn en tp tq) s.heap := hP
  have hl := lv_entry ([.ref (X 1), .int a1, .int a2]) (n := 3) (Nat.le_of_ble_eq_true rfl)
  rw [lg_entry_eq]
  generalize (lg_sl ([.ref (X 1), .int a1, .int a2]) ++ List.replicate (3 - (lg_sl ([.ref (X 1), .int a1, .int a2])).length) Slot.unset).toArray = ls at hl ⊢
  have hl : lv_has ls 3 [(0, .ref (X 1)), (1, .int a1), (2, .int a2)] := hl
  have END : ∀ (w9_0 : Int32) (w9_1 : Nat → Int32) (w9_2 : Nat → Int32), TT = (w9_0, w9_1, w9_2) → ∀ (H : Heap) (locs : List Loc), va_P D vwCl (wW_k_X6_tellTime ty X pn rn w9_0 en w9_1 w9_2) H → va_D A (wW_k_X6_tellTime ty X pn rn w9_0 en w9_1 w9_2) → va_S A s.heap H locs → ∀ (ls : Array Slot) (pc : Nat), decode cX6_tellTime pc = .ok (.return_, 1) → W p l e (headSpec vs_k_X6_tellTime { frames := 0, cells := 0, slots := 0, locals := 0 }).room s m ([.ref (X 1), .int a1, .int a2] : List Value).toArray below meth c H locs 0 0 (MQ below (va_Qv (fun u : va_W => ((u = (wW_k_X6_tellTime ty X pn rn TT.1 en TT.2.1 TT.2.2)))) (wq_B D A) A) ([.ref (X 1), .int a1, .int a2] : List Value).toArray s 0 0 A) (F0 m pc ls []) := by
    intro w9_0 w9_1 w9_2 hT H locs hP hD hS ls pc hd
    have hM : TT = (w9_0, w9_1, w9_2) := hT
    exact W.vret hx hb hr (fun t ht hW => ⟨⟨(wW_k_X6_tellTime ty X pn rn w9_0 en w9_1 w9_2), rfl, (by rw [hM]), wq_B.of ht hP hD⟩, hS.F ht⟩) hS.2.2 hd
  have hT := hTT
  rw [m_k_X6_tellTime] at hT
  refine lv_aload_n hx hb dX6_tellTime_0 rfl (lv_at hl 0 rfl) ?_
  refine va_get (D := D) (ci := 8) (v := .int tn) (C := RX6) (T := TX6) (N := 10) hx hb hts iv_k_X6_tellTime_X6 hown hK hP 0 rfl rfl 6 (by decide) (hts (.fieldLink RX6 27 "AnswerFold$Program" "timeCount" "I") (by decide +kernel)) (fun _ h9 => h9) rfl dX6_tellTime_1 ?_
  refine lv_if_lt (tgt := 61) hx hb dX6_tellTime_4 (by decide) (fun c_1 => ?_) (fun c_1 => ?_)
  · rw [if_pos c_1] at hT
    exact END tn tp tq hT _ _ hP hD hS _ _ dX6_tellTime_61
  · rw [if_neg c_1] at hT
    refine lv_aload_n hx hb dX6_tellTime_7 rfl (lv_at hl 0 rfl) ?_
    refine va_get (D := D) (ci := 8) (v := .int tn) (C := RX6) (T := TX6) (N := 10) hx hb hts iv_k_X6_tellTime_X6 hown hK hP 0 rfl rfl 6 (by decide) (hts (.fieldLink RX6 27 "AnswerFold$Program" "timeCount" "I") (by decide +kernel)) (fun _ h9 => h9) rfl dX6_tellTime_8 ?_
    refine lv_aload_n hx hb dX6_tellTime_11 rfl (lv_at hl 0 rfl) ?_
    refine va_get (D := D) (ci := 8) (v := .ref (X 4)) (C := RX6) (T := TX6) (N := 10) hx hb hts iv_k_X6_tellTime_X6 hown hK hP 0 rfl rfl 4 (by decide) (hts (.fieldLink RX6 21 "AnswerFold$Program" "timePart" "[I") (by decide +kernel)) (fun _ h9 => h9) rfl dX6_tellTime_12 ?_
    refine va_alen (D := D) (v := 7) hx hb hK hP 1 0 rfl rfl (by first | decide | rfl) dX6_tellTime_15 ?_
    refine lv_icmp_ge (tgt := 61) hx hb dX6_tellTime_16 (by decide) (fun c_2 => ?_) (fun c_2 => ?_)
    · rw [if_pos c_2] at hT
      exact END tn tp tq hT _ _ hP hD hS _ _ dX6_tellTime_61
    · rw [if_neg c_2] at hT
      refine lv_aload_n hx hb dX6_tellTime_19 rfl (lv_at hl 0 rfl) ?_
      refine va_get (D := D) (ci := 8) (v := .int tn) (C := RX6) (T := TX6) (N := 10) hx hb hts iv_k_X6_tellTime_X6 hown hK hP 0 rfl rfl 6 (by decide) (hts (.fieldLink RX6 27 "AnswerFold$Program" "timeCount" "I") (by decide +kernel)) (fun _ h9 => h9) rfl dX6_tellTime_20 ?_
      refine lv_aload_n hx hb dX6_tellTime_23 rfl (lv_at hl 0 rfl) ?_
      refine va_get (D := D) (ci := 8) (v := .ref (X 5)) (C := RX6) (T := TX6) (N := 10) hx hb hts iv_k_X6_tellTime_X6 hown hK hP 0 rfl rfl 5 (by decide) (hts (.fieldLink RX6 24 "AnswerFold$Program" "timeParameter" "[I") (by decide +kernel)) (fun _ h9 => h9) rfl dX6_tellTime_24 ?_
      refine va_alen (D := D) (v := 7) hx hb hK hP 2 0 rfl rfl (by first | decide | rfl) dX6_tellTime_27 ?_
      refine lv_icmp_ge (tgt := 61) hx hb dX6_tellTime_28 (by decide) (fun c0 => absurd c0 c_2) (fun _ => ?_)
      refine lv_aload_n hx hb dX6_tellTime_31 rfl (lv_at hl 0 rfl) ?_
      refine va_get (D := D) (ci := 8) (v := .ref (X 4)) (C := RX6) (T := TX6) (N := 10) hx hb hts iv_k_X6_tellTime_X6 hown hK hP 0 rfl rfl 4 (by decide) (hts (.fieldLink RX6 21 "AnswerFold$Program" "timePart" "[I") (by decide +kernel)) (fun _ h9 => h9) rfl dX6_tellTime_32 ?_
      refine lv_aload_n hx hb dX6_tellTime_35 rfl (lv_at hl 0 rfl) ?_
      refine va_get (D := D) (ci := 8) (v := .int tn) (C := RX6) (T := TX6) (N := 10) hx hb hts iv_k_X6_tellTime_X6 hown hK hP 0 rfl rfl 6 (by decide) (hts (.fieldLink RX6 27 "AnswerFold$Program" "timeCount" "I") (by decide +kernel)) (fun _ h9 => h9) rfl dX6_tellTime_36 ?_
      refine lv_iload_n hx hb dX6_tellTime_39 rfl (lv_at hl 1 rfl) ?_
      refine va_iast (D := D) hx hb hK hP hD hS 1 0 rfl rfl (wi_in (wi_lo c_1) (wi_hi c_2 (by decide))) dX6_tellTime_40 (fun H locs hP hD hS => ?_)
      have hP : va_P D vwCl (wW_k_X6_tellTime ty X pn rn tn en (upd tp tn.toNatClampNeg a1) tq) H := hP
      have hD : va_D A (wW_k_X6_tellTime ty X pn rn tn en (upd tp tn.toNatClampNeg a1) tq) := hD
      refine lv_aload_n hx hb dX6_tellTime_41 rfl (lv_at hl 0 rfl) ?_
      refine va_get (D := D) (ci := 8) (v := .ref (X 5)) (C := RX6) (T := TX6) (N := 10) hx hb hts iv_k_X6_tellTime_X6 hown hK hP 0 rfl rfl 5 (by decide) (hts (.fieldLink RX6 24 "AnswerFold$Program" "timeParameter" "[I") (by decide +kernel)) (fun _ h9 => h9) rfl dX6_tellTime_42 ?_
      refine lv_aload_n hx hb dX6_tellTime_45 rfl (lv_at hl 0 rfl) ?_
      refine va_get (D := D) (ci := 8) (v := .int tn) (C := RX6) (T := TX6) (N := 10) hx hb hts iv_k_X6_tellTime_X6 hown hK hP 0 rfl rfl 6 (by decide) (hts (.fieldLink RX6 27 "AnswerFold$Program" "timeCount" "I") (by decide +kernel)) (fun _ h9 => h9) rfl dX6_tellTime_46 ?_
      refine lv_iload_n hx hb dX6_tellTime_49 rfl (lv_at hl 2 rfl) ?_
      refine va_iast (D := D) hx hb hK hP hD hS 2 0 rfl rfl (wi_in (wi_lo c_1) (wi_hi c_2 (by decide))) dX6_tellTime_50 (fun H locs hP hD hS => ?_)
      have hP : va_P D vwCl (wW_k_X6_tellTime ty X pn rn tn en (upd tp tn.toNatClampNeg a1) (upd tq tn.toNatClampNeg a2)) H := hP
      have hD : va_D A (wW_k_X6_tellTime ty X pn rn tn en (upd tp tn.toNatClampNeg a1) (upd tq tn.toNatClampNeg a2)) := hD
      refine lv_aload_n hx hb dX6_tellTime_51 rfl (lv_at hl 0 rfl) ?_
      refine lv_dup hx hb dX6_tellTime_52 rfl ?_
      refine va_get (D := D) (ci := 8) (v := .int tn) (C := RX6) (T := TX6) (N := 10) hx hb hts iv_k_X6_tellTime_X6 hown hK hP 0 rfl rfl 6 (by decide) (hts (.fieldLink RX6 27 "AnswerFold$Program" "timeCount" "I") (by decide +kernel)) (fun _ h9 => h9) rfl dX6_tellTime_53 ?_
      refine lv_iconst (v := 1) hx hb dX6_tellTime_56 (by decide) ?_
      refine lv_iadd hx hb dX6_tellTime_57 ?_
      refine va_put (D := D) (ci := 8) (v := .int (tn + 1)) (ty := tyX6 6) (C := RX6) (T := TX6) (N := 10) hx hb hts iv_k_X6_tellTime_X6 tyX6 tyX6_ok nmX6 hown hK hP hD hS 0 rfl rfl 6 (by decide) (hts (.fieldLink RX6 27 "AnswerFold$Program" "timeCount" "I") (by decide +kernel)) (fun _ h9 => h9) rfl (by decide +kernel) rfl rfl (Nat.le_of_ble_eq_true rfl) dX6_tellTime_58 (fun H locs hP hD hS => ?_)
      have hP : va_P D vwCl (wW_k_X6_tellTime ty X pn rn (tn + 1) en (upd tp tn.toNatClampNeg a1) (upd tq tn.toNatClampNeg a2)) H := hP
      have hD : va_D A (wW_k_X6_tellTime ty X pn rn (tn + 1) en (upd tp tn.toNatClampNeg a1) (upd tq tn.toNatClampNeg a2)) := hD
      exact END (tn + 1) (upd tp tn.toNatClampNeg a1) (upd tq tn.toNatClampNeg a2) hT _ _ hP hD hS _ _ dX6_tellTime_61
