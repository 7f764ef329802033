theorem dX6_ruleAt_0 : decode cX6_ruleAt 0 = .ok (.iload_n 1, 1) := by decide +kernel
theorem dX6_ruleAt_1 : decode cX6_ruleAt 1 = .ok (.ifCond .lt 26, 3) := by decide +kernel
theorem dX6_ruleAt_4 : decode cX6_ruleAt 4 = .ok (.iload_n 1, 1) := by decide +kernel
theorem dX6_ruleAt_5 : decode cX6_ruleAt 5 = .ok (.aload_n 0, 1) := by decide +kernel
theorem dX6_ruleAt_6 : decode cX6_ruleAt 6 = .ok (.getfield 45, 3) := by decide +kernel
theorem dX6_ruleAt_9 : decode cX6_ruleAt 9 = .ok (.if_icmp .ge 18, 3) := by decide +kernel
theorem dX6_ruleAt_12 : decode cX6_ruleAt 12 = .ok (.iload_n 1, 1) := by decide +kernel
theorem dX6_ruleAt_13 : decode cX6_ruleAt 13 = .ok (.bipush 20, 2) := by decide +kernel
theorem dX6_ruleAt_15 : decode cX6_ruleAt 15 = .ok (.if_icmp .ge 12, 3) := by decide +kernel
theorem dX6_ruleAt_18 : decode cX6_ruleAt 18 = .ok (.aload_n 0, 1) := by decide +kernel
theorem dX6_ruleAt_19 : decode cX6_ruleAt 19 = .ok (.getfield 17, 3) := by decide +kernel
theorem dX6_ruleAt_22 : decode cX6_ruleAt 22 = .ok (.iload_n 1, 1) := by decide +kernel
theorem dX6_ruleAt_23 : decode cX6_ruleAt 23 = .ok (.aaload, 1) := by decide +kernel
theorem dX6_ruleAt_24 : decode cX6_ruleAt 24 = .ok (.goto 4, 3) := by decide +kernel
theorem dX6_ruleAt_27 : decode cX6_ruleAt 27 = .ok (.aconst_null, 1) := by decide +kernel
theorem dX6_ruleAt_28 : decode cX6_ruleAt 28 = .ok (.areturn, 1) := by decide +kernel
def wW_k_X6_ruleAt (ty : Nat → ClassId) (X : Nat → Nat) (z9_0 : Int32) (z9_1 : Int32) (z9_2 : Int32) (z9_3 : Int32) (z9_4 : Nat → Option Nat) : va_W := [((X 1), .inr (8, [.ref (X 2), .int z9_0, .ref (X 3), .int z9_1, .ref (X 4), .ref (X 5), .int z9_2, .ref (X 6), .ref (X 7), .int z9_3])), ((X 3), .inl (ty 4, 20, .inr (.inr (.inr (.inr z9_4)))))]
theorem mm_k_X6_ruleAt (pp : pT) (rn : Int32) (rf : Nat → Option Nat) (a1 : Int32) (hok : pOK pp) (hru : ∀ (i a : Nat), rf i = some a → a ∈ pRA pp) (a : Nat) (h : m_k_X6_ruleAt rn rf a1 = some a) : a ∈ pRA pp := by
  rw [m_k_X6_ruleAt] at h
  by_cases c_4 : a1 < 0
  · rw [if_pos c_4] at h
    cases h
  · rw [if_neg c_4] at h
    by_cases c_5 : rn ≤ a1
    · rw [if_pos c_5] at h
      cases h
    · rw [if_neg c_5] at h
      by_cases c_6 : 20 ≤ a1
      · rw [if_pos c_6] at h
        cases h
      · rw [if_neg c_6] at h
        rcases ho_23 : rf a1.toNatClampNeg with _ | o_23
        · rw [ho_23, oE_none] at h
          cases h
        · rw [ho_23, oE_some] at h
          cases h
          exact (hru _ _ ho_23)
def vs_k_X6_ruleAt : List Cond := .code yX6_ruleAt cX6_ruleAt 2 (some (.object "AnswerFold$Rule")) :: ([.fieldLink RX6 45 "AnswerFold$Program" "ruleCount" "I", .fieldLink RX6 17 "AnswerFold$Program" "rules" "[LAnswerFold$Rule;"] ++ (u_ws RX6 TX6 10))
theorem iv_k_X6_ruleAt_X6 : ∀ w ∈ u_ws RX6 TX6 10, w ∈ vs_k_X6_ruleAt := (fun _ h => List.mem_cons_of_mem _ (List.mem_append_right _ (h)))
set_option maxHeartbeats 4000000 in
set_option maxRecDepth 100000 in
theorem k_X6_ruleAt (l : Launch) (D : va_G) (ty : Nat → ClassId) (td mi sz : Nat) (pp : pT) (X : Nat → Nat) (pn : Int32) (rn : Int32) (tn : Int32) (en : Int32) (rf : Nat → Option Nat) (a1 : Int32) (hok : pOK pp) (hru : ∀ (i a : Nat), rf i = some a → a ∈ pRA pp) (TT : r_k_X6_ruleAt) (hTT : TT = m_k_X6_ruleAt rn rf a1) : Met l yX6_ruleAt vs_k_X6_ruleAt { frames := 0, cells := 0, slots := 0, locals := 0 } (va_Pc [.ref (X 1), .int a1] (wq_P D ty td mi ((wW_k_X6_ruleAt ty X pn rn tn en rf) ++ pw ty pp) sz)) (wq_Qr (fun (r : Value) (u : va_W) => (r = va_rf TT ∧ (u = ((wW_k_X6_ruleAt ty X pn rn tn en rf) ++ pw ty pp)))) (wq_B D (va_A ((wW_k_X6_ruleAt ty X pn rn tn en rf) ++ pw ty pp) sz)) (va_A ((wW_k_X6_ruleAt ty X pn rn tn en rf) ++ pw ty pp) sz)) 0 0 (va_A ((wW_k_X6_ruleAt ty X pn rn tn en rf) ++ pw ty pp) sz) := by
  refine Met.ofW (cc := cX6_ruleAt) (maxL := 2) (ret := (some (.object "AnswerFold$Rule"))) (by decide) rfl ?_
  intro p e s m args below meth c s₁ B hml hv
  obtain ⟨rfl, hsz, hP, hK, hD0, hE⟩ := hv
  have hx := B.exec
  have hb := B.bytes
  have hr := B.returns
  have hts := atoms_spec (ws := vs_k_X6_ruleAt) B.pre
  have hown : s.vm.findClass RX6 = some m.cls := findClass_of_methodNamed B.named
  have hlocks := B.notSynchronized
  subst hsz
  have hD := hD0.self (sz := s.heap.size)
  generalize hAe : va_A ((wW_k_X6_ruleAt ty X pn rn tn en rf) ++ pw ty pp) s.heap.size = A at hD hE ⊢
  have hA : ∀ q : Nat, s.heap.size ≤ q → A q := fun q h => by rw [← hAe]; exact Or.inr h
  have hS : va_S A s.heap s.heap [] := va_S.rf
  have hP : va_P D vwCl ((wW_k_X6_ruleAt ty X pn rn tn en rf) ++ pw ty pp) s.heap := hP
  have hl := lv_entry ([.ref (X 1), .int a1]) (n := 2) (Nat.le_of_ble_eq_true rfl)
  rw [lg_entry_eq]
  generalize (lg_sl ([.ref (X 1), .int a1]) ++ List.replicate (2 - (lg_sl ([.ref (X 1), .int a1])).length) Slot.unset).toArray = ls at hl ⊢
  have hl : lv_has ls 2 [(0, .ref (X 1)), (1, .int a1)] := hl
  have END : ∀ (r : Option Nat), TT = r → ∀ (H : Heap) (locs : List Loc), va_P D vwCl ((wW_k_X6_ruleAt ty X pn rn tn en rf) ++ pw ty pp) H → va_D A ((wW_k_X6_ruleAt ty X pn rn tn en rf) ++ pw ty pp) → va_S A s.heap H locs → ∀ (ls : Array Slot) (pc : Nat), decode cX6_ruleAt pc = .ok (.areturn, 1) → W p l e (headSpec vs_k_X6_ruleAt { frames := 0, cells := 0, slots := 0, locals := 0 }).room s m ([.ref (X 1), .int a1] : List Value).toArray below meth c H locs 0 0 (MQ below (wq_Qr (fun (r : Value) (u : va_W) => (r = va_rf TT ∧ (u = ((wW_k_X6_ruleAt ty X pn rn tn en rf) ++ pw ty pp)))) (wq_B D A) A) ([.ref (X 1), .int a1] : List Value).toArray s 0 0 A) (F0 m pc ls [va_rf r]) := by
    intro r hT H locs hP hD hS ls pc hd
    have hM : TT = r := hT
    cases r with
    | none => exact W.aret (v := .null) hx hb hr (Or.inl ⟨_, rfl⟩) (Or.inl rfl) (fun t ht hW => ⟨⟨.null, ((wW_k_X6_ruleAt ty X pn rn tn en rf) ++ pw ty pp), rfl, ⟨(by rw [hM]; rfl), rfl⟩, wq_B.of ht hP hD⟩, hS.F ht⟩) hS.2.2 hd
    | some r => exact W.aret (v := .ref r) hx hb hr (Or.inl ⟨_, rfl⟩) (Or.inr ⟨_, rfl⟩) (fun t ht hW => ⟨⟨.ref r, ((wW_k_X6_ruleAt ty X pn rn tn en rf) ++ pw ty pp), rfl, ⟨(by rw [hM]; rfl), rfl⟩, wq_B.of ht hP hD⟩, hS.F ht⟩) hS.2.2 hd
  have hT := hTT
  rw [m_k_X6_ruleAt] at hT
  refine lv_iload_n hx hb dX6_ruleAt_0 rfl (lv_at hl 1 rfl) ?_
  refine lv_if_lt (tgt := 27) hx hb dX6_ruleAt_1 (by decide) (fun c_1 => ?_) (fun c_1 => ?_)
  · rw [if_pos c_1] at hT
    refine lv_null hx hb dX6_ruleAt_27 ?_
    exact END none hT _ _ hP hD hS _ _ dX6_ruleAt_28
  · rw [if_neg c_1] at hT
    refine lv_iload_n hx hb dX6_ruleAt_4 rfl (lv_at hl 1 rfl) ?_
    refine lv_aload_n hx hb dX6_ruleAt_5 rfl (lv_at hl 0 rfl) ?_
    refine va_get (D := D) (ci := 8) (v := .int rn) (C := RX6) (T := TX6) (N := 10) hx hb hts iv_k_X6_ruleAt_X6 hown hK hP 0 rfl rfl 3 (by decide) (hts (.fieldLink RX6 45 "AnswerFold$Program" "ruleCount" "I") (by decide +kernel)) (fun _ h9 => h9) rfl dX6_ruleAt_6 ?_
    refine lv_icmp_ge (tgt := 27) hx hb dX6_ruleAt_9 (by decide) (fun c_2 => ?_) (fun c_2 => ?_)
    · rw [if_pos c_2] at hT
      refine lv_null hx hb dX6_ruleAt_27 ?_
      exact END none hT _ _ hP hD hS _ _ dX6_ruleAt_28
    · rw [if_neg c_2] at hT
      refine lv_iload_n hx hb dX6_ruleAt_12 rfl (lv_at hl 1 rfl) ?_
      refine lv_bipush (v := 20) hx hb dX6_ruleAt_13 (by decide) ?_
      refine lv_icmp_ge (tgt := 27) hx hb dX6_ruleAt_15 (by decide) (fun c_3 => ?_) (fun c_3 => ?_)
      · rw [if_pos c_3] at hT
        refine lv_null hx hb dX6_ruleAt_27 ?_
        exact END none hT _ _ hP hD hS _ _ dX6_ruleAt_28
      · rw [if_neg c_3] at hT
        refine lv_aload_n hx hb dX6_ruleAt_18 rfl (lv_at hl 0 rfl) ?_
        refine va_get (D := D) (ci := 8) (v := .ref (X 3)) (C := RX6) (T := TX6) (N := 10) hx hb hts iv_k_X6_ruleAt_X6 hown hK hP 0 rfl rfl 2 (by decide) (hts (.fieldLink RX6 17 "AnswerFold$Program" "rules" "[LAnswerFold$Rule;") (by decide +kernel)) (fun _ h9 => h9) rfl dX6_ruleAt_19 ?_
        refine lv_iload_n hx hb dX6_ruleAt_22 rfl (lv_at hl 1 rfl) ?_
        refine va_aldq (D := D) hx hb hK hP 1 4 rfl rfl (wi_in (wi_lo c_1) (wi_hi c_3 (by decide))) dX6_ruleAt_23 ?_
        rcases ho_23 : rf a1.toNatClampNeg with _ | o_23
        · rw [ho_23, oE_none] at hT
          refine W.eq (g2 := F0 m 24 ls [.null]) rfl ?_
          refine lv_goto (tgt := 28) hx hb dX6_ruleAt_24 (by decide) ?_
          exact END none hT _ _ hP hD hS _ _ dX6_ruleAt_28
        · rw [ho_23, oE_some] at hT
          refine W.eq (g2 := F0 m 24 ls [.ref o_23]) rfl ?_
          refine lv_goto (tgt := 28) hx hb dX6_ruleAt_24 (by decide) ?_
          exact END (some o_23) hT _ _ hP hD hS _ _ dX6_ruleAt_28
theorem dX2_atomOf_0 : decode cX2_atomOf 0 = .ok (.aload_n 1, 1) := by decide +kernel
theorem dX2_atomOf_1 : decode cX2_atomOf 1 = .ok (.ifnonnull 5, 3) := by decide +kernel
theorem dX2_atomOf_4 : decode cX2_atomOf 4 = .ok (.iconst (-1), 1) := by decide +kernel
theorem dX2_atomOf_5 : decode cX2_atomOf 5 = .ok (.ireturn, 1) := by decide +kernel
theorem dX2_atomOf_6 : decode cX2_atomOf 6 = .ok (.aload_n 0, 1) := by decide +kernel
theorem dX2_atomOf_7 : decode cX2_atomOf 7 = .ok (.aload_n 1, 1) := by decide +kernel
theorem dX2_atomOf_8 : decode cX2_atomOf 8 = .ok (.getfield 24, 3) := by decide +kernel
theorem dX2_atomOf_11 : decode cX2_atomOf 11 = .ok (.aload_n 1, 1) := by decide +kernel
theorem dX2_atomOf_12 : decode cX2_atomOf 12 = .ok (.getfield 29, 3) := by decide +kernel
theorem dX2_atomOf_15 : decode cX2_atomOf 15 = .ok (.invokevirtual 32, 3) := by decide +kernel
theorem dX2_atomOf_18 : decode cX2_atomOf 18 = .ok (.istore_n 2, 1) := by decide +kernel
theorem dX2_atomOf_19 : decode cX2_atomOf 19 = .ok (.aload_n 0, 1) := by decide +kernel
theorem dX2_atomOf_20 : decode cX2_atomOf 20 = .ok (.aload_n 1, 1) := by decide +kernel
theorem dX2_atomOf_21 : decode cX2_atomOf 21 = .ok (.getfield 36, 3) := by decide +kernel
theorem dX2_atomOf_24 : decode cX2_atomOf 24 = .ok (.aload_n 1, 1) := by decide +kernel
theorem dX2_atomOf_25 : decode cX2_atomOf 25 = .ok (.getfield 39, 3) := by decide +kernel
theorem dX2_atomOf_28 : decode cX2_atomOf 28 = .ok (.invokevirtual 32, 3) := by decide +kernel
theorem dX2_atomOf_31 : decode cX2_atomOf 31 = .ok (.istore_n 3, 1) := by decide +kernel
theorem dX2_atomOf_32 : decode cX2_atomOf 32 = .ok (.iload_n 2, 1) := by decide +kernel
theorem dX2_atomOf_33 : decode cX2_atomOf 33 = .ok (.ifCond .lt 19, 3) := by decide +kernel
theorem dX2_atomOf_36 : decode cX2_atomOf 36 = .ok (.iload_n 2, 1) := by decide +kernel
theorem dX2_atomOf_37 : decode cX2_atomOf 37 = .ok (.bipush 8, 2) := by decide +kernel
theorem dX2_atomOf_39 : decode cX2_atomOf 39 = .ok (.if_icmp .ge 13, 3) := by decide +kernel
theorem dX2_atomOf_42 : decode cX2_atomOf 42 = .ok (.iload_n 3, 1) := by decide +kernel
theorem dX2_atomOf_43 : decode cX2_atomOf 43 = .ok (.ifCond .lt 9, 3) := by decide +kernel
theorem dX2_atomOf_46 : decode cX2_atomOf 46 = .ok (.iload_n 3, 1) := by decide +kernel
theorem dX2_atomOf_47 : decode cX2_atomOf 47 = .ok (.bipush 8, 2) := by decide +kernel
theorem dX2_atomOf_49 : decode cX2_atomOf 49 = .ok (.if_icmp .lt 5, 3) := by decide +kernel
theorem dX2_atomOf_52 : decode cX2_atomOf 52 = .ok (.iconst (-1), 1) := by decide +kernel
theorem dX2_atomOf_53 : decode cX2_atomOf 53 = .ok (.ireturn, 1) := by decide +kernel
theorem dX2_atomOf_54 : decode cX2_atomOf 54 = .ok (.aload_n 1, 1) := by decide +kernel
theorem dX2_atomOf_55 : decode cX2_atomOf 55 = .ok (.getfield 42, 3) := by decide +kernel
theorem dX2_atomOf_58 : decode cX2_atomOf 58 = .ok (.bipush 64, 2) := by decide +kernel
theorem dX2_atomOf_60 : decode cX2_atomOf 60 = .ok (.imul, 1) := by decide +kernel
theorem dX2_atomOf_61 : decode cX2_atomOf 61 = .ok (.iload_n 2, 1) := by decide +kernel
theorem dX2_atomOf_62 : decode cX2_atomOf 62 = .ok (.bipush 8, 2) := by decide +kernel
theorem dX2_atomOf_64 : decode cX2_atomOf 64 = .ok (.imul, 1) := by decide +kernel
theorem dX2_atomOf_65 : decode cX2_atomOf 65 = .ok (.iadd, 1) := by decide +kernel
theorem dX2_atomOf_66 : decode cX2_atomOf 66 = .ok (.iload_n 3, 1) := by decide +kernel
theorem dX2_atomOf_67 : decode cX2_atomOf 67 = .ok (.iadd, 1) := by decide +kernel
theorem dX2_atomOf_68 : decode cX2_atomOf 68 = .ok (.ireturn, 1) := by decide +kernel
def wW_k_X2_atomOf (ty : Nat → ClassId) (X : Nat → Nat) (z9_0 : Int32) (z9_1 : Int32) (z9_2 : Int32) (z9_3 : Int32) : va_W := [((X 9), .inr (4, [.int z9_0, .int z9_1, .int z9_2, .int z9_3]))]
def vs_k_X2_atomOf : List Cond := .code yX2_atomOf cX2_atomOf 4 (some .int) :: ([.methodLink RX2 32 yX2_valueOf, .instanceMethod yX2_valueOf, .selects RX2 yX2_valueOf yX2_valueOf, .initialized RX2] ++ (u_ws RX4 TX4 8 ++ (vs_k_X2_valueOf)))
theorem iv_k_X2_atomOf_X4 : ∀ w ∈ u_ws RX4 TX4 8, w ∈ vs_k_X2_atomOf := (fun _ h => List.mem_cons_of_mem _ (List.mem_append_right _ (List.mem_append_left _ h)))
set_option maxRecDepth 20000 in
theorem gv_k_X2_atomOf_0 : GoodIn vs_k_X2_atomOf (wsV RX2 32 RX2 yX2_valueOf vs_k_X2_valueOf) := goodIn_app (goodIn_sub (by decide +kernel) (by decide +kernel)) (goodIn_sub (fun _ h => List.mem_cons_of_mem _ (List.mem_append_right _ (List.mem_append_right _ (h)))) (by decide +kernel))
set_option maxRecDepth 20000 in
theorem gv_k_X2_atomOf_1 : GoodIn vs_k_X2_atomOf (wsV RX2 32 RX2 yX2_valueOf vs_k_X2_valueOf) := goodIn_app (goodIn_sub (by decide +kernel) (by decide +kernel)) (goodIn_sub (fun _ h => List.mem_cons_of_mem _ (List.mem_append_right _ (List.mem_append_right _ (h)))) (by decide +kernel))
set_option maxHeartbeats 4000000 in
set_option maxRecDepth 100000 in
theorem k_X2_atomOf (l : Launch) (D : va_G) (ty : Nat → ClassId) (td mi sz : Nat) (pp : pT) (X : Nat → Nat) (b_1 : Int32) (b_2 : Int32) (b_3 : Int32) (b_p : Int32) (a0 : Nat) (hok : pOK pp) (hm_a0 : a0 ∈ pLA pp) (TT : r_k_X2_atomOf) (hTT : TT = m_k_X2_atomOf pp b_1 b_2 b_3 b_p a0) : Met l yX2_atomOf vs_k_X2_atomOf { frames := 1, cells := 0, slots := 0, locals := 22 } (va_Pc [.ref (X 9), .ref a0] (wq_P D ty td mi ((wW_k_X2_atomOf ty X b_1 b_2 b_3 b_p) ++ pw ty pp) sz)) (va_Qi (fun (r : Int32) (u : va_W) => (r = TT ∧ (u = ((wW_k_X2_atomOf ty X b_1 b_2 b_3 b_p) ++ pw ty pp)))) (wq_B D (va_A ((wW_k_X2_atomOf ty X b_1 b_2 b_3 b_p) ++ pw ty pp) sz)) (va_A ((wW_k_X2_atomOf ty X b_1 b_2 b_3 b_p) ++ pw ty pp) sz)) 0 0 (va_A ((wW_k_X2_atomOf ty X b_1 b_2 b_3 b_p) ++ pw ty pp) sz) := by
  refine Met.ofW (cc := cX2_atomOf) (maxL := 4) (ret := (some .int)) (by decide) rfl ?_
  intro p e s m args below meth c s₁ B hml hv
  obtain ⟨rfl, hsz, hP, hK, hD0, hE⟩ := hv
  have hx := B.exec
  have hb := B.bytes
  have hr := B.returns
  have hts := atoms_spec (ws := vs_k_X2_atomOf) B.pre
  have hown : s.vm.findClass RX2 = some m.cls := findClass_of_methodNamed B.named
  have hlocks := B.notSynchronized
  subst hsz
  have hD := hD0.self (sz := s.heap.size)
  generalize hAe : va_A ((wW_k_X2_atomOf ty X b_1 b_2 b_3 b_p) ++ pw ty pp) s.heap.size = A at hD hE ⊢
  have hA : ∀ q : Nat, s.heap.size ≤ q → A q := fun q h => by rw [← hAe]; exact Or.inr h
  have hS : va_S A s.heap s.heap [] := va_S.rf
  have hP : va_P D vwCl ((wW_k_X2_atomOf ty X b_1 b_2 b_3 b_p) ++ pw ty pp) s.heap := hP
  have hl := lv_entry ([.ref (X 9), .ref a0]) (n := 4) (Nat.le_of_ble_eq_true rfl)
  rw [lg_entry_eq]
  generalize (lg_sl ([.ref (X 9), .ref a0]) ++ List.replicate (4 - (lg_sl ([.ref (X 9), .ref a0])).length) Slot.unset).toArray = ls at hl ⊢
  have hl : lv_has ls 4 [(0, .ref (X 9)), (1, .ref a0)] := hl
  have END : ∀ (r : Int32), TT = r → ∀ (H : Heap) (locs : List Loc), va_P D vwCl ((wW_k_X2_atomOf ty X b_1 b_2 b_3 b_p) ++ pw ty pp) H → va_D A ((wW_k_X2_atomOf ty X b_1 b_2 b_3 b_p) ++ pw ty pp) → va_S A s.heap H locs → ∀ (ls : Array Slot) (pc : Nat), decode cX2_atomOf pc = .ok (.ireturn, 1) → W p l e (headSpec vs_k_X2_atomOf { frames := 1, cells := 0, slots := 0, locals := 22 }).room s m ([.ref (X 9), .ref a0] : List Value).toArray below meth c H locs 0 0 (MQ below (va_Qi (fun (r : Int32) (u : va_W) => (r = TT ∧ (u = ((wW_k_X2_atomOf ty X b_1 b_2 b_3 b_p) ++ pw ty pp)))) (wq_B D A) A) ([.ref (X 9), .ref a0] : List Value).toArray s 0 0 A) (F0 m pc ls [.int r]) := by
    intro r hT H locs hP hD hS ls pc hd
    have hM : TT = r := hT
    exact W.iret (v := r) hx hb hr (fun t ht hW => ⟨⟨r, ((wW_k_X2_atomOf ty X b_1 b_2 b_3 b_p) ++ pw ty pp), rfl, ⟨(by rw [hM]), rfl⟩, wq_B.of ht hP hD⟩, hS.F ht⟩) hS.2.2 hd
  have hT := hTT
  rw [m_k_X2_atomOf] at hT
  refine lv_aload_n hx hb dX2_atomOf_0 rfl (lv_at hl 1 rfl) ?_
  refine lv_ifnonnull (tgt := 6) hx hb dX2_atomOf_1 (by decide) ?_
  refine lv_aload_n hx hb dX2_atomOf_6 rfl (lv_at hl 0 rfl) ?_
  refine lv_aload_n hx hb dX2_atomOf_7 rfl (lv_at hl 1 rfl) ?_
  obtain ⟨k_1, hk_1⟩ := List.getElem?_of_mem (pw_lit (ty := ty) (p := pp) (L := [((X 9), .inr (4, [.int b_1, .int b_2, .int b_3, .int b_p]))]) hm_a0)
  refine va_getN (D := D) (ci := 6) (v := .int (pI pp a0 3)) (C := RX4) (T := TX4) (N := 8) hx hb hts iv_k_X2_atomOf_X4 hown hK hP k_1 hk_1 rfl 3 (by decide) (hE.at (.fieldLinkNest "AnswerFold$Binding" 24 "AnswerFold$Literal" "firstSlot" "I" "AnswerFold") (by decide +kernel)) (fun _ h9 => h9) rfl dX2_atomOf_8 ?_
  refine lv_aload_n hx hb dX2_atomOf_11 rfl (lv_at hl 1 rfl) ?_
  obtain ⟨k_2, hk_2⟩ := List.getElem?_of_mem (pw_lit (ty := ty) (p := pp) (L := [((X 9), .inr (4, [.int b_1, .int b_2, .int b_3, .int b_p]))]) hm_a0)
  refine va_getN (D := D) (ci := 6) (v := .int (pI pp a0 4)) (C := RX4) (T := TX4) (N := 8) hx hb hts iv_k_X2_atomOf_X4 hown hK hP k_2 hk_2 rfl 4 (by decide) (hE.at (.fieldLinkNest "AnswerFold$Binding" 29 "AnswerFold$Literal" "firstShift" "I" "AnswerFold") (by decide +kernel)) (fun _ h9 => h9) rfl dX2_atomOf_12 ?_
  obtain ⟨t_15, ht_15⟩ : ∃ t, t = m_k_X2_valueOf b_1 b_2 b_3 b_p (pI pp a0 3) (pI pp a0 4) := ⟨_, rfl⟩
  rw [lE_eq ht_15] at hT
  refine wq_iQW (wc := (wW_k_X2_valueOf ty X b_1 b_2 b_3 b_p)) (pl := pw ty pp) (va_runV (As := [.int (pI pp a0 3), .int (pI pp a0 4)]) (rest := []) ⟨hx, hb, hml, hown, hts⟩ (k_X2_valueOf l D ty td mi s.heap.size X b_1 b_2 b_3 b_p (pI pp a0 3) (pI pp a0 4) t_15 ht_15) (cwV 2 hts gv_k_X2_atomOf_0 rfl rfl rfl (by decide +kernel) ⟨(Nat.le_of_ble_eq_true rfl), (Nat.le_of_ble_eq_true rfl)⟩) (wm_V (wm_preS (vP_left hP) (vD_left hD) hK hE hS hA [true] rfl) (va_recv (q0 := 0) (ci := 4) hK hP rfl rfl)) rfl rfl hl.1 rfl (lv_room (Nat.le_of_ble_eq_true rfl)) dX2_atomOf_15 ⟨(Nat.le_of_ble_eq_true rfl), (Nat.le_of_ble_eq_true rfl)⟩) hS hA hP hD [true] rfl (fun _ _ h => by rcases h with ⟨-, rfl⟩; rfl) (fun r u H locs hw hP hD hS => ?_)
  obtain ⟨hr0, rfl⟩ := hw
  subst r
  have hP : va_P D vwCl ((wW_k_X2_atomOf ty X b_1 b_2 b_3 b_p) ++ pw ty pp) H := hP
  have hD : va_D A ((wW_k_X2_atomOf ty X b_1 b_2 b_3 b_p) ++ pw ty pp) := hD
  refine W.widen (k := 0) (n := 0) (Nat.le_of_ble_eq_true rfl) (Nat.le_of_ble_eq_true rfl) ?_
  refine lv_istore_n (lv' := [(2, .int t_15), (0, .ref (X 9)), (1, .ref a0)]) hx hb dX2_atomOf_18 rfl hl (by decide) rfl (fun ls hl => ?_)
  refine lv_aload_n hx hb dX2_atomOf_19 rfl (lv_at hl 1 rfl) ?_
  refine lv_aload_n hx hb dX2_atomOf_20 rfl (lv_at hl 2 rfl) ?_
  obtain ⟨k_5, hk_5⟩ := List.getElem?_of_mem (pw_lit (ty := ty) (p := pp) (L := [((X 9), .inr (4, [.int b_1, .int b_2, .int b_3, .int b_p]))]) hm_a0)
  refine va_getN (D := D) (ci := 6) (v := .int (pI pp a0 5)) (C := RX4) (T := TX4) (N := 8) hx hb hts iv_k_X2_atomOf_X4 hown hK hP k_5 hk_5 rfl 5 (by decide) (hE.at (.fieldLinkNest "AnswerFold$Binding" 36 "AnswerFold$Literal" "secondSlot" "I" "AnswerFold") (by decide +kernel)) (fun _ h9 => h9) rfl dX2_atomOf_21 ?_
  refine lv_aload_n hx hb dX2_atomOf_24 rfl (lv_at hl 2 rfl) ?_
  obtain ⟨k_6, hk_6⟩ := List.getElem?_of_mem (pw_lit (ty := ty) (p := pp) (L := [((X 9), .inr (4, [.int b_1, .int b_2, .int b_3, .int b_p]))]) hm_a0)
  refine va_getN (D := D) (ci := 6) (v := .int (pI pp a0 6)) (C := RX4) (T := TX4) (N := 8) hx hb hts iv_k_X2_atomOf_X4 hown hK hP k_6 hk_6 rfl 6 (by decide) (hE.at (.fieldLinkNest "AnswerFold$Binding" 39 "AnswerFold$Literal" "secondShift" "I" "AnswerFold") (by decide +kernel)) (fun _ h9 => h9) rfl dX2_atomOf_25 ?_
  obtain ⟨t_28, ht_28⟩ : ∃ t, t = m_k_X2_valueOf b_1 b_2 b_3 b_p (pI pp a0 5) (pI pp a0 6) := ⟨_, rfl⟩
  rw [lE_eq ht_28] at hT
  refine wq_iQW (wc := (wW_k_X2_valueOf ty X b_1 b_2 b_3 b_p)) (pl := pw ty pp) (va_runV (As := [.int (pI pp a0 5), .int (pI pp a0 6)]) (rest := []) ⟨hx, hb, hml, hown, hts⟩ (k_X2_valueOf l D ty td mi H.size X b_1 b_2 b_3 b_p (pI pp a0 5) (pI pp a0 6) t_28 ht_28) (cwV 2 hts gv_k_X2_atomOf_1 rfl rfl rfl (by decide +kernel) ⟨(Nat.le_of_ble_eq_true rfl), (Nat.le_of_ble_eq_true rfl)⟩) (wm_V (wm_preS (vP_left hP) (vD_left hD) hK hE hS hA [true] rfl) (va_recv (q0 := 0) (ci := 4) hK hP rfl rfl)) rfl rfl hl.1 rfl (lv_room (Nat.le_of_ble_eq_true rfl)) dX2_atomOf_28 ⟨(Nat.le_of_ble_eq_true rfl), (Nat.le_of_ble_eq_true rfl)⟩) hS hA hP hD [true] rfl (fun _ _ h => by rcases h with ⟨-, rfl⟩; rfl) (fun r u H locs hw hP hD hS => ?_)
  obtain ⟨hr0, rfl⟩ := hw
  subst r
  have hP : va_P D vwCl ((wW_k_X2_atomOf ty X b_1 b_2 b_3 b_p) ++ pw ty pp) H := hP
  have hD : va_D A ((wW_k_X2_atomOf ty X b_1 b_2 b_3 b_p) ++ pw ty pp) := hD
  refine W.widen (k := 0) (n := 0) (Nat.le_of_ble_eq_true rfl) (Nat.le_of_ble_eq_true rfl) ?_
  refine lv_istore_n (lv' := [(3, .int t_28), (2, .int t_15), (0, .ref (X 9)), (1, .ref a0)]) hx hb dX2_atomOf_31 rfl hl (by decide) rfl (fun ls hl => ?_)
  refine lv_iload_n hx hb dX2_atomOf_32 rfl (lv_at hl 1 rfl) ?_
  refine lv_if_lt (tgt := 52) hx hb dX2_atomOf_33 (by decide) (fun c_9 => ?_) (fun c_9 => ?_)
  · rw [if_pos c_9] at hT
    refine lv_iconst (v := (-1)) hx hb dX2_atomOf_52 (by decide) ?_
    exact END (-1) hT _ _ hP hD hS _ _ dX2_atomOf_53
  · rw [if_neg c_9] at hT
    refine lv_iload_n hx hb dX2_atomOf_36 rfl (lv_at hl 1 rfl) ?_
    refine lv_bipush (v := 8) hx hb dX2_atomOf_37 (by decide) ?_
    refine lv_icmp_ge (tgt := 52) hx hb dX2_atomOf_39 (by decide) (fun c_10 => ?_) (fun c_10 => ?_)
    · rw [if_pos c_10] at hT
      refine lv_iconst (v := (-1)) hx hb dX2_atomOf_52 (by decide) ?_
      exact END (-1) hT _ _ hP hD hS _ _ dX2_atomOf_53
    · rw [if_neg c_10] at hT
      refine lv_iload_n hx hb dX2_atomOf_42 rfl (lv_at hl 0 rfl) ?_
      refine lv_if_lt (tgt := 52) hx hb dX2_atomOf_43 (by decide) (fun c_11 => ?_) (fun c_11 => ?_)
      · rw [if_pos c_11] at hT
        refine lv_iconst (v := (-1)) hx hb dX2_atomOf_52 (by decide) ?_
        exact END (-1) hT _ _ hP hD hS _ _ dX2_atomOf_53
      · rw [if_neg c_11] at hT
        refine lv_iload_n hx hb dX2_atomOf_46 rfl (lv_at hl 0 rfl) ?_
        refine lv_bipush (v := 8) hx hb dX2_atomOf_47 (by decide) ?_
        refine lv_icmp_lt (tgt := 54) hx hb dX2_atomOf_49 (by decide) (fun c_12 => ?_) (fun c_12 => ?_)
        · rw [if_pos c_12] at hT
          refine lv_aload_n hx hb dX2_atomOf_54 rfl (lv_at hl 3 rfl) ?_
          obtain ⟨k_13, hk_13⟩ := List.getElem?_of_mem (pw_lit (ty := ty) (p := pp) (L := [((X 9), .inr (4, [.int b_1, .int b_2, .int b_3, .int b_p]))]) hm_a0)
          refine va_getN (D := D) (ci := 6) (v := .int (pI pp a0 1)) (C := RX4) (T := TX4) (N := 8) hx hb hts iv_k_X2_atomOf_X4 hown hK hP k_13 hk_13 rfl 1 (by decide) (hE.at (.fieldLinkNest "AnswerFold$Binding" 42 "AnswerFold$Literal" "predicate" "I" "AnswerFold") (by decide +kernel)) (fun _ h9 => h9) rfl dX2_atomOf_55 ?_
          refine lv_bipush (v := 64) hx hb dX2_atomOf_58 (by decide) ?_
          refine lv_imul hx hb dX2_atomOf_60 ?_
          refine lv_iload_n hx hb dX2_atomOf_61 rfl (lv_at hl 1 rfl) ?_
          refine lv_bipush (v := 8) hx hb dX2_atomOf_62 (by decide) ?_
          refine lv_imul hx hb dX2_atomOf_64 ?_
          refine lv_iadd hx hb dX2_atomOf_65 ?_
          refine lv_iload_n hx hb dX2_atomOf_66 rfl (lv_at hl 0 rfl) ?_
          refine lv_iadd hx hb dX2_atomOf_67 ?_
          exact END ((((pI pp a0 1) * 64) + (t_15 * 8)) + t_28) hT _ _ hP hD hS _ _ dX2_atomOf_68
        · rw [if_neg c_12] at hT
          refine lv_iconst (v := (-1)) hx hb dX2_atomOf_52 (by decide) ?_
          exact END (-1) hT _ _ hP hD hS _ _ dX2_atomOf_53
def vs_k_X2_atomOf_z : List Cond := .code yX2_atomOf cX2_atomOf 4 (some .int) :: ([])
set_option maxHeartbeats 4000000 in
set_option maxRecDepth 100000 in
theorem k_X2_atomOf_z (l : Launch) (D : va_G) (ty : Nat → ClassId) (td mi sz : Nat) (X : Nat → Nat) (TT : r_k_X2_atomOf_z) (hTT : TT = m_k_X2_atomOf_z) : Met l yX2_atomOf vs_k_X2_atomOf_z { frames := 0, cells := 0, slots := 0, locals := 0 } (va_Pc [.ref (X 9), .null] (wq_P D ty td mi [] sz)) (va_Qi (fun (r : Int32) (u : va_W) => (r = TT ∧ (u = []))) (wq_B D (va_A [] sz)) (va_A [] sz)) 0 0 (va_A [] sz) := by
  refine Met.ofW (cc := cX2_atomOf) (maxL := 4) (ret := (some .int)) (by decide) rfl ?_
  intro p e s m args below meth c s₁ B hml hv
  obtain ⟨rfl, hsz, hP, hK, hD0, hE⟩ := hv
  have hx := B.exec
  have hb := B.bytes
  have hr := B.returns
  have hts := atoms_spec (ws := vs_k_X2_atomOf_z) B.pre
  have hown : s.vm.findClass RX2 = some m.cls := findClass_of_methodNamed B.named
  have hlocks := B.notSynchronized
  subst hsz
  have hD := hD0.self (sz := s.heap.size)
  generalize hAe : va_A [] s.heap.size = A at hD hE ⊢
  have hA : ∀ q : Nat, s.heap.size ≤ q → A q := fun q h => by rw [← hAe]; exact Or.inr h
  have hS : va_S A s.heap s.heap [] := va_S.rf
  have hP : va_P D vwCl [] s.heap := hP
  have hl := lv_entry ([.ref (X 9), .null]) (n := 4) (Nat.le_of_ble_eq_true rfl)
  rw [lg_entry_eq]
  generalize (lg_sl ([.ref (X 9), .null]) ++ List.replicate (4 - (lg_sl ([.ref (X 9), .null])).length) Slot.unset).toArray = ls at hl ⊢
  have hl : lv_has ls 4 [(0, .ref (X 9)), (1, .null)] := hl
  have END : ∀ (r : Int32), TT = r → ∀ (H : Heap) (locs : List Loc), va_P D vwCl [] H → va_D A [] → va_S A s.heap H locs → ∀ (ls : Array Slot) (pc : Nat), decode cX2_atomOf pc = .ok (.ireturn, 1) → W p l e (headSpec vs_k_X2_atomOf_z { frames := 0, cells := 0, slots := 0, locals := 0 }).room s m ([.ref (X 9), .null] : List Value).toArray below meth c H locs 0 0 (MQ below (va_Qi (fun (r : Int32) (u : va_W) => (r = TT ∧ (u = []))) (wq_B D A) A) ([.ref (X 9), .null] : List Value).toArray s 0 0 A) (F0 m pc ls [.int r]) := by
    intro r hT H locs hP hD hS ls pc hd
    have hM : TT = r := hT
    exact W.iret (v := r) hx hb hr (fun t ht hW => ⟨⟨r, [], rfl, ⟨(by rw [hM]), rfl⟩, wq_B.of ht hP hD⟩, hS.F ht⟩) hS.2.2 hd
  have hT := hTT
  rw [m_k_X2_atomOf_z] at hT
  refine lv_aload_nN hx hb dX2_atomOf_0 rfl (lv_at hl 1 rfl) ?_
  refine lv_ifnonnullN hx hb dX2_atomOf_1 ?_
  refine lv_iconst (v := (-1)) hx hb dX2_atomOf_4 (by decide) ?_
  exact END (-1) hT _ _ hP hD hS _ _ dX2_atomOf_5
theorem dX2_testHolds_0 : decode cX2_testHolds 0 = .ok (.aload_n 0, 1) := by decide +kernel
theorem dX2_testHolds_1 : decode cX2_testHolds 1 = .ok (.aload_n 1, 1) := by decide +kernel
theorem dX2_testHolds_2 : decode cX2_testHolds 2 = .ok (.getfield 24, 3) := by decide +kernel
theorem dX2_testHolds_5 : decode cX2_testHolds 5 = .ok (.aload_n 1, 1) := by decide +kernel
theorem dX2_testHolds_6 : decode cX2_testHolds 6 = .ok (.getfield 29, 3) := by decide +kernel
theorem dX2_testHolds_9 : decode cX2_testHolds 9 = .ok (.invokevirtual 32, 3) := by decide +kernel
theorem dX2_testHolds_12 : decode cX2_testHolds 12 = .ok (.istore_n 2, 1) := by decide +kernel
theorem dX2_testHolds_13 : decode cX2_testHolds 13 = .ok (.aload_n 0, 1) := by decide +kernel
theorem dX2_testHolds_14 : decode cX2_testHolds 14 = .ok (.aload_n 1, 1) := by decide +kernel
theorem dX2_testHolds_15 : decode cX2_testHolds 15 = .ok (.getfield 36, 3) := by decide +kernel
theorem dX2_testHolds_18 : decode cX2_testHolds 18 = .ok (.aload_n 1, 1) := by decide +kernel
theorem dX2_testHolds_19 : decode cX2_testHolds 19 = .ok (.getfield 39, 3) := by decide +kernel
theorem dX2_testHolds_22 : decode cX2_testHolds 22 = .ok (.invokevirtual 32, 3) := by decide +kernel
theorem dX2_testHolds_25 : decode cX2_testHolds 25 = .ok (.istore_n 3, 1) := by decide +kernel
theorem dX2_testHolds_26 : decode cX2_testHolds 26 = .ok (.aload_n 1, 1) := by decide +kernel
theorem dX2_testHolds_27 : decode cX2_testHolds 27 = .ok (.getfield 45, 3) := by decide +kernel
theorem dX2_testHolds_30 : decode cX2_testHolds 30 = .ok (.bipush 60, 2) := by decide +kernel
theorem dX2_testHolds_32 : decode cX2_testHolds 32 = .ok (.if_icmp .ne 14, 3) := by decide +kernel
theorem dX2_testHolds_35 : decode cX2_testHolds 35 = .ok (.iload_n 2, 1) := by decide +kernel
theorem dX2_testHolds_36 : decode cX2_testHolds 36 = .ok (.iload_n 3, 1) := by decide +kernel
theorem dX2_testHolds_37 : decode cX2_testHolds 37 = .ok (.if_icmp .ge 7, 3) := by decide +kernel
theorem dX2_testHolds_40 : decode cX2_testHolds 40 = .ok (.iconst 1, 1) := by decide +kernel
theorem dX2_testHolds_41 : decode cX2_testHolds 41 = .ok (.goto 4, 3) := by decide +kernel
theorem dX2_testHolds_44 : decode cX2_testHolds 44 = .ok (.iconst 0, 1) := by decide +kernel
theorem dX2_testHolds_45 : decode cX2_testHolds 45 = .ok (.ireturn, 1) := by decide +kernel
theorem dX2_testHolds_46 : decode cX2_testHolds 46 = .ok (.aload_n 1, 1) := by decide +kernel
theorem dX2_testHolds_47 : decode cX2_testHolds 47 = .ok (.getfield 45, 3) := by decide +kernel
theorem dX2_testHolds_50 : decode cX2_testHolds 50 = .ok (.bipush 61, 2) := by decide +kernel
theorem dX2_testHolds_52 : decode cX2_testHolds 52 = .ok (.if_icmp .ne 14, 3) := by decide +kernel
theorem dX2_testHolds_55 : decode cX2_testHolds 55 = .ok (.iload_n 2, 1) := by decide +kernel
theorem dX2_testHolds_56 : decode cX2_testHolds 56 = .ok (.iload_n 3, 1) := by decide +kernel
theorem dX2_testHolds_57 : decode cX2_testHolds 57 = .ok (.if_icmp .ne 7, 3) := by decide +kernel
theorem dX2_testHolds_60 : decode cX2_testHolds 60 = .ok (.iconst 1, 1) := by decide +kernel
theorem dX2_testHolds_61 : decode cX2_testHolds 61 = .ok (.goto 4, 3) := by decide +kernel
theorem dX2_testHolds_64 : decode cX2_testHolds 64 = .ok (.iconst 0, 1) := by decide +kernel
theorem dX2_testHolds_65 : decode cX2_testHolds 65 = .ok (.ireturn, 1) := by decide +kernel
theorem dX2_testHolds_66 : decode cX2_testHolds 66 = .ok (.aload_n 1, 1) := by decide +kernel
theorem dX2_testHolds_67 : decode cX2_testHolds 67 = .ok (.getfield 45, 3) := by decide +kernel
theorem dX2_testHolds_70 : decode cX2_testHolds 70 = .ok (.bipush 33, 2) := by decide +kernel
theorem dX2_testHolds_72 : decode cX2_testHolds 72 = .ok (.if_icmp .ne 8, 3) := by decide +kernel
theorem dX2_testHolds_75 : decode cX2_testHolds 75 = .ok (.iload_n 2, 1) := by decide +kernel
theorem dX2_testHolds_76 : decode cX2_testHolds 76 = .ok (.iload_n 3, 1) := by decide +kernel
theorem dX2_testHolds_77 : decode cX2_testHolds 77 = .ok (.if_icmp .eq 7, 3) := by decide +kernel
theorem dX2_testHolds_80 : decode cX2_testHolds 80 = .ok (.iconst 1, 1) := by decide +kernel
theorem dX2_testHolds_81 : decode cX2_testHolds 81 = .ok (.goto 4, 3) := by decide +kernel
theorem dX2_testHolds_84 : decode cX2_testHolds 84 = .ok (.iconst 0, 1) := by decide +kernel
theorem dX2_testHolds_85 : decode cX2_testHolds 85 = .ok (.ireturn, 1) := by decide +kernel
def wW_k_X2_testHolds (ty : Nat → ClassId) (X : Nat → Nat) (z9_0 : Int32) (z9_1 : Int32) (z9_2 : Int32) (z9_3 : Int32) : va_W := [((X 9), .inr (4, [.int z9_0, .int z9_1, .int z9_2, .int z9_3]))]
def vs_k_X2_testHolds : List Cond := .code yX2_testHolds cX2_testHolds 4 (some .boolean) :: ([.methodLink RX2 32 yX2_valueOf, .instanceMethod yX2_valueOf, .selects RX2 yX2_valueOf yX2_valueOf, .initialized RX2] ++ (u_ws RX4 TX4 8 ++ (vs_k_X2_valueOf)))
theorem iv_k_X2_testHolds_X4 : ∀ w ∈ u_ws RX4 TX4 8, w ∈ vs_k_X2_testHolds := (fun _ h => List.mem_cons_of_mem _ (List.mem_append_right _ (List.mem_append_left _ h)))
set_option maxRecDepth 20000 in
theorem gv_k_X2_testHolds_0 : GoodIn vs_k_X2_testHolds (wsV RX2 32 RX2 yX2_valueOf vs_k_X2_valueOf) := goodIn_app (goodIn_sub (by decide +kernel) (by decide +kernel)) (goodIn_sub (fun _ h => List.mem_cons_of_mem _ (List.mem_append_right _ (List.mem_append_right _ (h)))) (by decide +kernel))
set_option maxRecDepth 20000 in
theorem gv_k_X2_testHolds_1 : GoodIn vs_k_X2_testHolds (wsV RX2 32 RX2 yX2_valueOf vs_k_X2_valueOf) := goodIn_app (goodIn_sub (by decide +kernel) (by decide +kernel)) (goodIn_sub (fun _ h => List.mem_cons_of_mem _ (List.mem_append_right _ (List.mem_append_right _ (h)))) (by decide +kernel))
set_option maxHeartbeats 4000000 in
set_option maxRecDepth 100000 in
theorem k_X2_testHolds (l : Launch) (D : va_G) (ty : Nat → ClassId) (td mi sz : Nat) (pp : pT) (X : Nat → Nat) (b_1 : Int32) (b_2 : Int32) (b_3 : Int32) (b_p : Int32) (a0 : Nat) (hok : pOK pp) (hm_a0 : a0 ∈ pLA pp) (TT : r_k_X2_testHolds) (hTT : TT = m_k_X2_testHolds pp b_1 b_2 b_3 b_p a0) : Met l yX2_testHolds vs_k_X2_testHolds { frames := 1, cells := 0, slots := 0, locals := 22 } (va_Pc [.ref (X 9), .ref a0] (wq_P D ty td mi ((wW_k_X2_testHolds ty X b_1 b_2 b_3 b_p) ++ pw ty pp) sz)) (va_Qi (fun (r : Int32) (u : va_W) => (r = TT ∧ (TT = 0 ∨ TT = 1) ∧ (u = ((wW_k_X2_testHolds ty X b_1 b_2 b_3 b_p) ++ pw ty pp)))) (wq_B D (va_A ((wW_k_X2_testHolds ty X b_1 b_2 b_3 b_p) ++ pw ty pp) sz)) (va_A ((wW_k_X2_testHolds ty X b_1 b_2 b_3 b_p) ++ pw ty pp) sz)) 0 0 (va_A ((wW_k_X2_testHolds ty X b_1 b_2 b_3 b_p) ++ pw ty pp) sz) := by
  refine Met.ofW (cc := cX2_testHolds) (maxL := 4) (ret := (some .boolean)) (by decide) rfl ?_
  intro p e s m args below meth c s₁ B hml hv
  obtain ⟨rfl, hsz, hP, hK, hD0, hE⟩ := hv
  have hx := B.exec
  have hb := B.bytes
  have hr := B.returns
  have hts := atoms_spec (ws := vs_k_X2_testHolds) B.pre
  have hown : s.vm.findClass RX2 = some m.cls := findClass_of_methodNamed B.named
  have hlocks := B.notSynchronized
  subst hsz
  have hD := hD0.self (sz := s.heap.size)
  generalize hAe : va_A ((wW_k_X2_testHolds ty X b_1 b_2 b_3 b_p) ++ pw ty pp) s.heap.size = A at hD hE ⊢
  have hA : ∀ q : Nat, s.heap.size ≤ q → A q := fun q h => by rw [← hAe]; exact Or.inr h
  have hS : va_S A s.heap s.heap [] := va_S.rf
  have hP : va_P D vwCl ((wW_k_X2_testHolds ty X b_1 b_2 b_3 b_p) ++ pw ty pp) s.heap := hP
  have hl := lv_entry ([.ref (X 9), .ref a0]) (n := 4) (Nat.le_of_ble_eq_true rfl)
  rw [lg_entry_eq]
  generalize (lg_sl ([.ref (X 9), .ref a0]) ++ List.replicate (4 - (lg_sl ([.ref (X 9), .ref a0])).length) Slot.unset).toArray = ls at hl ⊢
  have hl : lv_has ls 4 [(0, .ref (X 9)), (1, .ref a0)] := hl
  have END : ∀ (r : Int32), TT = r → (r = 0 ∨ r = 1) → ∀ (H : Heap) (locs : List Loc), va_P D vwCl ((wW_k_X2_testHolds ty X b_1 b_2 b_3 b_p) ++ pw ty pp) H → va_D A ((wW_k_X2_testHolds ty X b_1 b_2 b_3 b_p) ++ pw ty pp) → va_S A s.heap H locs → ∀ (ls : Array Slot) (pc : Nat), decode cX2_testHolds pc = .ok (.ireturn, 1) → W p l e (headSpec vs_k_X2_testHolds { frames := 1, cells := 0, slots := 0, locals := 22 }).room s m ([.ref (X 9), .ref a0] : List Value).toArray below meth c H locs 0 0 (MQ below (va_Qi (fun (r : Int32) (u : va_W) => (r = TT ∧ (TT = 0 ∨ TT = 1) ∧ (u = ((wW_k_X2_testHolds ty X b_1 b_2 b_3 b_p) ++ pw ty pp)))) (wq_B D A) A) ([.ref (X 9), .ref a0] : List Value).toArray s 0 0 A) (F0 m pc ls [.int r]) := by
    intro r hT hb01 H locs hP hD hS ls pc hd
    have hM : TT = r := hT
    exact W.zret (v := r) hx hb hr (wz_nar hb01) (fun t ht hW => ⟨⟨r, ((wW_k_X2_testHolds ty X b_1 b_2 b_3 b_p) ++ pw ty pp), rfl, ⟨(by rw [hM]), (by rw [hM]; exact hb01), rfl⟩, wq_B.of ht hP hD⟩, hS.F ht⟩) hS.2.2 hd
  have hT := hTT
  rw [m_k_X2_testHolds] at hT
  refine lv_aload_n hx hb dX2_testHolds_0 rfl (lv_at hl 0 rfl) ?_
  refine lv_aload_n hx hb dX2_testHolds_1 rfl (lv_at hl 1 rfl) ?_
  obtain ⟨k_1, hk_1⟩ := List.getElem?_of_mem (pw_lit (ty := ty) (p := pp) (L := [((X 9), .inr (4, [.int b_1, .int b_2, .int b_3, .int b_p]))]) hm_a0)
  refine va_getN (D := D) (ci := 6) (v := .int (pI pp a0 3)) (C := RX4) (T := TX4) (N := 8) hx hb hts iv_k_X2_testHolds_X4 hown hK hP k_1 hk_1 rfl 3 (by decide) (hE.at (.fieldLinkNest "AnswerFold$Binding" 24 "AnswerFold$Literal" "firstSlot" "I" "AnswerFold") (by decide +kernel)) (fun _ h9 => h9) rfl dX2_testHolds_2 ?_
  refine lv_aload_n hx hb dX2_testHolds_5 rfl (lv_at hl 1 rfl) ?_
  obtain ⟨k_2, hk_2⟩ := List.getElem?_of_mem (pw_lit (ty := ty) (p := pp) (L := [((X 9), .inr (4, [.int b_1, .int b_2, .int b_3, .int b_p]))]) hm_a0)
  refine va_getN (D := D) (ci := 6) (v := .int (pI pp a0 4)) (C := RX4) (T := TX4) (N := 8) hx hb hts iv_k_X2_testHolds_X4 hown hK hP k_2 hk_2 rfl 4 (by decide) (hE.at (.fieldLinkNest "AnswerFold$Binding" 29 "AnswerFold$Literal" "firstShift" "I" "AnswerFold") (by decide +kernel)) (fun _ h9 => h9) rfl dX2_testHolds_6 ?_
  obtain ⟨t_9, ht_9⟩ : ∃ t, t = m_k_X2_valueOf b_1 b_2 b_3 b_p (pI pp a0 3) (pI pp a0 4) := ⟨_, rfl⟩
  rw [lE_eq ht_9] at hT
  refine wq_iQW (wc := (wW_k_X2_valueOf ty X b_1 b_2 b_3 b_p)) (pl := pw ty pp) (va_runV (As := [.int (pI pp a0 3), .int (pI pp a0 4)]) (rest := []) ⟨hx, hb, hml, hown, hts⟩ (k_X2_valueOf l D ty td mi s.heap.size X b_1 b_2 b_3 b_p (pI pp a0 3) (pI pp a0 4) t_9 ht_9) (cwV 2 hts gv_k_X2_testHolds_0 rfl rfl rfl (by decide +kernel) ⟨(Nat.le_of_ble_eq_true rfl), (Nat.le_of_ble_eq_true rfl)⟩) (wm_V (wm_preS (vP_left hP) (vD_left hD) hK hE hS hA [true] rfl) (va_recv (q0 := 0) (ci := 4) hK hP rfl rfl)) rfl rfl hl.1 rfl (lv_room (Nat.le_of_ble_eq_true rfl)) dX2_testHolds_9 ⟨(Nat.le_of_ble_eq_true rfl), (Nat.le_of_ble_eq_true rfl)⟩) hS hA hP hD [true] rfl (fun _ _ h => by rcases h with ⟨-, rfl⟩; rfl) (fun r u H locs hw hP hD hS => ?_)
  obtain ⟨hr0, rfl⟩ := hw
  subst r
  have hP : va_P D vwCl ((wW_k_X2_testHolds ty X b_1 b_2 b_3 b_p) ++ pw ty pp) H := hP
  have hD : va_D A ((wW_k_X2_testHolds ty X b_1 b_2 b_3 b_p) ++ pw ty pp) := hD
  refine W.widen (k := 0) (n := 0) (Nat.le_of_ble_eq_true rfl) (Nat.le_of_ble_eq_true rfl) ?_
  refine lv_istore_n (lv' := [(2, .int t_9), (0, .ref (X 9)), (1, .ref a0)]) hx hb dX2_testHolds_12 rfl hl (by decide) rfl (fun ls hl => ?_)
  refine lv_aload_n hx hb dX2_testHolds_13 rfl (lv_at hl 1 rfl) ?_
  refine lv_aload_n hx hb dX2_testHolds_14 rfl (lv_at hl 2 rfl) ?_
  obtain ⟨k_5, hk_5⟩ := List.getElem?_of_mem (pw_lit (ty := ty) (p := pp) (L := [((X 9), .inr (4, [.int b_1, .int b_2, .int b_3, .int b_p]))]) hm_a0)
  refine va_getN (D := D) (ci := 6) (v := .int (pI pp a0 5)) (C := RX4) (T := TX4) (N := 8) hx hb hts iv_k_X2_testHolds_X4 hown hK hP k_5 hk_5 rfl 5 (by decide) (hE.at (.fieldLinkNest "AnswerFold$Binding" 36 "AnswerFold$Literal" "secondSlot" "I" "AnswerFold") (by decide +kernel)) (fun _ h9 => h9) rfl dX2_testHolds_15 ?_
  refine lv_aload_n hx hb dX2_testHolds_18 rfl (lv_at hl 2 rfl) ?_
  obtain ⟨k_6, hk_6⟩ := List.getElem?_of_mem (pw_lit (ty := ty) (p := pp) (L := [((X 9), .inr (4, [.int b_1, .int b_2, .int b_3, .int b_p]))]) hm_a0)
  refine va_getN (D := D) (ci := 6) (v := .int (pI pp a0 6)) (C := RX4) (T := TX4) (N := 8) hx hb hts iv_k_X2_testHolds_X4 hown hK hP k_6 hk_6 rfl 6 (by decide) (hE.at (.fieldLinkNest "AnswerFold$Binding" 39 "AnswerFold$Literal" "secondShift" "I" "AnswerFold") (by decide +kernel)) (fun _ h9 => h9) rfl dX2_testHolds_19 ?_
  obtain ⟨t_22, ht_22⟩ : ∃ t, t = m_k_X2_valueOf b_1 b_2 b_3 b_p (pI pp a0 5) (pI pp a0 6) := ⟨_, rfl⟩
  rw [lE_eq ht_22] at hT
  refine wq_iQW (wc := (wW_k_X2_valueOf ty X b_1 b_2 b_3 b_p)) (pl := pw ty pp) (va_runV (As := [.int (pI pp a0 5), .int (pI pp a0 6)]) (rest := []) ⟨hx, hb, hml, hown, hts⟩ (k_X2_valueOf l D ty td mi H.size X b_1 b_2 b_3 b_p (pI pp a0 5) (pI pp a0 6) t_22 ht_22) (cwV 2 hts gv_k_X2_testHolds_1 rfl rfl rfl (by decide +kernel) ⟨(Nat.le_of_ble_eq_true rfl), (Nat.le_of_ble_eq_true rfl)⟩) (wm_V (wm_preS (vP_left hP) (vD_left hD) hK hE hS hA [true] rfl) (va_recv (q0 := 0) (ci := 4) hK hP rfl rfl)) rfl rfl hl.1 rfl (lv_room (Nat.le_of_ble_eq_true rfl)) dX2_testHolds_22 ⟨(Nat.le_of_ble_eq_true rfl), (Nat.le_of_ble_eq_true rfl)⟩) hS hA hP hD [true] rfl (fun _ _ h => by rcases h with ⟨-, rfl⟩; rfl) (fun r u H locs hw hP hD hS => ?_)
  obtain ⟨hr0, rfl⟩ := hw
  subst r
  have hP : va_P D vwCl ((wW_k_X2_testHolds ty X b_1 b_2 b_3 b_p) ++ pw ty pp) H := hP
  have hD : va_D A ((wW_k_X2_testHolds ty X b_1 b_2 b_3 b_p) ++ pw ty pp) := hD
  refine W.widen (k := 0) (n := 0) (Nat.le_of_ble_eq_true rfl) (Nat.le_of_ble_eq_true rfl) ?_
  refine lv_istore_n (lv' := [(3, .int t_22), (2, .int t_9), (0, .ref (X 9)), (1, .ref a0)]) hx hb dX2_testHolds_25 rfl hl (by decide) rfl (fun ls hl => ?_)
  refine lv_aload_n hx hb dX2_testHolds_26 rfl (lv_at hl 3 rfl) ?_
  obtain ⟨k_9, hk_9⟩ := List.getElem?_of_mem (pw_lit (ty := ty) (p := pp) (L := [((X 9), .inr (4, [.int b_1, .int b_2, .int b_3, .int b_p]))]) hm_a0)
  refine va_getN (D := D) (ci := 6) (v := .int (pI pp a0 0)) (C := RX4) (T := TX4) (N := 8) hx hb hts iv_k_X2_testHolds_X4 hown hK hP k_9 hk_9 rfl 0 (by decide) (hE.at (.fieldLinkNest "AnswerFold$Binding" 45 "AnswerFold$Literal" "kind" "C" "AnswerFold") (by decide +kernel)) (fun _ h9 => h9) rfl dX2_testHolds_27 ?_
  refine lv_bipush (v := 60) hx hb dX2_testHolds_30 (by decide) ?_
  refine lv_icmp_ne (tgt := 46) hx hb dX2_testHolds_32 (by decide) (fun c_10 => ?_) (fun c_10 => ?_)
  · rw [if_neg c_10] at hT
    refine lv_aload_n hx hb dX2_testHolds_46 rfl (lv_at hl 3 rfl) ?_
    obtain ⟨k_11, hk_11⟩ := List.getElem?_of_mem (pw_lit (ty := ty) (p := pp) (L := [((X 9), .inr (4, [.int b_1, .int b_2, .int b_3, .int b_p]))]) hm_a0)
    refine va_getN (D := D) (ci := 6) (v := .int (pI pp a0 0)) (C := RX4) (T := TX4) (N := 8) hx hb hts iv_k_X2_testHolds_X4 hown hK hP k_11 hk_11 rfl 0 (by decide) (hE.at (.fieldLinkNest "AnswerFold$Binding" 45 "AnswerFold$Literal" "kind" "C" "AnswerFold") (by decide +kernel)) (fun _ h9 => h9) rfl dX2_testHolds_47 ?_
    refine lv_bipush (v := 61) hx hb dX2_testHolds_50 (by decide) ?_
    refine lv_icmp_ne (tgt := 66) hx hb dX2_testHolds_52 (by decide) (fun c_12 => ?_) (fun c_12 => ?_)
    · rw [if_neg c_12] at hT
      refine lv_aload_n hx hb dX2_testHolds_66 rfl (lv_at hl 3 rfl) ?_
      obtain ⟨k_13, hk_13⟩ := List.getElem?_of_mem (pw_lit (ty := ty) (p := pp) (L := [((X 9), .inr (4, [.int b_1, .int b_2, .int b_3, .int b_p]))]) hm_a0)
      refine va_getN (D := D) (ci := 6) (v := .int (pI pp a0 0)) (C := RX4) (T := TX4) (N := 8) hx hb hts iv_k_X2_testHolds_X4 hown hK hP k_13 hk_13 rfl 0 (by decide) (hE.at (.fieldLinkNest "AnswerFold$Binding" 45 "AnswerFold$Literal" "kind" "C" "AnswerFold") (by decide +kernel)) (fun _ h9 => h9) rfl dX2_testHolds_67 ?_
      refine lv_bipush (v := 33) hx hb dX2_testHolds_70 (by decide) ?_
      have J_80 : ∀ (_ : Unit), TT = m_k_X2_testHolds_80 → ∀ (H : Heap) (locs : List Loc), va_P D vwCl ((wW_k_X2_testHolds ty X b_1 b_2 b_3 b_p) ++ pw ty pp) H → va_D A ((wW_k_X2_testHolds ty X b_1 b_2 b_3 b_p) ++ pw ty pp) → va_S A s.heap H locs → ∀ ls : Array Slot, lv_has ls 4 [] → W p l e (headSpec vs_k_X2_testHolds { frames := 1, cells := 0, slots := 0, locals := 22 }).room s m ([.ref (X 9), .ref a0] : List Value).toArray below meth c H locs 0 0 (MQ below (va_Qi (fun (r : Int32) (u : va_W) => (r = TT ∧ (TT = 0 ∨ TT = 1) ∧ (u = ((wW_k_X2_testHolds ty X b_1 b_2 b_3 b_p) ++ pw ty pp)))) (wq_B D A) A) ([.ref (X 9), .ref a0] : List Value).toArray s 0 0 A) (F0 m 80 ls []) := by
        intro _ hT  H locs hP hD hS ls hl
        rw [m_k_X2_testHolds_80] at hT
        refine lv_iconst (v := 1) hx hb dX2_testHolds_80 (by decide) ?_
        refine lv_goto (tgt := 85) hx hb dX2_testHolds_81 (by decide) ?_
        exact END 1 hT (by decide) _ _ hP hD hS _ _ dX2_testHolds_85
      refine lv_icmp_ne (tgt := 80) hx hb dX2_testHolds_72 (by decide) (fun c_14 => ?_) (fun c_14 => ?_)
      · rw [if_neg c_14] at hT
        exact J_80 () hT _ _ hP hD hS _ (lv_sub hl [] rfl)
      · rw [if_pos c_14] at hT
        refine lv_iload_n hx hb dX2_testHolds_75 rfl (lv_at hl 1 rfl) ?_
        refine lv_iload_n hx hb dX2_testHolds_76 rfl (lv_at hl 0 rfl) ?_
        refine lv_icmp_eq (tgt := 84) hx hb dX2_testHolds_77 (by decide) (fun c_15 => ?_) (fun c_15 => ?_)
        · rw [if_pos c_15] at hT
          refine lv_iconst (v := 0) hx hb dX2_testHolds_84 (by decide) ?_
          exact END 0 hT (by decide) _ _ hP hD hS _ _ dX2_testHolds_85
        · rw [if_neg c_15] at hT
          exact J_80 () hT _ _ hP hD hS _ (lv_sub hl [] rfl)
    · rw [if_pos c_12] at hT
      refine lv_iload_n hx hb dX2_testHolds_55 rfl (lv_at hl 1 rfl) ?_
      refine lv_iload_n hx hb dX2_testHolds_56 rfl (lv_at hl 0 rfl) ?_
      refine lv_icmp_ne (tgt := 64) hx hb dX2_testHolds_57 (by decide) (fun c_16 => ?_) (fun c_16 => ?_)
      · rw [if_neg c_16] at hT
        refine lv_iconst (v := 0) hx hb dX2_testHolds_64 (by decide) ?_
        exact END 0 hT (by decide) _ _ hP hD hS _ _ dX2_testHolds_65
      · rw [if_pos c_16] at hT
        refine lv_iconst (v := 1) hx hb dX2_testHolds_60 (by decide) ?_
        refine lv_goto (tgt := 65) hx hb dX2_testHolds_61 (by decide) ?_
        exact END 1 hT (by decide) _ _ hP hD hS _ _ dX2_testHolds_65
  · rw [if_pos c_10] at hT
    refine lv_iload_n hx hb dX2_testHolds_35 rfl (lv_at hl 1 rfl) ?_
    refine lv_iload_n hx hb dX2_testHolds_36 rfl (lv_at hl 0 rfl) ?_
    refine lv_icmp_ge (tgt := 44) hx hb dX2_testHolds_37 (by decide) (fun c_17 => ?_) (fun c_17 => ?_)
    · rw [if_pos c_17] at hT
      refine lv_iconst (v := 0) hx hb dX2_testHolds_44 (by decide) ?_
      exact END 0 hT (by decide) _ _ hP hD hS _ _ dX2_testHolds_45
    · rw [if_neg c_17] at hT
      refine lv_iconst (v := 1) hx hb dX2_testHolds_40 (by decide) ?_
      refine lv_goto (tgt := 45) hx hb dX2_testHolds_41 (by decide) ?_
      exact END 1 hT (by decide) _ _ hP hD hS _ _ dX2_testHolds_45
theorem dX3_headAtomAt_0 : decode cX3_headAtomAt 0 = .ok (.iload_n 1, 1) := by decide +kernel
theorem dX3_headAtomAt_1 : decode cX3_headAtomAt 1 = .ok (.ifCond .lt 21, 3) := by decide +kernel
theorem dX3_headAtomAt_4 : decode cX3_headAtomAt 4 = .ok (.iload_n 1, 1) := by decide +kernel
theorem dX3_headAtomAt_5 : decode cX3_headAtomAt 5 = .ok (.aload_n 0, 1) := by decide +kernel
theorem dX3_headAtomAt_6 : decode cX3_headAtomAt 6 = .ok (.getfield 28, 3) := by decide +kernel
theorem dX3_headAtomAt_9 : decode cX3_headAtomAt 9 = .ok (.arraylength, 1) := by decide +kernel
theorem dX3_headAtomAt_10 : decode cX3_headAtomAt 10 = .ok (.if_icmp .ge 12, 3) := by decide +kernel
theorem dX3_headAtomAt_13 : decode cX3_headAtomAt 13 = .ok (.aload_n 0, 1) := by decide +kernel
theorem dX3_headAtomAt_14 : decode cX3_headAtomAt 14 = .ok (.getfield 28, 3) := by decide +kernel
theorem dX3_headAtomAt_17 : decode cX3_headAtomAt 17 = .ok (.iload_n 1, 1) := by decide +kernel
theorem dX3_headAtomAt_18 : decode cX3_headAtomAt 18 = .ok (.iaload, 1) := by decide +kernel
theorem dX3_headAtomAt_19 : decode cX3_headAtomAt 19 = .ok (.goto 4, 3) := by decide +kernel
theorem dX3_headAtomAt_22 : decode cX3_headAtomAt 22 = .ok (.iconst (-1), 1) := by decide +kernel
theorem dX3_headAtomAt_23 : decode cX3_headAtomAt 23 = .ok (.ireturn, 1) := by decide +kernel
def wW_k_X3_headAtomAt (ty : Nat → ClassId) (X : Nat → Nat) (z9_0 : Int32) (z9_1 : Int32) (z9_2 : Int32) (z9_3 : Int32) (z9_4 : Int32) (z9_5 : Int32) (z9_6 : Nat → Int32) : va_W := [((X 8), .inr (5, [.ref (X 1), .ref (X 9), .ref (X 10), .ref (X 12), .ref (X 14), .int z9_0, .ref (X 15), .ref (X 16), .ref (X 17), .int z9_1, .ref (X 18), .ref (X 19), .int z9_2, .int z9_3, .int z9_4, .int z9_5])), ((X 14), .inl (ty 0, 16, .inl z9_6))]
def vs_k_X3_headAtomAt : List Cond := .code yX3_headAtomAt cX3_headAtomAt 2 (some .int) :: ([.fieldLink RX3 28 "AnswerFold$Grounding" "heads" "[I"] ++ (u_ws RX3 TX3 16))
theorem iv_k_X3_headAtomAt_X3 : ∀ w ∈ u_ws RX3 TX3 16, w ∈ vs_k_X3_headAtomAt := (fun _ h => List.mem_cons_of_mem _ (List.mem_append_right _ (h)))
set_option maxHeartbeats 4000000 in
set_option maxRecDepth 100000 in
theorem k_X3_headAtomAt (l : Launch) (D : va_G) (ty : Nat → ClassId) (td mi sz : Nat) (X : Nat → Nat) (hn : Int32) (kn : Int32) (on : Int32) (cu : Int32) (pu : Int32) (gw : Int32) (hds : Nat → Int32) (a1 : Int32) (TT : r_k_X3_headAtomAt) (hTT : TT = m_k_X3_headAtomAt hds a1) : Met l yX3_headAtomAt vs_k_X3_headAtomAt { frames := 0, cells := 0, slots := 0, locals := 0 } (va_Pc [.ref (X 8), .int a1] (wq_P D ty td mi (wW_k_X3_headAtomAt ty X hn kn on cu pu gw hds) sz)) (va_Qi (fun (r : Int32) (u : va_W) => (r = TT ∧ (u = (wW_k_X3_headAtomAt ty X hn kn on cu pu gw hds)))) (wq_B D (va_A (wW_k_X3_headAtomAt ty X hn kn on cu pu gw hds) sz)) (va_A (wW_k_X3_headAtomAt ty X hn kn on cu pu gw hds) sz)) 0 0 (va_A (wW_k_X3_headAtomAt ty X hn kn on cu pu gw hds) sz) := by
  refine Met.ofW (cc := cX3_headAtomAt) (maxL := 2) (ret := (some .int)) (by decide) rfl ?_
  intro p e s m args below meth c s₁ B hml hv
  obtain ⟨rfl, hsz, hP, hK, hD0, hE⟩ := hv
  have hx := B.exec
  have hb := B.bytes
  have hr := B.returns
  have hts := atoms_spec (ws := vs_k_X3_headAtomAt) B.pre
  have hown : s.vm.findClass RX3 = some m.cls := findClass_of_methodNamed B.named
  have hlocks := B.notSynchronized
  subst hsz
  have hD := hD0.self (sz := s.heap.size)
  generalize hAe : va_A (wW_k_X3_headAtomAt ty X hn kn on cu pu gw hds) s.heap.size = A at hD hE ⊢
  have hA : ∀ q : Nat, s.heap.size ≤ q → A q := fun q h => by rw [← hAe]; exact Or.inr h
  have hS : va_S A s.heap s.heap [] := va_S.rf
  have hP : va_P D vwCl (wW_k_X3_headAtomAt ty X hn kn on cu pu gw hds) s.heap := hP
  have hl := lv_entry ([.ref (X 8), .int a1]) (n := 2) (Nat.le_of_ble_eq_true rfl)
  rw [lg_entry_eq]
  generalize (lg_sl ([.ref (X 8), .int a1]) ++ List.replicate (2 - (lg_sl ([.ref (X 8), .int a1])).length) Slot.unset).toArray = ls at hl ⊢
  have hl : lv_has ls 2 [(0, .ref (X 8)), (1, .int a1)] := hl
  have END : ∀ (r : Int32), TT = r → ∀ (H : Heap) (locs : List Loc), va_P D vwCl (wW_k_X3_headAtomAt ty X hn kn on cu pu gw hds) H → va_D A (wW_k_X3_headAtomAt ty X hn kn on cu pu gw hds) → va_S A s.heap H locs → ∀ (ls : Array Slot) (pc : Nat), decode cX3_headAtomAt pc = .ok (.ireturn, 1) → W p l e (headSpec vs_k_X3_headAtomAt { frames := 0, cells := 0, slots := 0, locals := 0 }).room s m ([.ref (X 8), .int a1] : List Value).toArray below meth c H locs 0 0 (MQ below (va_Qi (fun (r : Int32) (u : va_W) => (r = TT ∧ (u = (wW_k_X3_headAtomAt ty X hn kn on cu pu gw hds)))) (wq_B D A) A) ([.ref (X 8), .int a1] : List Value).toArray s 0 0 A) (F0 m pc ls [.int r]) := by
    intro r hT H locs hP hD hS ls pc hd
    have hM : TT = r := hT
    exact W.iret (v := r) hx hb hr (fun t ht hW => ⟨⟨r, (wW_k_X3_headAtomAt ty X hn kn on cu pu gw hds), rfl, ⟨(by rw [hM]), rfl⟩, wq_B.of ht hP hD⟩, hS.F ht⟩) hS.2.2 hd
  have hT := hTT
  rw [m_k_X3_headAtomAt] at hT
  refine lv_iload_n hx hb dX3_headAtomAt_0 rfl (lv_at hl 1 rfl) ?_
  refine lv_if_lt (tgt := 22) hx hb dX3_headAtomAt_1 (by decide) (fun c_1 => ?_) (fun c_1 => ?_)
  · rw [if_pos c_1] at hT
    refine lv_iconst (v := (-1)) hx hb dX3_headAtomAt_22 (by decide) ?_
    exact END (-1) hT _ _ hP hD hS _ _ dX3_headAtomAt_23
  · rw [if_neg c_1] at hT
    refine lv_iload_n hx hb dX3_headAtomAt_4 rfl (lv_at hl 1 rfl) ?_
    refine lv_aload_n hx hb dX3_headAtomAt_5 rfl (lv_at hl 0 rfl) ?_
    refine va_get (D := D) (ci := 5) (v := .ref (X 14)) (C := RX3) (T := TX3) (N := 16) hx hb hts iv_k_X3_headAtomAt_X3 hown hK hP 0 rfl rfl 4 (by decide) (hts (.fieldLink RX3 28 "AnswerFold$Grounding" "heads" "[I") (by decide +kernel)) (fun _ h9 => h9) rfl dX3_headAtomAt_6 ?_
    refine va_alen (D := D) (v := 16) hx hb hK hP 1 0 rfl rfl (by first | decide | rfl) dX3_headAtomAt_9 ?_
    refine lv_icmp_ge (tgt := 22) hx hb dX3_headAtomAt_10 (by decide) (fun c_2 => ?_) (fun c_2 => ?_)
    · rw [if_pos c_2] at hT
      refine lv_iconst (v := (-1)) hx hb dX3_headAtomAt_22 (by decide) ?_
      exact END (-1) hT _ _ hP hD hS _ _ dX3_headAtomAt_23
    · rw [if_neg c_2] at hT
      refine lv_aload_n hx hb dX3_headAtomAt_13 rfl (lv_at hl 0 rfl) ?_
      refine va_get (D := D) (ci := 5) (v := .ref (X 14)) (C := RX3) (T := TX3) (N := 16) hx hb hts iv_k_X3_headAtomAt_X3 hown hK hP 0 rfl rfl 4 (by decide) (hts (.fieldLink RX3 28 "AnswerFold$Grounding" "heads" "[I") (by decide +kernel)) (fun _ h9 => h9) rfl dX3_headAtomAt_14 ?_
      refine lv_iload_n hx hb dX3_headAtomAt_17 rfl (lv_at hl 1 rfl) ?_
      refine va_iald (D := D) hx hb hK hP 1 0 rfl rfl (wi_in (wi_lo c_1) (wi_hi c_2 (by decide))) dX3_headAtomAt_18 ?_
      refine lv_goto (tgt := 23) hx hb dX3_headAtomAt_19 (by decide) ?_
      exact END (hds a1.toNatClampNeg) hT _ _ hP hD hS _ _ dX3_headAtomAt_23
theorem dX3_listHead_0 : decode cX3_listHead 0 = .ok (.iconst 0, 1) := by decide +kernel
theorem dX3_listHead_1 : decode cX3_listHead 1 = .ok (.istore_n 2, 1) := by decide +kernel
theorem dX3_listHead_2 : decode cX3_listHead 2 = .ok (.iload_n 2, 1) := by decide +kernel
theorem dX3_listHead_3 : decode cX3_listHead 3 = .ok (.aload_n 0, 1) := by decide +kernel
theorem dX3_listHead_4 : decode cX3_listHead 4 = .ok (.getfield 196, 3) := by decide +kernel
theorem dX3_listHead_7 : decode cX3_listHead 7 = .ok (.if_icmp .ge 19, 3) := by decide +kernel
theorem dX3_listHead_10 : decode cX3_listHead 10 = .ok (.aload_n 0, 1) := by decide +kernel
theorem dX3_listHead_11 : decode cX3_listHead 11 = .ok (.iload_n 2, 1) := by decide +kernel
theorem dX3_listHead_12 : decode cX3_listHead 12 = .ok (.invokevirtual 199, 3) := by decide +kernel
theorem dX3_listHead_15 : decode cX3_listHead 15 = .ok (.iload_n 1, 1) := by decide +kernel
theorem dX3_listHead_16 : decode cX3_listHead 16 = .ok (.if_icmp .ne 4, 3) := by decide +kernel
theorem dX3_listHead_19 : decode cX3_listHead 19 = .ok (.return_, 1) := by decide +kernel
theorem dX3_listHead_20 : decode cX3_listHead 20 = .ok (.iinc 2 1, 3) := by decide +kernel
theorem dX3_listHead_23 : decode cX3_listHead 23 = .ok (.goto (-21), 3) := by decide +kernel
theorem dX3_listHead_26 : decode cX3_listHead 26 = .ok (.aload_n 0, 1) := by decide +kernel
theorem dX3_listHead_27 : decode cX3_listHead 27 = .ok (.getfield 196, 3) := by decide +kernel
theorem dX3_listHead_30 : decode cX3_listHead 30 = .ok (.ifCond .lt 35, 3) := by decide +kernel
theorem dX3_listHead_33 : decode cX3_listHead 33 = .ok (.aload_n 0, 1) := by decide +kernel
theorem dX3_listHead_34 : decode cX3_listHead 34 = .ok (.getfield 196, 3) := by decide +kernel
theorem dX3_listHead_37 : decode cX3_listHead 37 = .ok (.aload_n 0, 1) := by decide +kernel
theorem dX3_listHead_38 : decode cX3_listHead 38 = .ok (.getfield 28, 3) := by decide +kernel
theorem dX3_listHead_41 : decode cX3_listHead 41 = .ok (.arraylength, 1) := by decide +kernel
theorem dX3_listHead_42 : decode cX3_listHead 42 = .ok (.if_icmp .ge 23, 3) := by decide +kernel
theorem dX3_listHead_45 : decode cX3_listHead 45 = .ok (.aload_n 0, 1) := by decide +kernel
theorem dX3_listHead_46 : decode cX3_listHead 46 = .ok (.getfield 28, 3) := by decide +kernel
theorem dX3_listHead_49 : decode cX3_listHead 49 = .ok (.aload_n 0, 1) := by decide +kernel
theorem dX3_listHead_50 : decode cX3_listHead 50 = .ok (.getfield 196, 3) := by decide +kernel
theorem dX3_listHead_53 : decode cX3_listHead 53 = .ok (.iload_n 1, 1) := by decide +kernel
theorem dX3_listHead_54 : decode cX3_listHead 54 = .ok (.iastore, 1) := by decide +kernel
theorem dX3_listHead_55 : decode cX3_listHead 55 = .ok (.aload_n 0, 1) := by decide +kernel
theorem dX3_listHead_56 : decode cX3_listHead 56 = .ok (.dup, 1) := by decide +kernel
theorem dX3_listHead_57 : decode cX3_listHead 57 = .ok (.getfield 196, 3) := by decide +kernel
theorem dX3_listHead_60 : decode cX3_listHead 60 = .ok (.iconst 1, 1) := by decide +kernel
theorem dX3_listHead_61 : decode cX3_listHead 61 = .ok (.iadd, 1) := by decide +kernel
theorem dX3_listHead_62 : decode cX3_listHead 62 = .ok (.putfield 196, 3) := by decide +kernel
theorem dX3_listHead_65 : decode cX3_listHead 65 = .ok (.return_, 1) := by decide +kernel
def wW_k_X3_listHead (ty : Nat → ClassId) (X : Nat → Nat) (z9_0 : Int32) (z9_1 : Int32) (z9_2 : Int32) (z9_3 : Int32) (z9_4 : Int32) (z9_5 : Int32) (z9_6 : Nat → Int32) : va_W := [((X 8), .inr (5, [.ref (X 1), .ref (X 9), .ref (X 10), .ref (X 12), .ref (X 14), .int z9_0, .ref (X 15), .ref (X 16), .ref (X 17), .int z9_1, .ref (X 18), .ref (X 19), .int z9_2, .int z9_3, .int z9_4, .int z9_5])), ((X 14), .inl (ty 0, 16, .inl z9_6))]
def vs_k_X3_listHead : List Cond := .code yX3_listHead cX3_listHead 3 none :: ([.fieldLink RX3 196 "AnswerFold$Grounding" "headCount" "I", .fieldLink RX3 28 "AnswerFold$Grounding" "heads" "[I", .methodLink RX3 199 yX3_headAtomAt, .instanceMethod yX3_headAtomAt, .selects RX3 yX3_headAtomAt yX3_headAtomAt, .initialized RX3] ++ (u_ws RX3 TX3 16 ++ (vs_k_X3_headAtomAt)))
theorem iv_k_X3_listHead_X3 : ∀ w ∈ u_ws RX3 TX3 16, w ∈ vs_k_X3_listHead := (fun _ h => List.mem_cons_of_mem _ (List.mem_append_right _ (List.mem_append_left _ h)))
set_option maxRecDepth 20000 in
theorem gv_k_X3_listHead_0 : GoodIn vs_k_X3_listHead (wsV RX3 199 RX3 yX3_headAtomAt vs_k_X3_headAtomAt) := goodIn_app (goodIn_sub (by decide +kernel) (by decide +kernel)) (goodIn_sub (fun _ h => List.mem_cons_of_mem _ (List.mem_append_right _ (List.mem_append_right _ (h)))) (by decide +kernel))
set_option maxHeartbeats 4000000 in
set_option maxRecDepth 100000 in
theorem k_X3_listHead (l : Launch) (D : va_G) (ty : Nat → ClassId) (td mi sz : Nat) (X : Nat → Nat) (hn : Int32) (kn : Int32) (on : Int32) (cu : Int32) (pu : Int32) (gw : Int32) (hds : Nat → Int32) (a1 : Int32) (TT : r_k_X3_listHead) (hTT : TT = m_k_X3_listHead hn hds a1) : Met l yX3_listHead vs_k_X3_listHead { frames := 1, cells := 0, slots := 0, locals := 21 } (va_Pc [.ref (X 8), .int a1] (wq_P D ty td mi (wW_k_X3_listHead ty X hn kn on cu pu gw hds) sz)) (va_Qv (fun u : va_W => ((u = (wW_k_X3_listHead ty X TT.2 kn on cu pu gw TT.1)))) (wq_B D (va_A (wW_k_X3_listHead ty X hn kn on cu pu gw hds) sz)) (va_A (wW_k_X3_listHead ty X hn kn on cu pu gw hds) sz)) 0 0 (va_A (wW_k_X3_listHead ty X hn kn on cu pu gw hds) sz) := by
  refine Met.ofW (cc := cX3_listHead) (maxL := 3) (ret := none) (by decide) rfl ?_
  intro p e s m args below meth c s₁ B hml hv
  obtain ⟨rfl, hsz, hP, hK, hD0, hE⟩ := hv
  have hx := B.exec
  have hb := B.bytes
  have hr := B.returns
  have hts := atoms_spec (ws := vs_k_X3_listHead) B.pre
  have hown : s.vm.findClass RX3 = some m.cls := findClass_of_methodNamed B.named
  have hlocks := B.notSynchronized
  subst hsz
  have hD := hD0.self (sz := s.heap.size)
  generalize hAe : va_A (wW_k_X3_listHead ty X hn kn on cu pu gw hds) s.heap.size = A at hD hE ⊢
  have hA : ∀ q : Nat, s.heap.size ≤ q → A q := fun q h => by rw [← hAe]; exact Or.inr h
  have hS : va_S A s.heap s.heap [] := va_S.rf
  have hP : va_P D vwCl (wW_k_X3_listHead ty X hn kn on cu pu gw hds) s.heap := hP
  have hl := lv_entry ([.ref (X 8), .int a1]) (n := 3) (Nat.le_of_ble_eq_true rfl)
  rw [lg_entry_eq]
  generalize (lg_sl ([.ref (X 8), .int a1]) ++ List.replicate (3 - (lg_sl ([.ref (X 8), .int a1])).length) Slot.unset).toArray = ls at hl ⊢
  have hl : lv_has ls 3 [(0, .ref (X 8)), (1, .int a1)] := hl
  have END : ∀ (w9_0 : Nat → Int32) (w9_1 : Int32), TT = (w9_0, w9_1) → ∀ (H : Heap) (locs : List Loc), va_P D vwCl (wW_k_X3_listHead ty X w9_1 kn on cu pu gw w9_0) H → va_D A (wW_k_X3_listHead ty X w9_1 kn on cu pu gw w9_0) → va_S A s.heap H locs → ∀ (ls : Array Slot) (pc : Nat), decode cX3_listHead pc = .ok (.return_, 1) → W p l e (headSpec vs_k_X3_listHead { frames := 1, cells := 0, slots := 0, locals := 21 }).room s m ([.ref (X 8), .int a1] : List Value).toArray below meth c H locs 0 0 (MQ below (va_Qv (fun u : va_W => ((u = (wW_k_X3_listHead ty X TT.2 kn on cu pu gw TT.1)))) (wq_B D A) A) ([.ref (X 8), .int a1] : List Value).toArray s 0 0 A) (F0 m pc ls []) := by
    intro w9_0 w9_1 hT H locs hP hD hS ls pc hd
    have hM : TT = (w9_0, w9_1) := hT
    exact W.vret hx hb hr (fun t ht hW => ⟨⟨(wW_k_X3_listHead ty X w9_1 kn on cu pu gw w9_0), rfl, (by rw [hM]), wq_B.of ht hP hD⟩, hS.F ht⟩) hS.2.2 hd
  have hT := hTT
  rw [m_k_X3_listHead] at hT
  refine lv_iconst (v := 0) hx hb dX3_listHead_0 (by decide) ?_
  refine lv_istore_n (lv' := [(2, .int 0), (0, .ref (X 8)), (1, .int a1)]) hx hb dX3_listHead_1 rfl hl (by decide) rfl (fun ls hl => ?_)
  have L_2 : ∀ (n_2 : Nat) (v2_2 : Int32), (2147483648 - v2_2.toInt).toNat < n_2 → TT = m_k_X3_listHead_2 hn hds a1 n_2 v2_2 → 0 ≤ v2_2.toInt → ∀ (H : Heap) (locs : List Loc), va_P D vwCl (wW_k_X3_listHead ty X hn kn on cu pu gw hds) H → va_D A (wW_k_X3_listHead ty X hn kn on cu pu gw hds) → va_S A s.heap H locs → ∀ ls : Array Slot, lv_has ls 3 [(0, .ref (X 8)), (1, .int a1), (2, .int v2_2)] → W p l e (headSpec vs_k_X3_listHead { frames := 1, cells := 0, slots := 0, locals := 21 }).room s m ([.ref (X 8), .int a1] : List Value).toArray below meth c H locs 0 0 (MQ below (va_Qv (fun u : va_W => ((u = (wW_k_X3_listHead ty X TT.2 kn on cu pu gw TT.1)))) (wq_B D A) A) ([.ref (X 8), .int a1] : List Value).toArray s 0 0 A) (F0 m 2 ls []) := by
    intro n_2
    induction n_2 with
    | zero => intro v2_2 hu; exact absurd hu (Nat.not_lt_zero _)
    | succ n_2 ih_2 =>
      intro v2_2 hu_2 hT hn_2 H locs hP hD hS ls hl
      rw [m_k_X3_listHead_2_succ, m_k_X3_listHead_2s] at hT
      refine lv_iload_n hx hb dX3_listHead_2 rfl (lv_at hl 2 rfl) ?_
      refine lv_aload_n hx hb dX3_listHead_3 rfl (lv_at hl 0 rfl) ?_
      refine va_get (D := D) (ci := 5) (v := .int hn) (C := RX3) (T := TX3) (N := 16) hx hb hts iv_k_X3_listHead_X3 hown hK hP 0 rfl rfl 5 (by decide) (hts (.fieldLink RX3 196 "AnswerFold$Grounding" "headCount" "I") (by decide +kernel)) (fun _ h9 => h9) rfl dX3_listHead_4 ?_
      refine lv_icmp_ge (tgt := 26) hx hb dX3_listHead_7 (by decide) (fun c_1 => ?_) (fun c_1 => ?_)
      · rw [if_pos c_1] at hT
        refine lv_aload_n hx hb dX3_listHead_26 rfl (lv_at hl 0 rfl) ?_
        refine va_get (D := D) (ci := 5) (v := .int hn) (C := RX3) (T := TX3) (N := 16) hx hb hts iv_k_X3_listHead_X3 hown hK hP 0 rfl rfl 5 (by decide) (hts (.fieldLink RX3 196 "AnswerFold$Grounding" "headCount" "I") (by decide +kernel)) (fun _ h9 => h9) rfl dX3_listHead_27 ?_
        refine lv_if_lt (tgt := 65) hx hb dX3_listHead_30 (by decide) (fun c_2 => ?_) (fun c_2 => ?_)
        · rw [if_pos c_2] at hT
          exact END hds hn hT _ _ hP hD hS _ _ dX3_listHead_65
        · rw [if_neg c_2] at hT
          refine lv_aload_n hx hb dX3_listHead_33 rfl (lv_at hl 0 rfl) ?_
          refine va_get (D := D) (ci := 5) (v := .int hn) (C := RX3) (T := TX3) (N := 16) hx hb hts iv_k_X3_listHead_X3 hown hK hP 0 rfl rfl 5 (by decide) (hts (.fieldLink RX3 196 "AnswerFold$Grounding" "headCount" "I") (by decide +kernel)) (fun _ h9 => h9) rfl dX3_listHead_34 ?_
          refine lv_aload_n hx hb dX3_listHead_37 rfl (lv_at hl 0 rfl) ?_
          refine va_get (D := D) (ci := 5) (v := .ref (X 14)) (C := RX3) (T := TX3) (N := 16) hx hb hts iv_k_X3_listHead_X3 hown hK hP 0 rfl rfl 4 (by decide) (hts (.fieldLink RX3 28 "AnswerFold$Grounding" "heads" "[I") (by decide +kernel)) (fun _ h9 => h9) rfl dX3_listHead_38 ?_
          refine va_alen (D := D) (v := 16) hx hb hK hP 1 0 rfl rfl (by first | decide | rfl) dX3_listHead_41 ?_
          refine lv_icmp_ge (tgt := 65) hx hb dX3_listHead_42 (by decide) (fun c_3 => ?_) (fun c_3 => ?_)
          · rw [if_pos c_3] at hT
            exact END hds hn hT _ _ hP hD hS _ _ dX3_listHead_65
          · rw [if_neg c_3] at hT
            refine lv_aload_n hx hb dX3_listHead_45 rfl (lv_at hl 0 rfl) ?_
            refine va_get (D := D) (ci := 5) (v := .ref (X 14)) (C := RX3) (T := TX3) (N := 16) hx hb hts iv_k_X3_listHead_X3 hown hK hP 0 rfl rfl 4 (by decide) (hts (.fieldLink RX3 28 "AnswerFold$Grounding" "heads" "[I") (by decide +kernel)) (fun _ h9 => h9) rfl dX3_listHead_46 ?_
            refine lv_aload_n hx hb dX3_listHead_49 rfl (lv_at hl 0 rfl) ?_
            refine va_get (D := D) (ci := 5) (v := .int hn) (C := RX3) (T := TX3) (N := 16) hx hb hts iv_k_X3_listHead_X3 hown hK hP 0 rfl rfl 5 (by decide) (hts (.fieldLink RX3 196 "AnswerFold$Grounding" "headCount" "I") (by decide +kernel)) (fun _ h9 => h9) rfl dX3_listHead_50 ?_
            refine lv_iload_n hx hb dX3_listHead_53 rfl (lv_at hl 1 rfl) ?_
            refine va_iast (D := D) hx hb hK hP hD hS 1 0 rfl rfl (wi_in (wi_lo c_2) (wi_hi c_3 (by decide))) dX3_listHead_54 (fun H locs hP hD hS => ?_)
            have hP : va_P D vwCl (wW_k_X3_listHead ty X hn kn on cu pu gw (upd hds hn.toNatClampNeg a1)) H := hP
            have hD : va_D A (wW_k_X3_listHead ty X hn kn on cu pu gw (upd hds hn.toNatClampNeg a1)) := hD
            refine lv_aload_n hx hb dX3_listHead_55 rfl (lv_at hl 0 rfl) ?_
            refine lv_dup hx hb dX3_listHead_56 rfl ?_
            refine va_get (D := D) (ci := 5) (v := .int hn) (C := RX3) (T := TX3) (N := 16) hx hb hts iv_k_X3_listHead_X3 hown hK hP 0 rfl rfl 5 (by decide) (hts (.fieldLink RX3 196 "AnswerFold$Grounding" "headCount" "I") (by decide +kernel)) (fun _ h9 => h9) rfl dX3_listHead_57 ?_
            refine lv_iconst (v := 1) hx hb dX3_listHead_60 (by decide) ?_
            refine lv_iadd hx hb dX3_listHead_61 ?_
            refine va_put (D := D) (ci := 5) (v := .int (hn + 1)) (ty := tyX3 5) (C := RX3) (T := TX3) (N := 16) hx hb hts iv_k_X3_listHead_X3 tyX3 tyX3_ok nmX3 hown hK hP hD hS 0 rfl rfl 5 (by decide) (hts (.fieldLink RX3 196 "AnswerFold$Grounding" "headCount" "I") (by decide +kernel)) (fun _ h9 => h9) rfl (by decide +kernel) rfl rfl (Nat.le_of_ble_eq_true rfl) dX3_listHead_62 (fun H locs hP hD hS => ?_)
            have hP : va_P D vwCl (wW_k_X3_listHead ty X (hn + 1) kn on cu pu gw (upd hds hn.toNatClampNeg a1)) H := hP
            have hD : va_D A (wW_k_X3_listHead ty X (hn + 1) kn on cu pu gw (upd hds hn.toNatClampNeg a1)) := hD
            exact END (upd hds hn.toNatClampNeg a1) (hn + 1) hT _ _ hP hD hS _ _ dX3_listHead_65
      · rw [if_neg c_1] at hT
        refine lv_aload_n hx hb dX3_listHead_10 rfl (lv_at hl 0 rfl) ?_
        refine lv_iload_n hx hb dX3_listHead_11 rfl (lv_at hl 2 rfl) ?_
        obtain ⟨t_12, ht_12⟩ : ∃ t, t = m_k_X3_headAtomAt hds v2_2 := ⟨_, rfl⟩
        rw [lE_eq ht_12] at hT
        refine wq_iW (wc := (wW_k_X3_headAtomAt ty X hn kn on cu pu gw hds)) (va_runV (As := [.int v2_2]) (rest := []) ⟨hx, hb, hml, hown, hts⟩ (k_X3_headAtomAt l D ty td mi H.size X hn kn on cu pu gw hds v2_2 t_12 ht_12) (cwV 1 hts gv_k_X3_listHead_0 rfl rfl rfl (by decide +kernel) ⟨(Nat.le_of_ble_eq_true rfl), (Nat.le_of_ble_eq_true rfl)⟩) (wm_V (wm_preS hP hD hK hE hS hA [true, true] rfl) (va_recv (q0 := 0) (ci := 5) hK hP rfl rfl)) rfl rfl hl.1 rfl (lv_room (Nat.le_of_ble_eq_true rfl)) dX3_listHead_12 ⟨(Nat.le_of_ble_eq_true rfl), (Nat.le_of_ble_eq_true rfl)⟩) hS hA hP hD [true, true] rfl (fun _ _ h => by rcases h with ⟨-, rfl⟩; rfl) (fun r u H locs hw hP hD hS => ?_)
        obtain ⟨hr0, rfl⟩ := hw
        subst r
        have hP : va_P D vwCl (wW_k_X3_listHead ty X hn kn on cu pu gw hds) H := hP
        have hD : va_D A (wW_k_X3_listHead ty X hn kn on cu pu gw hds) := hD
        refine W.widen (k := 0) (n := 0) (Nat.le_of_ble_eq_true rfl) (Nat.le_of_ble_eq_true rfl) ?_
        refine lv_iload_n hx hb dX3_listHead_15 rfl (lv_at hl 1 rfl) ?_
        refine lv_icmp_ne (tgt := 20) hx hb dX3_listHead_16 (by decide) (fun c_6 => ?_) (fun c_6 => ?_)
        · rw [if_neg c_6] at hT
          refine lv_iinc (v := v2_2 + 1) (lv' := [(2, .int (v2_2 + 1)), (0, .ref (X 8)), (1, .int a1)]) hx hb dX3_listHead_20 hl (k := 2) rfl (by rfl) (by decide) rfl (fun ls hl => ?_)
          refine lv_goto (tgt := 2) hx hb dX3_listHead_23 (by decide) ?_
          exact ih_2 (v2_2 + 1) (wi_up hu_2 (Int32.not_le.mp c_1)) hT (wi_inc hn_2 (Int32.not_le.mp c_1)) _ _ hP hD hS _ (lv_sub hl [1, 2, 0] rfl)
        · rw [if_pos c_6] at hT
          exact END hds hn hT _ _ hP hD hS _ _ dX3_listHead_19
  exact L_2 wF 0 (wF_up 0) hT (by decide) _ _ hP hD hS _ (lv_sub hl [1, 2, 0] rfl)
theorem dX3_openNumberOf_0 : decode cX3_openNumberOf 0 = .ok (.iload_n 1, 1) := by decide +kernel
theorem dX3_openNumberOf_1 : decode cX3_openNumberOf 1 = .ok (.ifCond .lt 19, 3) := by decide +kernel
theorem dX3_openNumberOf_4 : decode cX3_openNumberOf 4 = .ok (.iload_n 1, 1) := by decide +kernel
theorem dX3_openNumberOf_5 : decode cX3_openNumberOf 5 = .ok (.sipush 384, 3) := by decide +kernel
theorem dX3_openNumberOf_8 : decode cX3_openNumberOf 8 = .ok (.if_icmp .ge 12, 3) := by decide +kernel
theorem dX3_openNumberOf_11 : decode cX3_openNumberOf 11 = .ok (.aload_n 0, 1) := by decide +kernel
theorem dX3_openNumberOf_12 : decode cX3_openNumberOf 12 = .ok (.getfield 44, 3) := by decide +kernel
theorem dX3_openNumberOf_15 : decode cX3_openNumberOf 15 = .ok (.iload_n 1, 1) := by decide +kernel
theorem dX3_openNumberOf_16 : decode cX3_openNumberOf 16 = .ok (.iaload, 1) := by decide +kernel
theorem dX3_openNumberOf_17 : decode cX3_openNumberOf 17 = .ok (.goto 4, 3) := by decide +kernel
theorem dX3_openNumberOf_20 : decode cX3_openNumberOf 20 = .ok (.iconst (-1), 1) := by decide +kernel
theorem dX3_openNumberOf_21 : decode cX3_openNumberOf 21 = .ok (.ireturn, 1) := by decide +kernel
def wW_k_X3_openNumberOf (ty : Nat → ClassId) (X : Nat → Nat) (z9_0 : Int32) (z9_1 : Int32) (z9_2 : Int32) (z9_3 : Int32) (z9_4 : Int32) (z9_5 : Int32) (z9_6 : Nat → Int32) : va_W := [((X 8), .inr (5, [.ref (X 1), .ref (X 9), .ref (X 10), .ref (X 12), .ref (X 14), .int z9_0, .ref (X 15), .ref (X 16), .ref (X 17), .int z9_1, .ref (X 18), .ref (X 19), .int z9_2, .int z9_3, .int z9_4, .int z9_5])), ((X 19), .inl (ty 0, 384, .inl z9_6))]
def vs_k_X3_openNumberOf : List Cond := .code yX3_openNumberOf cX3_openNumberOf 2 (some .int) :: ([.fieldLink RX3 44 "AnswerFold$Grounding" "openNumbers" "[I"] ++ (u_ws RX3 TX3 16))
theorem iv_k_X3_openNumberOf_X3 : ∀ w ∈ u_ws RX3 TX3 16, w ∈ vs_k_X3_openNumberOf := (fun _ h => List.mem_cons_of_mem _ (List.mem_append_right _ (h)))
set_option maxHeartbeats 4000000 in
set_option maxRecDepth 100000 in
theorem k_X3_openNumberOf (l : Launch) (D : va_G) (ty : Nat → ClassId) (td mi sz : Nat) (X : Nat → Nat) (hn : Int32) (kn : Int32) (on : Int32) (cu : Int32) (pu : Int32) (gw : Int32) (ob : Nat → Int32) (a1 : Int32) (TT : r_k_X3_openNumberOf) (hTT : TT = m_k_X3_openNumberOf ob a1) : Met l yX3_openNumberOf vs_k_X3_openNumberOf { frames := 0, cells := 0, slots := 0, locals := 0 } (va_Pc [.ref (X 8), .int a1] (wq_P D ty td mi (wW_k_X3_openNumberOf ty X hn kn on cu pu gw ob) sz)) (va_Qi (fun (r : Int32) (u : va_W) => (r = TT ∧ (u = (wW_k_X3_openNumberOf ty X hn kn on cu pu gw ob)))) (wq_B D (va_A (wW_k_X3_openNumberOf ty X hn kn on cu pu gw ob) sz)) (va_A (wW_k_X3_openNumberOf ty X hn kn on cu pu gw ob) sz)) 0 0 (va_A (wW_k_X3_openNumberOf ty X hn kn on cu pu gw ob) sz) := by
  refine Met.ofW (cc := cX3_openNumberOf) (maxL := 2) (ret := (some .int)) (by decide) rfl ?_
  intro p e s m args below meth c s₁ B hml hv
  obtain ⟨rfl, hsz, hP, hK, hD0, hE⟩ := hv
  have hx := B.exec
  have hb := B.bytes
  have hr := B.returns
  have hts := atoms_spec (ws := vs_k_X3_openNumberOf) B.pre
  have hown : s.vm.findClass RX3 = some m.cls := findClass_of_methodNamed B.named
  have hlocks := B.notSynchronized
  subst hsz
  have hD := hD0.self (sz := s.heap.size)
  generalize hAe : va_A (wW_k_X3_openNumberOf ty X hn kn on cu pu gw ob) s.heap.size = A at hD hE ⊢
  have hA : ∀ q : Nat, s.heap.size ≤ q → A q := fun q h => by rw [← hAe]; exact Or.inr h
  have hS : va_S A s.heap s.heap [] := va_S.rf
  have hP : va_P D vwCl (wW_k_X3_openNumberOf ty X hn kn on cu pu gw ob) s.heap := hP
  have hl := lv_entry ([.ref (X 8), .int a1]) (n := 2) (Nat.le_of_ble_eq_true rfl)
  rw [lg_entry_eq]
  generalize (lg_sl ([.ref (X 8), .int a1]) ++ List.replicate (2 - (lg_sl ([.ref (X 8), .int a1])).length) Slot.unset).toArray = ls at hl ⊢
  have hl : lv_has ls 2 [(0, .ref (X 8)), (1, .int a1)] := hl
  have END : ∀ (r : Int32), TT = r → ∀ (H : Heap) (locs : List Loc), va_P D vwCl (wW_k_X3_openNumberOf ty X hn kn on cu pu gw ob) H → va_D A (wW_k_X3_openNumberOf ty X hn kn on cu pu gw ob) → va_S A s.heap H locs → ∀ (ls : Array Slot) (pc : Nat), decode cX3_openNumberOf pc = .ok (.ireturn, 1) → W p l e (headSpec vs_k_X3_openNumberOf { frames := 0, cells := 0, slots := 0, locals := 0 }).room s m ([.ref (X 8), .int a1] : List Value).toArray below meth c H locs 0 0 (MQ below (va_Qi (fun (r : Int32) (u : va_W) => (r = TT ∧ (u = (wW_k_X3_openNumberOf ty X hn kn on cu pu gw ob)))) (wq_B D A) A) ([.ref (X 8), .int a1] : List Value).toArray s 0 0 A) (F0 m pc ls [.int r]) := by
    intro r hT H locs hP hD hS ls pc hd
    have hM : TT = r := hT
    exact W.iret (v := r) hx hb hr (fun t ht hW => ⟨⟨r, (wW_k_X3_openNumberOf ty X hn kn on cu pu gw ob), rfl, ⟨(by rw [hM]), rfl⟩, wq_B.of ht hP hD⟩, hS.F ht⟩) hS.2.2 hd
  have hT := hTT
  rw [m_k_X3_openNumberOf] at hT
  refine lv_iload_n hx hb dX3_openNumberOf_0 rfl (lv_at hl 1 rfl) ?_
  refine lv_if_lt (tgt := 20) hx hb dX3_openNumberOf_1 (by decide) (fun c_1 => ?_) (fun c_1 => ?_)
  · rw [if_pos c_1] at hT
    refine lv_iconst (v := (-1)) hx hb dX3_openNumberOf_20 (by decide) ?_
    exact END (-1) hT _ _ hP hD hS _ _ dX3_openNumberOf_21
  · rw [if_neg c_1] at hT
    refine lv_iload_n hx hb dX3_openNumberOf_4 rfl (lv_at hl 1 rfl) ?_
    refine lv_sipush (v := 384) hx hb dX3_openNumberOf_5 (by decide) ?_
    refine lv_icmp_ge (tgt := 20) hx hb dX3_openNumberOf_8 (by decide) (fun c_2 => ?_) (fun c_2 => ?_)
    · rw [if_pos c_2] at hT
      refine lv_iconst (v := (-1)) hx hb dX3_openNumberOf_20 (by decide) ?_
      exact END (-1) hT _ _ hP hD hS _ _ dX3_openNumberOf_21
    · rw [if_neg c_2] at hT
      refine lv_aload_n hx hb dX3_openNumberOf_11 rfl (lv_at hl 0 rfl) ?_
      refine va_get (D := D) (ci := 5) (v := .ref (X 19)) (C := RX3) (T := TX3) (N := 16) hx hb hts iv_k_X3_openNumberOf_X3 hown hK hP 0 rfl rfl 11 (by decide) (hts (.fieldLink RX3 44 "AnswerFold$Grounding" "openNumbers" "[I") (by decide +kernel)) (fun _ h9 => h9) rfl dX3_openNumberOf_12 ?_
      refine lv_iload_n hx hb dX3_openNumberOf_15 rfl (lv_at hl 1 rfl) ?_
      refine va_iald (D := D) hx hb hK hP 1 0 rfl rfl (wi_in (wi_lo c_1) (wi_hi c_2 (by decide))) dX3_openNumberOf_16 ?_
      refine lv_goto (tgt := 21) hx hb dX3_openNumberOf_17 (by decide) ?_
      exact END (ob a1.toNatClampNeg) hT _ _ hP hD hS _ _ dX3_openNumberOf_21
theorem dX3_openAtomAt_0 : decode cX3_openAtomAt 0 = .ok (.iload_n 1, 1) := by decide +kernel
theorem dX3_openAtomAt_1 : decode cX3_openAtomAt 1 = .ok (.ifCond .lt 19, 3) := by decide +kernel
theorem dX3_openAtomAt_4 : decode cX3_openAtomAt 4 = .ok (.iload_n 1, 1) := by decide +kernel
theorem dX3_openAtomAt_5 : decode cX3_openAtomAt 5 = .ok (.sipush 384, 3) := by decide +kernel
theorem dX3_openAtomAt_8 : decode cX3_openAtomAt 8 = .ok (.if_icmp .ge 12, 3) := by decide +kernel
theorem dX3_openAtomAt_11 : decode cX3_openAtomAt 11 = .ok (.aload_n 0, 1) := by decide +kernel
theorem dX3_openAtomAt_12 : decode cX3_openAtomAt 12 = .ok (.getfield 41, 3) := by decide +kernel
theorem dX3_openAtomAt_15 : decode cX3_openAtomAt 15 = .ok (.iload_n 1, 1) := by decide +kernel
theorem dX3_openAtomAt_16 : decode cX3_openAtomAt 16 = .ok (.iaload, 1) := by decide +kernel
theorem dX3_openAtomAt_17 : decode cX3_openAtomAt 17 = .ok (.goto 4, 3) := by decide +kernel
theorem dX3_openAtomAt_20 : decode cX3_openAtomAt 20 = .ok (.iconst (-1), 1) := by decide +kernel
theorem dX3_openAtomAt_21 : decode cX3_openAtomAt 21 = .ok (.ireturn, 1) := by decide +kernel
def wW_k_X3_openAtomAt (ty : Nat → ClassId) (X : Nat → Nat) (z9_0 : Int32) (z9_1 : Int32) (z9_2 : Int32) (z9_3 : Int32) (z9_4 : Int32) (z9_5 : Int32) (z9_6 : Nat → Int32) : va_W := [((X 8), .inr (5, [.ref (X 1), .ref (X 9), .ref (X 10), .ref (X 12), .ref (X 14), .int z9_0, .ref (X 15), .ref (X 16), .ref (X 17), .int z9_1, .ref (X 18), .ref (X 19), .int z9_2, .int z9_3, .int z9_4, .int z9_5])), ((X 18), .inl (ty 0, 384, .inl z9_6))]
def vs_k_X3_openAtomAt : List Cond := .code yX3_openAtomAt cX3_openAtomAt 2 (some .int) :: ([.fieldLink RX3 41 "AnswerFold$Grounding" "openAtoms" "[I"] ++ (u_ws RX3 TX3 16))
theorem iv_k_X3_openAtomAt_X3 : ∀ w ∈ u_ws RX3 TX3 16, w ∈ vs_k_X3_openAtomAt := (fun _ h => List.mem_cons_of_mem _ (List.mem_append_right _ (h)))
set_option maxHeartbeats 4000000 in
set_option maxRecDepth 100000 in
theorem k_X3_openAtomAt (l : Launch) (D : va_G) (ty : Nat → ClassId) (td mi sz : Nat) (X : Nat → Nat) (hn : Int32) (kn : Int32) (on : Int32) (cu : Int32) (pu : Int32) (gw : Int32) (oa : Nat → Int32) (a1 : Int32) (TT : r_k_X3_openAtomAt) (hTT : TT = m_k_X3_openAtomAt oa a1) : Met l yX3_openAtomAt vs_k_X3_openAtomAt { frames := 0, cells := 0, slots := 0, locals := 0 } (va_Pc [.ref (X 8), .int a1] (wq_P D ty td mi (wW_k_X3_openAtomAt ty X hn kn on cu pu gw oa) sz)) (va_Qi (fun (r : Int32) (u : va_W) => (r = TT ∧ (u = (wW_k_X3_openAtomAt ty X hn kn on cu pu gw oa)))) (wq_B D (va_A (wW_k_X3_openAtomAt ty X hn kn on cu pu gw oa) sz)) (va_A (wW_k_X3_openAtomAt ty X hn kn on cu pu gw oa) sz)) 0 0 (va_A (wW_k_X3_openAtomAt ty X hn kn on cu pu gw oa) sz) := by
  refine Met.ofW (cc := cX3_openAtomAt) (maxL := 2) (ret := (some .int)) (by decide) rfl ?_
  intro p e s m args below meth c s₁ B hml hv
  obtain ⟨rfl, hsz, hP, hK, hD0, hE⟩ := hv
  have hx := B.exec
  have hb := B.bytes
  have hr := B.returns
  have hts := atoms_spec (ws := vs_k_X3_openAtomAt) B.pre
  have hown : s.vm.findClass RX3 = some m.cls := findClass_of_methodNamed B.named
  have hlocks := B.notSynchronized
  subst hsz
  have hD := hD0.self (sz := s.heap.size)
  generalize hAe : va_A (wW_k_X3_openAtomAt ty X hn kn on cu pu gw oa) s.heap.size = A at hD hE ⊢
  have hA : ∀ q : Nat, s.heap.size ≤ q → A q := fun q h => by rw [← hAe]; exact Or.inr h
  have hS : va_S A s.heap s.heap [] := va_S.rf
  have hP : va_P D vwCl (wW_k_X3_openAtomAt ty X hn kn on cu pu gw oa) s.heap := hP
  have hl := lv_entry ([.ref (X 8), .int a1]) (n := 2) (Nat.le_of_ble_eq_true rfl)
  rw [lg_entry_eq]
  generalize (lg_sl ([.ref (X 8), .int a1]) ++ List.replicate (2 - (lg_sl ([.ref (X 8), .int a1])).length) Slot.unset).toArray = ls at hl ⊢
  have hl : lv_has ls 2 [(0, .ref (X 8)), (1, .int a1)] := hl
  have END : ∀ (r : Int32), TT = r → ∀ (H : Heap) (locs : List Loc), va_P D vwCl (wW_k_X3_openAtomAt ty X hn kn on cu pu gw oa) H → va_D A (wW_k_X3_openAtomAt ty X hn kn on cu pu gw oa) → va_S A s.heap H locs → ∀ (ls : Array Slot) (pc : Nat), decode cX3_openAtomAt pc = .ok (.ireturn, 1) → W p l e (headSpec vs_k_X3_openAtomAt { frames := 0, cells := 0, slots := 0, locals := 0 }).room s m ([.ref (X 8), .int a1] : List Value).toArray below meth c H locs 0 0 (MQ below (va_Qi (fun (r : Int32) (u : va_W) => (r = TT ∧ (u = (wW_k_X3_openAtomAt ty X hn kn on cu pu gw oa)))) (wq_B D A) A) ([.ref (X 8), .int a1] : List Value).toArray s 0 0 A) (F0 m pc ls [.int r]) := by
    intro r hT H locs hP hD hS ls pc hd
    have hM : TT = r := hT
    exact W.iret (v := r) hx hb hr (fun t ht hW => ⟨⟨r, (wW_k_X3_openAtomAt ty X hn kn on cu pu gw oa), rfl, ⟨(by rw [hM]), rfl⟩, wq_B.of ht hP hD⟩, hS.F ht⟩) hS.2.2 hd
  have hT := hTT
  rw [m_k_X3_openAtomAt] at hT
  refine lv_iload_n hx hb dX3_openAtomAt_0 rfl (lv_at hl 1 rfl) ?_
  refine lv_if_lt (tgt := 20) hx hb dX3_openAtomAt_1 (by decide) (fun c_1 => ?_) (fun c_1 => ?_)
  · rw [if_pos c_1] at hT
    refine lv_iconst (v := (-1)) hx hb dX3_openAtomAt_20 (by decide) ?_
    exact END (-1) hT _ _ hP hD hS _ _ dX3_openAtomAt_21
  · rw [if_neg c_1] at hT
    refine lv_iload_n hx hb dX3_openAtomAt_4 rfl (lv_at hl 1 rfl) ?_
    refine lv_sipush (v := 384) hx hb dX3_openAtomAt_5 (by decide) ?_
    refine lv_icmp_ge (tgt := 20) hx hb dX3_openAtomAt_8 (by decide) (fun c_2 => ?_) (fun c_2 => ?_)
    · rw [if_pos c_2] at hT
      refine lv_iconst (v := (-1)) hx hb dX3_openAtomAt_20 (by decide) ?_
      exact END (-1) hT _ _ hP hD hS _ _ dX3_openAtomAt_21
    · rw [if_neg c_2] at hT
      refine lv_aload_n hx hb dX3_openAtomAt_11 rfl (lv_at hl 0 rfl) ?_
      refine va_get (D := D) (ci := 5) (v := .ref (X 18)) (C := RX3) (T := TX3) (N := 16) hx hb hts iv_k_X3_openAtomAt_X3 hown hK hP 0 rfl rfl 10 (by decide) (hts (.fieldLink RX3 41 "AnswerFold$Grounding" "openAtoms" "[I") (by decide +kernel)) (fun _ h9 => h9) rfl dX3_openAtomAt_12 ?_
      refine lv_iload_n hx hb dX3_openAtomAt_15 rfl (lv_at hl 1 rfl) ?_
      refine va_iald (D := D) hx hb hK hP 1 0 rfl rfl (wi_in (wi_lo c_1) (wi_hi c_2 (by decide))) dX3_openAtomAt_16 ?_
      refine lv_goto (tgt := 21) hx hb dX3_openAtomAt_17 (by decide) ?_
      exact END (oa a1.toNatClampNeg) hT _ _ hP hD hS _ _ dX3_openAtomAt_21
theorem dX3_keptOf_0 : decode cX3_keptOf 0 = .ok (.iload_n 1, 1) := by decide +kernel
theorem dX3_keptOf_1 : decode cX3_keptOf 1 = .ok (.ifCond .lt 18, 3) := by decide +kernel
theorem dX3_keptOf_4 : decode cX3_keptOf 4 = .ok (.iload_n 1, 1) := by decide +kernel
theorem dX3_keptOf_5 : decode cX3_keptOf 5 = .ok (.bipush 20, 2) := by decide +kernel
theorem dX3_keptOf_7 : decode cX3_keptOf 7 = .ok (.if_icmp .ge 12, 3) := by decide +kernel
theorem dX3_keptOf_10 : decode cX3_keptOf 10 = .ok (.aload_n 0, 1) := by decide +kernel
theorem dX3_keptOf_11 : decode cX3_keptOf 11 = .ok (.getfield 38, 3) := by decide +kernel
theorem dX3_keptOf_14 : decode cX3_keptOf 14 = .ok (.iload_n 1, 1) := by decide +kernel
theorem dX3_keptOf_15 : decode cX3_keptOf 15 = .ok (.iaload, 1) := by decide +kernel
theorem dX3_keptOf_16 : decode cX3_keptOf 16 = .ok (.goto 4, 3) := by decide +kernel
theorem dX3_keptOf_19 : decode cX3_keptOf 19 = .ok (.iconst 0, 1) := by decide +kernel
theorem dX3_keptOf_20 : decode cX3_keptOf 20 = .ok (.ireturn, 1) := by decide +kernel
def wW_k_X3_keptOf (ty : Nat → ClassId) (X : Nat → Nat) (z9_0 : Int32) (z9_1 : Int32) (z9_2 : Int32) (z9_3 : Int32) (z9_4 : Int32) (z9_5 : Int32) (z9_6 : Nat → Int32) : va_W := [((X 8), .inr (5, [.ref (X 1), .ref (X 9), .ref (X 10), .ref (X 12), .ref (X 14), .int z9_0, .ref (X 15), .ref (X 16), .ref (X 17), .int z9_1, .ref (X 18), .ref (X 19), .int z9_2, .int z9_3, .int z9_4, .int z9_5])), ((X 17), .inl (ty 0, 20, .inl z9_6))]
def vs_k_X3_keptOf : List Cond := .code yX3_keptOf cX3_keptOf 2 (some .int) :: ([.fieldLink RX3 38 "AnswerFold$Grounding" "keptByRule" "[I"] ++ (u_ws RX3 TX3 16))
theorem iv_k_X3_keptOf_X3 : ∀ w ∈ u_ws RX3 TX3 16, w ∈ vs_k_X3_keptOf := (fun _ h => List.mem_cons_of_mem _ (List.mem_append_right _ (h)))
set_option maxHeartbeats 4000000 in
set_option maxRecDepth 100000 in
theorem k_X3_keptOf (l : Launch) (D : va_G) (ty : Nat → ClassId) (td mi sz : Nat) (X : Nat → Nat) (hn : Int32) (kn : Int32) (on : Int32) (cu : Int32) (pu : Int32) (gw : Int32) (kb : Nat → Int32) (a1 : Int32) (TT : r_k_X3_keptOf) (hTT : TT = m_k_X3_keptOf kb a1) : Met l yX3_keptOf vs_k_X3_keptOf { frames := 0, cells := 0, slots := 0, locals := 0 } (va_Pc [.ref (X 8), .int a1] (wq_P D ty td mi (wW_k_X3_keptOf ty X hn kn on cu pu gw kb) sz)) (va_Qi (fun (r : Int32) (u : va_W) => (r = TT ∧ (u = (wW_k_X3_keptOf ty X hn kn on cu pu gw kb)))) (wq_B D (va_A (wW_k_X3_keptOf ty X hn kn on cu pu gw kb) sz)) (va_A (wW_k_X3_keptOf ty X hn kn on cu pu gw kb) sz)) 0 0 (va_A (wW_k_X3_keptOf ty X hn kn on cu pu gw kb) sz) := by
  refine Met.ofW (cc := cX3_keptOf) (maxL := 2) (ret := (some .int)) (by decide) rfl ?_
  intro p e s m args below meth c s₁ B hml hv
  obtain ⟨rfl, hsz, hP, hK, hD0, hE⟩ := hv
  have hx := B.exec
  have hb := B.bytes
  have hr := B.returns
  have hts := atoms_spec (ws := vs_k_X3_keptOf) B.pre
  have hown : s.vm.findClass RX3 = some m.cls := findClass_of_methodNamed B.named
  have hlocks := B.notSynchronized
  subst hsz
  have hD := hD0.self (sz := s.heap.size)
  generalize hAe : va_A (wW_k_X3_keptOf ty X hn kn on cu pu gw kb) s.heap.size = A at hD hE ⊢
  have hA : ∀ q : Nat, s.heap.size ≤ q → A q := fun q h => by rw [← hAe]; exact Or.inr h
  have hS : va_S A s.heap s.heap [] := va_S.rf
  have hP : va_P D vwCl (wW_k_X3_keptOf ty X hn kn on cu pu gw kb) s.heap := hP
  have hl := lv_entry ([.ref (X 8), .int a1]) (n := 2) (Nat.le_of_ble_eq_true rfl)
  rw [lg_entry_eq]
  generalize (lg_sl ([.ref (X 8), .int a1]) ++ List.replicate (2 - (lg_sl ([.ref (X 8), .int a1])).length) Slot.unset).toArray = ls at hl ⊢
  have hl : lv_has ls 2 [(0, .ref (X 8)), (1, .int a1)] := hl
  have END : ∀ (r : Int32), TT = r → ∀ (H : Heap) (locs : List Loc), va_P D vwCl (wW_k_X3_keptOf ty X hn kn on cu pu gw kb) H → va_D A (wW_k_X3_keptOf ty X hn kn on cu pu gw kb) → va_S A s.heap H locs → ∀ (ls : Array Slot) (pc : Nat), decode cX3_keptOf pc = .ok (.ireturn, 1) → W p l e (headSpec vs_k_X3_keptOf { frames := 0, cells := 0, slots := 0, locals := 0 }).room s m ([.ref (X 8), .int a1] : List Value).toArray below meth c H locs 0 0 (MQ below (va_Qi (fun (r : Int32) (u : va_W) => (r = TT ∧ (u = (wW_k_X3_keptOf ty X hn kn on cu pu gw kb)))) (wq_B D A) A) ([.ref (X 8), .int a1] : List Value).toArray s 0 0 A) (F0 m pc ls [.int r]) := by
    intro r hT H locs hP hD hS ls pc hd
    have hM : TT = r := hT
    exact W.iret (v := r) hx hb hr (fun t ht hW => ⟨⟨r, (wW_k_X3_keptOf ty X hn kn on cu pu gw kb), rfl, ⟨(by rw [hM]), rfl⟩, wq_B.of ht hP hD⟩, hS.F ht⟩) hS.2.2 hd
  have hT := hTT
  rw [m_k_X3_keptOf] at hT
  refine lv_iload_n hx hb dX3_keptOf_0 rfl (lv_at hl 1 rfl) ?_
  refine lv_if_lt (tgt := 19) hx hb dX3_keptOf_1 (by decide) (fun c_1 => ?_) (fun c_1 => ?_)
  · rw [if_pos c_1] at hT
    refine lv_iconst (v := 0) hx hb dX3_keptOf_19 (by decide) ?_
    exact END 0 hT _ _ hP hD hS _ _ dX3_keptOf_20
  · rw [if_neg c_1] at hT
    refine lv_iload_n hx hb dX3_keptOf_4 rfl (lv_at hl 1 rfl) ?_
    refine lv_bipush (v := 20) hx hb dX3_keptOf_5 (by decide) ?_
    refine lv_icmp_ge (tgt := 19) hx hb dX3_keptOf_7 (by decide) (fun c_2 => ?_) (fun c_2 => ?_)
    · rw [if_pos c_2] at hT
      refine lv_iconst (v := 0) hx hb dX3_keptOf_19 (by decide) ?_
      exact END 0 hT _ _ hP hD hS _ _ dX3_keptOf_20
    · rw [if_neg c_2] at hT
      refine lv_aload_n hx hb dX3_keptOf_10 rfl (lv_at hl 0 rfl) ?_
      refine va_get (D := D) (ci := 5) (v := .ref (X 17)) (C := RX3) (T := TX3) (N := 16) hx hb hts iv_k_X3_keptOf_X3 hown hK hP 0 rfl rfl 8 (by decide) (hts (.fieldLink RX3 38 "AnswerFold$Grounding" "keptByRule" "[I") (by decide +kernel)) (fun _ h9 => h9) rfl dX3_keptOf_11 ?_
      refine lv_iload_n hx hb dX3_keptOf_14 rfl (lv_at hl 1 rfl) ?_
      refine va_iald (D := D) hx hb hK hP 1 0 rfl rfl (wi_in (wi_lo c_1) (wi_hi c_2 (by decide))) dX3_keptOf_15 ?_
      refine lv_goto (tgt := 20) hx hb dX3_keptOf_16 (by decide) ?_
      exact END (kb a1.toNatClampNeg) hT _ _ hP hD hS _ _ dX3_keptOf_20
theorem dX3_keptRuleAt_0 : decode cX3_keptRuleAt 0 = .ok (.iload_n 1, 1) := by decide +kernel
theorem dX3_keptRuleAt_1 : decode cX3_keptRuleAt 1 = .ok (.ifCond .lt 19, 3) := by decide +kernel
theorem dX3_keptRuleAt_4 : decode cX3_keptRuleAt 4 = .ok (.iload_n 1, 1) := by decide +kernel
theorem dX3_keptRuleAt_5 : decode cX3_keptRuleAt 5 = .ok (.sipush 300, 3) := by decide +kernel
theorem dX3_keptRuleAt_8 : decode cX3_keptRuleAt 8 = .ok (.if_icmp .ge 12, 3) := by decide +kernel
theorem dX3_keptRuleAt_11 : decode cX3_keptRuleAt 11 = .ok (.aload_n 0, 1) := by decide +kernel
theorem dX3_keptRuleAt_12 : decode cX3_keptRuleAt 12 = .ok (.getfield 32, 3) := by decide +kernel
theorem dX3_keptRuleAt_15 : decode cX3_keptRuleAt 15 = .ok (.iload_n 1, 1) := by decide +kernel
theorem dX3_keptRuleAt_16 : decode cX3_keptRuleAt 16 = .ok (.iaload, 1) := by decide +kernel
theorem dX3_keptRuleAt_17 : decode cX3_keptRuleAt 17 = .ok (.goto 4, 3) := by decide +kernel
theorem dX3_keptRuleAt_20 : decode cX3_keptRuleAt 20 = .ok (.iconst (-1), 1) := by decide +kernel
theorem dX3_keptRuleAt_21 : decode cX3_keptRuleAt 21 = .ok (.ireturn, 1) := by decide +kernel
def wW_k_X3_keptRuleAt (ty : Nat → ClassId) (X : Nat → Nat) (z9_0 : Int32) (z9_1 : Int32) (z9_2 : Int32) (z9_3 : Int32) (z9_4 : Int32) (z9_5 : Int32) (z9_6 : Nat → Int32) : va_W := [((X 8), .inr (5, [.ref (X 1), .ref (X 9), .ref (X 10), .ref (X 12), .ref (X 14), .int z9_0, .ref (X 15), .ref (X 16), .ref (X 17), .int z9_1, .ref (X 18), .ref (X 19), .int z9_2, .int z9_3, .int z9_4, .int z9_5])), ((X 15), .inl (ty 0, 300, .inl z9_6))]
def vs_k_X3_keptRuleAt : List Cond := .code yX3_keptRuleAt cX3_keptRuleAt 2 (some .int) :: ([.fieldLink RX3 32 "AnswerFold$Grounding" "keptRule" "[I"] ++ (u_ws RX3 TX3 16))
theorem iv_k_X3_keptRuleAt_X3 : ∀ w ∈ u_ws RX3 TX3 16, w ∈ vs_k_X3_keptRuleAt := (fun _ h => List.mem_cons_of_mem _ (List.mem_append_right _ (h)))
set_option maxHeartbeats 4000000 in
set_option maxRecDepth 100000 in
theorem k_X3_keptRuleAt (l : Launch) (D : va_G) (ty : Nat → ClassId) (td mi sz : Nat) (X : Nat → Nat) (hn : Int32) (kn : Int32) (on : Int32) (cu : Int32) (pu : Int32) (gw : Int32) (kr : Nat → Int32) (a1 : Int32) (TT : r_k_X3_keptRuleAt) (hTT : TT = m_k_X3_keptRuleAt kr a1) : Met l yX3_keptRuleAt vs_k_X3_keptRuleAt { frames := 0, cells := 0, slots := 0, locals := 0 } (va_Pc [.ref (X 8), .int a1] (wq_P D ty td mi (wW_k_X3_keptRuleAt ty X hn kn on cu pu gw kr) sz)) (va_Qi (fun (r : Int32) (u : va_W) => (r = TT ∧ (u = (wW_k_X3_keptRuleAt ty X hn kn on cu pu gw kr)))) (wq_B D (va_A (wW_k_X3_keptRuleAt ty X hn kn on cu pu gw kr) sz)) (va_A (wW_k_X3_keptRuleAt ty X hn kn on cu pu gw kr) sz)) 0 0 (va_A (wW_k_X3_keptRuleAt ty X hn kn on cu pu gw kr) sz) := by
  refine Met.ofW (cc := cX3_keptRuleAt) (maxL := 2) (ret := (some .int)) (by decide) rfl ?_
  intro p e s m args below meth c s₁ B hml hv
  obtain ⟨rfl, hsz, hP, hK, hD0, hE⟩ := hv
  have hx := B.exec
  have hb := B.bytes
  have hr := B.returns
  have hts := atoms_spec (ws := vs_k_X3_keptRuleAt) B.pre
  have hown : s.vm.findClass RX3 = some m.cls := findClass_of_methodNamed B.named
  have hlocks := B.notSynchronized
  subst hsz
  have hD := hD0.self (sz := s.heap.size)
  generalize hAe : va_A (wW_k_X3_keptRuleAt ty X hn kn on cu pu gw kr) s.heap.size = A at hD hE ⊢
  have hA : ∀ q : Nat, s.heap.size ≤ q → A q := fun q h => by rw [← hAe]; exact Or.inr h
  have hS : va_S A s.heap s.heap [] := va_S.rf
  have hP : va_P D vwCl (wW_k_X3_keptRuleAt ty X hn kn on cu pu gw kr) s.heap := hP
  have hl := lv_entry ([.ref (X 8), .int a1]) (n := 2) (Nat.le_of_ble_eq_true rfl)
  rw [lg_entry_eq]
  generalize (lg_sl ([.ref (X 8), .int a1]) ++ List.replicate (2 - (lg_sl ([.ref (X 8), .int a1])).length) Slot.unset).toArray = ls at hl ⊢
  have hl : lv_has ls 2 [(0, .ref (X 8)), (1, .int a1)] := hl
  have END : ∀ (r : Int32), TT = r → ∀ (H : Heap) (locs : List Loc), va_P D vwCl (wW_k_X3_keptRuleAt ty X hn kn on cu pu gw kr) H → va_D A (wW_k_X3_keptRuleAt ty X hn kn on cu pu gw kr) → va_S A s.heap H locs → ∀ (ls : Array Slot) (pc : Nat), decode cX3_keptRuleAt pc = .ok (.ireturn, 1) → W p l e (headSpec vs_k_X3_keptRuleAt { frames := 0, cells := 0, slots := 0, locals := 0 }).room s m ([.ref (X 8), .int a1] : List Value).toArray below meth c H locs 0 0 (MQ below (va_Qi (fun (r : Int32) (u : va_W) => (r = TT ∧ (u = (wW_k_X3_keptRuleAt ty X hn kn on cu pu gw kr)))) (wq_B D A) A) ([.ref (X 8), .int a1] : List Value).toArray s 0 0 A) (F0 m pc ls [.int r]) := by
    intro r hT H locs hP hD hS ls pc hd
    have hM : TT = r := hT
    exact W.iret (v := r) hx hb hr (fun t ht hW => ⟨⟨r, (wW_k_X3_keptRuleAt ty X hn kn on cu pu gw kr), rfl, ⟨(by rw [hM]), rfl⟩, wq_B.of ht hP hD⟩, hS.F ht⟩) hS.2.2 hd
  have hT := hTT
  rw [m_k_X3_keptRuleAt] at hT
  refine lv_iload_n hx hb dX3_keptRuleAt_0 rfl (lv_at hl 1 rfl) ?_
  refine lv_if_lt (tgt := 20) hx hb dX3_keptRuleAt_1 (by decide) (fun c_1 => ?_) (fun c_1 => ?_)
  · rw [if_pos c_1] at hT
    refine lv_iconst (v := (-1)) hx hb dX3_keptRuleAt_20 (by decide) ?_
    exact END (-1) hT _ _ hP hD hS _ _ dX3_keptRuleAt_21
  · rw [if_neg c_1] at hT
    refine lv_iload_n hx hb dX3_keptRuleAt_4 rfl (lv_at hl 1 rfl) ?_
    refine lv_sipush (v := 300) hx hb dX3_keptRuleAt_5 (by decide) ?_
    refine lv_icmp_ge (tgt := 20) hx hb dX3_keptRuleAt_8 (by decide) (fun c_2 => ?_) (fun c_2 => ?_)
    · rw [if_pos c_2] at hT
      refine lv_iconst (v := (-1)) hx hb dX3_keptRuleAt_20 (by decide) ?_
      exact END (-1) hT _ _ hP hD hS _ _ dX3_keptRuleAt_21
    · rw [if_neg c_2] at hT
      refine lv_aload_n hx hb dX3_keptRuleAt_11 rfl (lv_at hl 0 rfl) ?_
      refine va_get (D := D) (ci := 5) (v := .ref (X 15)) (C := RX3) (T := TX3) (N := 16) hx hb hts iv_k_X3_keptRuleAt_X3 hown hK hP 0 rfl rfl 6 (by decide) (hts (.fieldLink RX3 32 "AnswerFold$Grounding" "keptRule" "[I") (by decide +kernel)) (fun _ h9 => h9) rfl dX3_keptRuleAt_12 ?_
      refine lv_iload_n hx hb dX3_keptRuleAt_15 rfl (lv_at hl 1 rfl) ?_
      refine va_iald (D := D) hx hb hK hP 1 0 rfl rfl (wi_in (wi_lo c_1) (wi_hi c_2 (by decide))) dX3_keptRuleAt_16 ?_
      refine lv_goto (tgt := 21) hx hb dX3_keptRuleAt_17 (by decide) ?_
      exact END (kr a1.toNatClampNeg) hT _ _ hP hD hS _ _ dX3_keptRuleAt_21
theorem dX3_keep_0 : decode cX3_keep 0 = .ok (.iload_n 1, 1) := by decide +kernel
theorem dX3_keep_1 : decode cX3_keep 1 = .ok (.ifCond .lt 9, 3) := by decide +kernel
theorem dX3_keep_4 : decode cX3_keep 4 = .ok (.iload_n 1, 1) := by decide +kernel
theorem dX3_keep_5 : decode cX3_keep 5 = .ok (.bipush 20, 2) := by decide +kernel
theorem dX3_keep_7 : decode cX3_keep 7 = .ok (.if_icmp .lt 4, 3) := by decide +kernel
theorem dX3_keep_10 : decode cX3_keep 10 = .ok (.return_, 1) := by decide +kernel
theorem dX3_keep_11 : decode cX3_keep 11 = .ok (.aload_n 0, 1) := by decide +kernel
theorem dX3_keep_12 : decode cX3_keep 12 = .ok (.getfield 132, 3) := by decide +kernel
theorem dX3_keep_15 : decode cX3_keep 15 = .ok (.ifCond .lt 33, 3) := by decide +kernel
theorem dX3_keep_18 : decode cX3_keep 18 = .ok (.aload_n 0, 1) := by decide +kernel
theorem dX3_keep_19 : decode cX3_keep 19 = .ok (.getfield 132, 3) := by decide +kernel
theorem dX3_keep_22 : decode cX3_keep 22 = .ok (.sipush 300, 3) := by decide +kernel
theorem dX3_keep_25 : decode cX3_keep 25 = .ok (.if_icmp .ge 23, 3) := by decide +kernel
theorem dX3_keep_28 : decode cX3_keep 28 = .ok (.aload_n 0, 1) := by decide +kernel
theorem dX3_keep_29 : decode cX3_keep 29 = .ok (.getfield 32, 3) := by decide +kernel
theorem dX3_keep_32 : decode cX3_keep 32 = .ok (.aload_n 0, 1) := by decide +kernel
theorem dX3_keep_33 : decode cX3_keep 33 = .ok (.getfield 132, 3) := by decide +kernel
theorem dX3_keep_36 : decode cX3_keep 36 = .ok (.iload_n 1, 1) := by decide +kernel
theorem dX3_keep_37 : decode cX3_keep 37 = .ok (.iastore, 1) := by decide +kernel
theorem dX3_keep_38 : decode cX3_keep 38 = .ok (.aload_n 0, 1) := by decide +kernel
theorem dX3_keep_39 : decode cX3_keep 39 = .ok (.getfield 35, 3) := by decide +kernel
theorem dX3_keep_42 : decode cX3_keep 42 = .ok (.aload_n 0, 1) := by decide +kernel
theorem dX3_keep_43 : decode cX3_keep 43 = .ok (.getfield 132, 3) := by decide +kernel
theorem dX3_keep_46 : decode cX3_keep 46 = .ok (.iload_n 2, 1) := by decide +kernel
theorem dX3_keep_47 : decode cX3_keep 47 = .ok (.iastore, 1) := by decide +kernel
theorem dX3_keep_48 : decode cX3_keep 48 = .ok (.aload_n 0, 1) := by decide +kernel
theorem dX3_keep_49 : decode cX3_keep 49 = .ok (.getfield 38, 3) := by decide +kernel
theorem dX3_keep_52 : decode cX3_keep 52 = .ok (.iload_n 1, 1) := by decide +kernel
theorem dX3_keep_53 : decode cX3_keep 53 = .ok (.dup2, 1) := by decide +kernel
theorem dX3_keep_54 : decode cX3_keep 54 = .ok (.iaload, 1) := by decide +kernel
theorem dX3_keep_55 : decode cX3_keep 55 = .ok (.iconst 1, 1) := by decide +kernel
theorem dX3_keep_56 : decode cX3_keep 56 = .ok (.iadd, 1) := by decide +kernel
theorem dX3_keep_57 : decode cX3_keep 57 = .ok (.iastore, 1) := by decide +kernel
theorem dX3_keep_58 : decode cX3_keep 58 = .ok (.aload_n 0, 1) := by decide +kernel
theorem dX3_keep_59 : decode cX3_keep 59 = .ok (.dup, 1) := by decide +kernel
theorem dX3_keep_60 : decode cX3_keep 60 = .ok (.getfield 132, 3) := by decide +kernel
theorem dX3_keep_63 : decode cX3_keep 63 = .ok (.iconst 1, 1) := by decide +kernel
theorem dX3_keep_64 : decode cX3_keep 64 = .ok (.iadd, 1) := by decide +kernel
theorem dX3_keep_65 : decode cX3_keep 65 = .ok (.putfield 132, 3) := by decide +kernel
theorem dX3_keep_68 : decode cX3_keep 68 = .ok (.return_, 1) := by decide +kernel
def wW_k_X3_keep (ty : Nat → ClassId) (X : Nat → Nat) (z9_0 : Int32) (z9_1 : Int32) (z9_2 : Int32) (z9_3 : Int32) (z9_4 : Int32) (z9_5 : Int32) (z9_6 : Nat → Int32) (z9_7 : Nat → Int32) (z9_8 : Nat → Int32) : va_W := [((X 8), .inr (5, [.ref (X 1), .ref (X 9), .ref (X 10), .ref (X 12), .ref (X 14), .int z9_0, .ref (X 15), .ref (X 16), .ref (X 17), .int z9_1, .ref (X 18), .ref (X 19), .int z9_2, .int z9_3, .int z9_4, .int z9_5])), ((X 15), .inl (ty 0, 300, .inl z9_6)), ((X 16), .inl (ty 0, 300, .inl z9_7)), ((X 17), .inl (ty 0, 20, .inl z9_8))]
def vs_k_X3_keep : List Cond := .code yX3_keep cX3_keep 3 none :: ([.fieldLink RX3 132 "AnswerFold$Grounding" "keptCount" "I", .fieldLink RX3 38 "AnswerFold$Grounding" "keptByRule" "[I", .fieldLink RX3 32 "AnswerFold$Grounding" "keptRule" "[I", .fieldLink RX3 35 "AnswerFold$Grounding" "keptValues" "[I"] ++ (u_ws RX3 TX3 16))
theorem iv_k_X3_keep_X3 : ∀ w ∈ u_ws RX3 TX3 16, w ∈ vs_k_X3_keep := (fun _ h => List.mem_cons_of_mem _ (List.mem_append_right _ (h)))
set_option maxHeartbeats 4000000 in
set_option maxRecDepth 100000 in
theorem k_X3_keep (l : Launch) (D : va_G) (ty : Nat → ClassId) (td mi sz : Nat) (X : Nat → Nat) (hn : Int32) (kn : Int32) (on : Int32) (cu : Int32) (pu : Int32) (gw : Int32) (kr : Nat → Int32) (kv : Nat → Int32) (kb : Nat → Int32) (a1 : Int32) (a2 : Int32) (TT : r_k_X3_keep) (hTT : TT = m_k_X3_keep kn kr kv kb a1 a2) : Met l yX3_keep vs_k_X3_keep { frames := 0, cells := 0, slots := 0, locals := 0 } (va_Pc [.ref (X 8), .int a1, .int a2] (wq_P D ty td mi (wW_k_X3_keep ty X hn kn on cu pu gw kr kv kb) sz)) (va_Qv (fun u : va_W => ((u = (wW_k_X3_keep ty X hn TT.2.2.2 on cu pu gw TT.1 TT.2.1 TT.2.2.1)))) (wq_B D (va_A (wW_k_X3_keep ty X hn kn on cu pu gw kr kv kb) sz)) (va_A (wW_k_X3_keep ty X hn kn on cu pu gw kr kv kb) sz)) 0 0 (va_A (wW_k_X3_keep ty X hn kn on cu pu gw kr kv kb) sz) := by
  refine Met.ofW (cc := cX3_keep) (maxL := 3) (ret := none) (by decide) rfl ?_
  intro p e s m args below meth c s₁ B hml hv
  obtain ⟨rfl, hsz, hP, hK, hD0, hE⟩ := hv
  have hx := B.exec
  have hb := B.bytes
  have hr := B.returns
  have hts := atoms_spec (ws := vs_k_X3_keep) B.pre
  have hown : s.vm.findClass RX3 = some m.cls := findClass_of_methodNamed B.named
  have hlocks := B.notSynchronized
  subst hsz
  have hD := hD0.self (sz := s.heap.size)
  generalize hAe : va_A (wW_k_X3_keep ty X hn kn on cu pu gw kr kv kb) s.heap.size = A at hD hE ⊢
  have hA : ∀ q : Nat, s.heap.size ≤ q → A q := fun q h => by rw [← hAe]; exact Or.inr h
  have hS : va_S A s.heap s.heap [] := va_S.rf
  have hP : va_P D vwCl (wW_k_X3_keep ty X hn kn on cu pu gw kr kv kb) s.heap := hP
  have hl := lv_entry ([.ref (X 8), .int a1, .int a2]) (n := 3) (Nat.le_of_ble_eq_true rfl)
  rw [lg_entry_eq]
  generalize (lg_sl ([.ref (X 8), .int a1, .int a2]) ++ List.replicate (3 - (lg_sl ([.ref (X 8), .int a1, .int a2])).length) Slot.unset).toArray = ls at hl ⊢
  have hl : lv_has ls 3 [(0, .ref (X 8)), (1, .int a1), (2, .int a2)] := hl
  have END : ∀ (w9_0 : Nat → Int32) (w9_1 : Nat → Int32) (w9_2 : Nat → Int32) (w9_3 : Int32), TT = (w9_0, w9_1, w9_2, w9_3) → ∀ (H : Heap) (locs : List Loc), va_P D vwCl (wW_k_X3_keep ty X hn w9_3 on cu pu gw w9_0 w9_1 w9_2) H → va_D A (wW_k_X3_keep ty X hn w9_3 on cu pu gw w9_0 w9_1 w9_2) → va_S A s.heap H locs → ∀ (ls : Array Slot) (pc : Nat), decode cX3_keep pc = .ok (.return_, 1) → W p l e (headSpec vs_k_X3_keep { frames := 0, cells := 0, slots := 0, locals := 0 }).room s m ([.ref (X 8), .int a1, .int a2] : List Value).toArray below meth c H locs 0 0 (MQ below (va_Qv (fun u : va_W => ((u = (wW_k_X3_keep ty X hn TT.2.2.2 on cu pu gw TT.1 TT.2.1 TT.2.2.1)))) (wq_B D A) A) ([.ref (X 8), .int a1, .int a2] : List Value).toArray s 0 0 A) (F0 m pc ls []) := by
    intro w9_0 w9_1 w9_2 w9_3 hT H locs hP hD hS ls pc hd
    have hM : TT = (w9_0, w9_1, w9_2, w9_3) := hT
    exact W.vret hx hb hr (fun t ht hW => ⟨⟨(wW_k_X3_keep ty X hn w9_3 on cu pu gw w9_0 w9_1 w9_2), rfl, (by rw [hM]), wq_B.of ht hP hD⟩, hS.F ht⟩) hS.2.2 hd
  have hT := hTT
  rw [m_k_X3_keep] at hT
  refine lv_iload_n hx hb dX3_keep_0 rfl (lv_at hl 1 rfl) ?_
  refine lv_if_lt (tgt := 10) hx hb dX3_keep_1 (by decide) (fun c_1 => ?_) (fun c_1 => ?_)
  · rw [if_pos c_1] at hT
    exact END kr kv kb kn hT _ _ hP hD hS _ _ dX3_keep_10
  · rw [if_neg c_1] at hT
    refine lv_iload_n hx hb dX3_keep_4 rfl (lv_at hl 1 rfl) ?_
    refine lv_bipush (v := 20) hx hb dX3_keep_5 (by decide) ?_
    refine lv_icmp_lt (tgt := 11) hx hb dX3_keep_7 (by decide) (fun c_2 => ?_) (fun c_2 => ?_)
    · rw [if_pos c_2] at hT
      refine lv_aload_n hx hb dX3_keep_11 rfl (lv_at hl 0 rfl) ?_
      refine va_get (D := D) (ci := 5) (v := .int kn) (C := RX3) (T := TX3) (N := 16) hx hb hts iv_k_X3_keep_X3 hown hK hP 0 rfl rfl 9 (by decide) (hts (.fieldLink RX3 132 "AnswerFold$Grounding" "keptCount" "I") (by decide +kernel)) (fun _ h9 => h9) rfl dX3_keep_12 ?_
      have J_48 : ∀ (x15_f_48 : Nat → Int32) (x16_f_48 : Nat → Int32), TT = m_k_X3_keep_48 kn kb a1 x15_f_48 x16_f_48 → ∀ (H : Heap) (locs : List Loc), va_P D vwCl (wW_k_X3_keep ty X hn kn on cu pu gw x15_f_48 x16_f_48 kb) H → va_D A (wW_k_X3_keep ty X hn kn on cu pu gw x15_f_48 x16_f_48 kb) → va_S A s.heap H locs → ∀ ls : Array Slot, lv_has ls 3 [(0, .ref (X 8)), (1, .int a1)] → W p l e (headSpec vs_k_X3_keep { frames := 0, cells := 0, slots := 0, locals := 0 }).room s m ([.ref (X 8), .int a1, .int a2] : List Value).toArray below meth c H locs 0 0 (MQ below (va_Qv (fun u : va_W => ((u = (wW_k_X3_keep ty X hn TT.2.2.2 on cu pu gw TT.1 TT.2.1 TT.2.2.1)))) (wq_B D A) A) ([.ref (X 8), .int a1, .int a2] : List Value).toArray s 0 0 A) (F0 m 48 ls []) := by
        intro x15_f_48 x16_f_48 hT  H locs hP hD hS ls hl
        rw [m_k_X3_keep_48] at hT
        refine lv_aload_n hx hb dX3_keep_48 rfl (lv_at hl 0 rfl) ?_
        refine va_get (D := D) (ci := 5) (v := .ref (X 17)) (C := RX3) (T := TX3) (N := 16) hx hb hts iv_k_X3_keep_X3 hown hK hP 0 rfl rfl 8 (by decide) (hts (.fieldLink RX3 38 "AnswerFold$Grounding" "keptByRule" "[I") (by decide +kernel)) (fun _ h9 => h9) rfl dX3_keep_49 ?_
        refine lv_iload_n hx hb dX3_keep_52 rfl (lv_at hl 1 rfl) ?_
        refine lv_dup2_11 hx hb dX3_keep_53 rfl rfl ?_
        refine va_iald (D := D) hx hb hK hP 3 0 rfl rfl (wi_in (wi_lo c_1) (wi_hi (Int32.not_le.mpr c_2) (by decide))) dX3_keep_54 ?_
        refine lv_iconst (v := 1) hx hb dX3_keep_55 (by decide) ?_
        refine lv_iadd hx hb dX3_keep_56 ?_
        refine va_iast (D := D) hx hb hK hP hD hS 3 0 rfl rfl (wi_in (wi_lo c_1) (wi_hi (Int32.not_le.mpr c_2) (by decide))) dX3_keep_57 (fun H locs hP hD hS => ?_)
        have hP : va_P D vwCl (wW_k_X3_keep ty X hn kn on cu pu gw x15_f_48 x16_f_48 (upd kb a1.toNatClampNeg ((kb a1.toNatClampNeg) + 1))) H := hP
        have hD : va_D A (wW_k_X3_keep ty X hn kn on cu pu gw x15_f_48 x16_f_48 (upd kb a1.toNatClampNeg ((kb a1.toNatClampNeg) + 1))) := hD
        refine lv_aload_n hx hb dX3_keep_58 rfl (lv_at hl 0 rfl) ?_
        refine lv_dup hx hb dX3_keep_59 rfl ?_
        refine va_get (D := D) (ci := 5) (v := .int kn) (C := RX3) (T := TX3) (N := 16) hx hb hts iv_k_X3_keep_X3 hown hK hP 0 rfl rfl 9 (by decide) (hts (.fieldLink RX3 132 "AnswerFold$Grounding" "keptCount" "I") (by decide +kernel)) (fun _ h9 => h9) rfl dX3_keep_60 ?_
        refine lv_iconst (v := 1) hx hb dX3_keep_63 (by decide) ?_
        refine lv_iadd hx hb dX3_keep_64 ?_
        refine va_put (D := D) (ci := 5) (v := .int (kn + 1)) (ty := tyX3 9) (C := RX3) (T := TX3) (N := 16) hx hb hts iv_k_X3_keep_X3 tyX3 tyX3_ok nmX3 hown hK hP hD hS 0 rfl rfl 9 (by decide) (hts (.fieldLink RX3 132 "AnswerFold$Grounding" "keptCount" "I") (by decide +kernel)) (fun _ h9 => h9) rfl (by decide +kernel) rfl rfl (Nat.le_of_ble_eq_true rfl) dX3_keep_65 (fun H locs hP hD hS => ?_)
        have hP : va_P D vwCl (wW_k_X3_keep ty X hn (kn + 1) on cu pu gw x15_f_48 x16_f_48 (upd kb a1.toNatClampNeg ((kb a1.toNatClampNeg) + 1))) H := hP
        have hD : va_D A (wW_k_X3_keep ty X hn (kn + 1) on cu pu gw x15_f_48 x16_f_48 (upd kb a1.toNatClampNeg ((kb a1.toNatClampNeg) + 1))) := hD
        exact END x15_f_48 x16_f_48 (upd kb a1.toNatClampNeg ((kb a1.toNatClampNeg) + 1)) (kn + 1) hT _ _ hP hD hS _ _ dX3_keep_68
      refine lv_if_lt (tgt := 48) hx hb dX3_keep_15 (by decide) (fun c_3 => ?_) (fun c_3 => ?_)
      · rw [if_pos c_3] at hT
        exact J_48 kr kv hT _ _ hP hD hS _ (lv_sub hl [0, 1] rfl)
      · rw [if_neg c_3] at hT
        refine lv_aload_n hx hb dX3_keep_18 rfl (lv_at hl 0 rfl) ?_
        refine va_get (D := D) (ci := 5) (v := .int kn) (C := RX3) (T := TX3) (N := 16) hx hb hts iv_k_X3_keep_X3 hown hK hP 0 rfl rfl 9 (by decide) (hts (.fieldLink RX3 132 "AnswerFold$Grounding" "keptCount" "I") (by decide +kernel)) (fun _ h9 => h9) rfl dX3_keep_19 ?_
        refine lv_sipush (v := 300) hx hb dX3_keep_22 (by decide) ?_
        refine lv_icmp_ge (tgt := 48) hx hb dX3_keep_25 (by decide) (fun c_4 => ?_) (fun c_4 => ?_)
        · rw [if_pos c_4] at hT
          exact J_48 kr kv hT _ _ hP hD hS _ (lv_sub hl [0, 1] rfl)
        · rw [if_neg c_4] at hT
          refine lv_aload_n hx hb dX3_keep_28 rfl (lv_at hl 0 rfl) ?_
          refine va_get (D := D) (ci := 5) (v := .ref (X 15)) (C := RX3) (T := TX3) (N := 16) hx hb hts iv_k_X3_keep_X3 hown hK hP 0 rfl rfl 6 (by decide) (hts (.fieldLink RX3 32 "AnswerFold$Grounding" "keptRule" "[I") (by decide +kernel)) (fun _ h9 => h9) rfl dX3_keep_29 ?_
          refine lv_aload_n hx hb dX3_keep_32 rfl (lv_at hl 0 rfl) ?_
          refine va_get (D := D) (ci := 5) (v := .int kn) (C := RX3) (T := TX3) (N := 16) hx hb hts iv_k_X3_keep_X3 hown hK hP 0 rfl rfl 9 (by decide) (hts (.fieldLink RX3 132 "AnswerFold$Grounding" "keptCount" "I") (by decide +kernel)) (fun _ h9 => h9) rfl dX3_keep_33 ?_
          refine lv_iload_n hx hb dX3_keep_36 rfl (lv_at hl 1 rfl) ?_
          refine va_iast (D := D) hx hb hK hP hD hS 1 0 rfl rfl (wi_in (wi_lo c_3) (wi_hi c_4 (by decide))) dX3_keep_37 (fun H locs hP hD hS => ?_)
          have hP : va_P D vwCl (wW_k_X3_keep ty X hn kn on cu pu gw (upd kr kn.toNatClampNeg a1) kv kb) H := hP
          have hD : va_D A (wW_k_X3_keep ty X hn kn on cu pu gw (upd kr kn.toNatClampNeg a1) kv kb) := hD
          refine lv_aload_n hx hb dX3_keep_38 rfl (lv_at hl 0 rfl) ?_
          refine va_get (D := D) (ci := 5) (v := .ref (X 16)) (C := RX3) (T := TX3) (N := 16) hx hb hts iv_k_X3_keep_X3 hown hK hP 0 rfl rfl 7 (by decide) (hts (.fieldLink RX3 35 "AnswerFold$Grounding" "keptValues" "[I") (by decide +kernel)) (fun _ h9 => h9) rfl dX3_keep_39 ?_
          refine lv_aload_n hx hb dX3_keep_42 rfl (lv_at hl 0 rfl) ?_
          refine va_get (D := D) (ci := 5) (v := .int kn) (C := RX3) (T := TX3) (N := 16) hx hb hts iv_k_X3_keep_X3 hown hK hP 0 rfl rfl 9 (by decide) (hts (.fieldLink RX3 132 "AnswerFold$Grounding" "keptCount" "I") (by decide +kernel)) (fun _ h9 => h9) rfl dX3_keep_43 ?_
          refine lv_iload_n hx hb dX3_keep_46 rfl (lv_at hl 2 rfl) ?_
          refine va_iast (D := D) hx hb hK hP hD hS 2 0 rfl rfl (wi_in (wi_lo c_3) (wi_hi c_4 (by decide))) dX3_keep_47 (fun H locs hP hD hS => ?_)
          have hP : va_P D vwCl (wW_k_X3_keep ty X hn kn on cu pu gw (upd kr kn.toNatClampNeg a1) (upd kv kn.toNatClampNeg a2) kb) H := hP
          have hD : va_D A (wW_k_X3_keep ty X hn kn on cu pu gw (upd kr kn.toNatClampNeg a1) (upd kv kn.toNatClampNeg a2) kb) := hD
          exact J_48 (upd kr kn.toNatClampNeg a1) (upd kv kn.toNatClampNeg a2) hT _ _ hP hD hS _ (lv_sub hl [0, 1] rfl)
    · rw [if_neg c_2] at hT
      exact END kr kv kb kn hT _ _ hP hD hS _ _ dX3_keep_10
theorem dX3_bindKept_0 : decode cX3_bindKept 0 = .ok (.iload_n 1, 1) := by decide +kernel
theorem dX3_bindKept_1 : decode cX3_bindKept 1 = .ok (.ifCond .lt 10, 3) := by decide +kernel
theorem dX3_bindKept_4 : decode cX3_bindKept 4 = .ok (.iload_n 1, 1) := by decide +kernel
theorem dX3_bindKept_5 : decode cX3_bindKept 5 = .ok (.sipush 300, 3) := by decide +kernel
theorem dX3_bindKept_8 : decode cX3_bindKept 8 = .ok (.if_icmp .lt 5, 3) := by decide +kernel
theorem dX3_bindKept_11 : decode cX3_bindKept 11 = .ok (.aconst_null, 1) := by decide +kernel
theorem dX3_bindKept_12 : decode cX3_bindKept 12 = .ok (.areturn, 1) := by decide +kernel
theorem dX3_bindKept_13 : decode cX3_bindKept 13 = .ok (.aload_n 0, 1) := by decide +kernel
theorem dX3_bindKept_14 : decode cX3_bindKept 14 = .ok (.getfield 12, 3) := by decide +kernel
theorem dX3_bindKept_17 : decode cX3_bindKept 17 = .ok (.aload_n 0, 1) := by decide +kernel
theorem dX3_bindKept_18 : decode cX3_bindKept 18 = .ok (.getfield 35, 3) := by decide +kernel
theorem dX3_bindKept_21 : decode cX3_bindKept 21 = .ok (.iload_n 1, 1) := by decide +kernel
theorem dX3_bindKept_22 : decode cX3_bindKept 22 = .ok (.iaload, 1) := by decide +kernel
theorem dX3_bindKept_23 : decode cX3_bindKept 23 = .ok (.invokevirtual 219, 3) := by decide +kernel
theorem dX3_bindKept_26 : decode cX3_bindKept 26 = .ok (.aload_n 0, 1) := by decide +kernel
theorem dX3_bindKept_27 : decode cX3_bindKept 27 = .ok (.getfield 47, 3) := by decide +kernel
theorem dX3_bindKept_30 : decode cX3_bindKept 30 = .ok (.aload_n 0, 1) := by decide +kernel
theorem dX3_bindKept_31 : decode cX3_bindKept 31 = .ok (.getfield 32, 3) := by decide +kernel
theorem dX3_bindKept_34 : decode cX3_bindKept 34 = .ok (.iload_n 1, 1) := by decide +kernel
theorem dX3_bindKept_35 : decode cX3_bindKept 35 = .ok (.iaload, 1) := by decide +kernel
theorem dX3_bindKept_36 : decode cX3_bindKept 36 = .ok (.invokevirtual 97, 3) := by decide +kernel
theorem dX3_bindKept_39 : decode cX3_bindKept 39 = .ok (.areturn, 1) := by decide +kernel
def wW_k_X3_bindKept (ty : Nat → ClassId) (X : Nat → Nat) (z9_0 : Int32) (z9_1 : Int32) (z9_2 : Int32) (z9_3 : Int32) (z9_4 : Nat → Option Nat) (z9_5 : Int32) (z9_6 : Int32) (z9_7 : Int32) (z9_8 : Int32) (z9_9 : Int32) (z9_10 : Int32) (z9_11 : Int32) (z9_12 : Int32) (z9_13 : Int32) (z9_14 : Int32) (z9_15 : Nat → Int32) (z9_16 : Nat → Int32) : va_W := [((X 1), .inr (8, [.ref (X 2), .int z9_0, .ref (X 3), .int z9_1, .ref (X 4), .ref (X 5), .int z9_2, .ref (X 6), .ref (X 7), .int z9_3])), ((X 3), .inl (ty 4, 20, .inr (.inr (.inr (.inr z9_4))))), ((X 8), .inr (5, [.ref (X 1), .ref (X 9), .ref (X 10), .ref (X 12), .ref (X 14), .int z9_5, .ref (X 15), .ref (X 16), .ref (X 17), .int z9_6, .ref (X 18), .ref (X 19), .int z9_7, .int z9_8, .int z9_9, .int z9_10])), ((X 9), .inr (4, [.int z9_11, .int z9_12, .int z9_13, .int z9_14])), ((X 15), .inl (ty 0, 300, .inl z9_15)), ((X 16), .inl (ty 0, 300, .inl z9_16))]
theorem mm_k_X3_bindKept (pp : pT) (rn : Int32) (rf : Nat → Option Nat) (b_1 : Int32) (b_2 : Int32) (b_3 : Int32) (b_p : Int32) (kr : Nat → Int32) (kv : Nat → Int32) (a1 : Int32) (hok : pOK pp) (hru : ∀ (i a : Nat), rf i = some a → a ∈ pRA pp) (a : Nat) (h : (m_k_X3_bindKept rn rf b_1 b_2 b_3 b_p kr kv a1).1 = some a) : a ∈ pRA pp := by
  rw [m_k_X3_bindKept] at h
  by_cases c_7 : a1 < 0
  · rw [if_pos c_7] at h
    replace h : none = some a := h
    cases h
  · rw [if_neg c_7] at h
    by_cases c_8 : a1 < 300
    · rw [if_pos c_8] at h
      obtain ⟨t_23, ht_23⟩ : ∃ t, t = m_k_X2_unpack (kv a1.toNatClampNeg) := ⟨_, rfl⟩
      rw [lE_eq ht_23] at h
      obtain ⟨t_36, ht_36⟩ : ∃ t, t = m_k_X6_ruleAt rn rf (kr a1.toNatClampNeg) := ⟨_, rfl⟩
      rw [lE_eq ht_36] at h
      rcases ho_36 : t_36 with _ | o_36
      · rw [ho_36, oE_none] at h
        replace h : none = some a := h
        cases h
      · rw [ho_36, oE_some] at h
        replace h : (some o_36) = some a := h
        cases h
        exact (mm_k_X6_ruleAt pp rn rf (kr a1.toNatClampNeg) hok hru _ (by rw [← ht_36]; exact ho_36))
    · rw [if_neg c_8] at h
      replace h : none = some a := h
      cases h
def vs_k_X3_bindKept : List Cond := .code yX3_bindKept cX3_bindKept 2 (some (.object "AnswerFold$Rule")) :: ([.fieldLink RX3 12 "AnswerFold$Grounding" "binding" "LAnswerFold$Binding;", .fieldLink RX3 35 "AnswerFold$Grounding" "keptValues" "[I", .methodLink RX3 219 yX2_unpack, .instanceMethod yX2_unpack, .selects RX2 yX2_unpack yX2_unpack, .initialized RX2, .fieldLink RX3 47 "AnswerFold$Grounding" "program" "LAnswerFold$Program;", .fieldLink RX3 32 "AnswerFold$Grounding" "keptRule" "[I", .methodLink RX3 97 yX6_ruleAt, .instanceMethod yX6_ruleAt, .selects RX6 yX6_ruleAt yX6_ruleAt, .initialized RX6] ++ (u_ws RX3 TX3 16 ++ (vs_k_X2_unpack ++ (vs_k_X6_ruleAt))))
theorem iv_k_X3_bindKept_X3 : ∀ w ∈ u_ws RX3 TX3 16, w ∈ vs_k_X3_bindKept := (fun _ h => List.mem_cons_of_mem _ (List.mem_append_right _ (List.mem_append_left _ h)))
set_option maxRecDepth 20000 in
theorem gv_k_X3_bindKept_0 : GoodIn vs_k_X3_bindKept (wsV RX3 219 RX2 yX2_unpack vs_k_X2_unpack) := goodIn_app (goodIn_sub (by decide +kernel) (by decide +kernel)) (goodIn_sub (fun _ h => List.mem_cons_of_mem _ (List.mem_append_right _ (List.mem_append_right _ (List.mem_append_left _ h)))) (by decide +kernel))
set_option maxRecDepth 20000 in
theorem gv_k_X3_bindKept_1 : GoodIn vs_k_X3_bindKept (wsV RX3 97 RX6 yX6_ruleAt vs_k_X6_ruleAt) := goodIn_app (goodIn_sub (by decide +kernel) (by decide +kernel)) (goodIn_sub (fun _ h => List.mem_cons_of_mem _ (List.mem_append_right _ (List.mem_append_right _ (List.mem_append_right _ (h))))) (by decide +kernel))
set_option maxHeartbeats 4000000 in
set_option maxRecDepth 100000 in
theorem k_X3_bindKept (l : Launch) (D : va_G) (ty : Nat → ClassId) (td mi sz : Nat) (pp : pT) (X : Nat → Nat) (pn : Int32) (rn : Int32) (tn : Int32) (en : Int32) (rf : Nat → Option Nat) (hn : Int32) (kn : Int32) (on : Int32) (cu : Int32) (pu : Int32) (gw : Int32) (b_1 : Int32) (b_2 : Int32) (b_3 : Int32) (b_p : Int32) (kr : Nat → Int32) (kv : Nat → Int32) (a1 : Int32) (hok : pOK pp) (hru : ∀ (i a : Nat), rf i = some a → a ∈ pRA pp) (TT : r_k_X3_bindKept) (hTT : TT = m_k_X3_bindKept rn rf b_1 b_2 b_3 b_p kr kv a1) : Met l yX3_bindKept vs_k_X3_bindKept { frames := 1, cells := 0, slots := 0, locals := 21 } (va_Pc [.ref (X 8), .int a1] (wq_P D ty td mi ((wW_k_X3_bindKept ty X pn rn tn en rf hn kn on cu pu gw b_1 b_2 b_3 b_p kr kv) ++ pw ty pp) sz)) (wq_Qr (fun (r : Value) (u : va_W) => (r = va_rf TT.1 ∧ (u = ((wW_k_X3_bindKept ty X pn rn tn en rf hn kn on cu pu gw TT.2.1 TT.2.2.1 TT.2.2.2.1 TT.2.2.2.2 kr kv) ++ pw ty pp)))) (wq_B D (va_A ((wW_k_X3_bindKept ty X pn rn tn en rf hn kn on cu pu gw b_1 b_2 b_3 b_p kr kv) ++ pw ty pp) sz)) (va_A ((wW_k_X3_bindKept ty X pn rn tn en rf hn kn on cu pu gw b_1 b_2 b_3 b_p kr kv) ++ pw ty pp) sz)) 0 0 (va_A ((wW_k_X3_bindKept ty X pn rn tn en rf hn kn on cu pu gw b_1 b_2 b_3 b_p kr kv) ++ pw ty pp) sz) := by
  refine Met.ofW (cc := cX3_bindKept) (maxL := 2) (ret := (some (.object "AnswerFold$Rule"))) (by decide) rfl ?_
  intro p e s m args below meth c s₁ B hml hv
  obtain ⟨rfl, hsz, hP, hK, hD0, hE⟩ := hv
  have hx := B.exec
  have hb := B.bytes
  have hr := B.returns
  have hts := atoms_spec (ws := vs_k_X3_bindKept) B.pre
  have hown : s.vm.findClass RX3 = some m.cls := findClass_of_methodNamed B.named
  have hlocks := B.notSynchronized
  subst hsz
  have hD := hD0.self (sz := s.heap.size)
  generalize hAe : va_A ((wW_k_X3_bindKept ty X pn rn tn en rf hn kn on cu pu gw b_1 b_2 b_3 b_p kr kv) ++ pw ty pp) s.heap.size = A at hD hE ⊢
  have hA : ∀ q : Nat, s.heap.size ≤ q → A q := fun q h => by rw [← hAe]; exact Or.inr h
  have hS : va_S A s.heap s.heap [] := va_S.rf
  have hP : va_P D vwCl ((wW_k_X3_bindKept ty X pn rn tn en rf hn kn on cu pu gw b_1 b_2 b_3 b_p kr kv) ++ pw ty pp) s.heap := hP
  have hl := lv_entry ([.ref (X 8), .int a1]) (n := 2) (Nat.le_of_ble_eq_true rfl)
  rw [lg_entry_eq]
  generalize (lg_sl ([.ref (X 8), .int a1]) ++ List.replicate (2 - (lg_sl ([.ref (X 8), .int a1])).length) Slot.unset).toArray = ls at hl ⊢
  have hl : lv_has ls 2 [(0, .ref (X 8)), (1, .int a1)] := hl
  have END : ∀ (r : Option Nat) (w9_0 : Int32) (w9_1 : Int32) (w9_2 : Int32) (w9_3 : Int32), TT = (r, w9_0, w9_1, w9_2, w9_3) → ∀ (H : Heap) (locs : List Loc), va_P D vwCl ((wW_k_X3_bindKept ty X pn rn tn en rf hn kn on cu pu gw w9_0 w9_1 w9_2 w9_3 kr kv) ++ pw ty pp) H → va_D A ((wW_k_X3_bindKept ty X pn rn tn en rf hn kn on cu pu gw w9_0 w9_1 w9_2 w9_3 kr kv) ++ pw ty pp) → va_S A s.heap H locs → ∀ (ls : Array Slot) (pc : Nat), decode cX3_bindKept pc = .ok (.areturn, 1) → W p l e (headSpec vs_k_X3_bindKept { frames := 1, cells := 0, slots := 0, locals := 21 }).room s m ([.ref (X 8), .int a1] : List Value).toArray below meth c H locs 0 0 (MQ below (wq_Qr (fun (r : Value) (u : va_W) => (r = va_rf TT.1 ∧ (u = ((wW_k_X3_bindKept ty X pn rn tn en rf hn kn on cu pu gw TT.2.1 TT.2.2.1 TT.2.2.2.1 TT.2.2.2.2 kr kv) ++ pw ty pp)))) (wq_B D A) A) ([.ref (X 8), .int a1] : List Value).toArray s 0 0 A) (F0 m pc ls [va_rf r]) := by
    intro r w9_0 w9_1 w9_2 w9_3 hT H locs hP hD hS ls pc hd
    have hM : TT = (r, w9_0, w9_1, w9_2, w9_3) := hT
    cases r with
    | none => exact W.aret (v := .null) hx hb hr (Or.inl ⟨_, rfl⟩) (Or.inl rfl) (fun t ht hW => ⟨⟨.null, ((wW_k_X3_bindKept ty X pn rn tn en rf hn kn on cu pu gw w9_0 w9_1 w9_2 w9_3 kr kv) ++ pw ty pp), rfl, ⟨(by rw [hM]; rfl), (by rw [hM])⟩, wq_B.of ht hP hD⟩, hS.F ht⟩) hS.2.2 hd
    | some r => exact W.aret (v := .ref r) hx hb hr (Or.inl ⟨_, rfl⟩) (Or.inr ⟨_, rfl⟩) (fun t ht hW => ⟨⟨.ref r, ((wW_k_X3_bindKept ty X pn rn tn en rf hn kn on cu pu gw w9_0 w9_1 w9_2 w9_3 kr kv) ++ pw ty pp), rfl, ⟨(by rw [hM]; rfl), (by rw [hM])⟩, wq_B.of ht hP hD⟩, hS.F ht⟩) hS.2.2 hd
  have hT := hTT
  rw [m_k_X3_bindKept] at hT
  refine lv_iload_n hx hb dX3_bindKept_0 rfl (lv_at hl 1 rfl) ?_
  refine lv_if_lt (tgt := 11) hx hb dX3_bindKept_1 (by decide) (fun c_1 => ?_) (fun c_1 => ?_)
  · rw [if_pos c_1] at hT
    refine lv_null hx hb dX3_bindKept_11 ?_
    exact END none b_1 b_2 b_3 b_p hT _ _ hP hD hS _ _ dX3_bindKept_12
  · rw [if_neg c_1] at hT
    refine lv_iload_n hx hb dX3_bindKept_4 rfl (lv_at hl 1 rfl) ?_
    refine lv_sipush (v := 300) hx hb dX3_bindKept_5 (by decide) ?_
    refine lv_icmp_lt (tgt := 13) hx hb dX3_bindKept_8 (by decide) (fun c_2 => ?_) (fun c_2 => ?_)
    · rw [if_pos c_2] at hT
      refine lv_aload_n hx hb dX3_bindKept_13 rfl (lv_at hl 0 rfl) ?_
      refine va_get (D := D) (ci := 5) (v := .ref (X 9)) (C := RX3) (T := TX3) (N := 16) hx hb hts iv_k_X3_bindKept_X3 hown hK hP 2 rfl rfl 1 (by decide) (hts (.fieldLink RX3 12 "AnswerFold$Grounding" "binding" "LAnswerFold$Binding;") (by decide +kernel)) (fun _ h9 => h9) rfl dX3_bindKept_14 ?_
      refine lv_aload_n hx hb dX3_bindKept_17 rfl (lv_at hl 0 rfl) ?_
      refine va_get (D := D) (ci := 5) (v := .ref (X 16)) (C := RX3) (T := TX3) (N := 16) hx hb hts iv_k_X3_bindKept_X3 hown hK hP 2 rfl rfl 7 (by decide) (hts (.fieldLink RX3 35 "AnswerFold$Grounding" "keptValues" "[I") (by decide +kernel)) (fun _ h9 => h9) rfl dX3_bindKept_18 ?_
      refine lv_iload_n hx hb dX3_bindKept_21 rfl (lv_at hl 1 rfl) ?_
      refine va_iald (D := D) hx hb hK hP 5 0 rfl rfl (wi_in (wi_lo c_1) (wi_hi (Int32.not_le.mpr c_2) (by decide))) dX3_bindKept_22 ?_
      obtain ⟨t_23, ht_23⟩ : ∃ t, t = m_k_X2_unpack (kv a1.toNatClampNeg) := ⟨_, rfl⟩
      rw [lE_eq ht_23] at hT
      refine wq_vQW (wc := (wW_k_X2_unpack ty X b_1 b_2 b_3 b_p)) (pl := pw ty pp) (va_runV (As := [.int (kv a1.toNatClampNeg)]) (rest := []) ⟨hx, hb, hml, hown, hts⟩ (k_X2_unpack l D ty td mi s.heap.size X b_1 b_2 b_3 b_p (kv a1.toNatClampNeg) t_23 ht_23) (cwV 1 hts gv_k_X3_bindKept_0 rfl rfl rfl (by decide +kernel) ⟨(Nat.le_of_ble_eq_true rfl), (Nat.le_of_ble_eq_true rfl)⟩) (wm_V (wm_preS (vP_left hP) (vD_left hD) hK hE hS hA [false, false, false, true] rfl) (va_recv (q0 := 3) (ci := 4) hK hP rfl rfl)) rfl rfl hl.1 rfl (lv_room (Nat.le_of_ble_eq_true rfl)) dX3_bindKept_23 ⟨(Nat.le_of_ble_eq_true rfl), (Nat.le_of_ble_eq_true rfl)⟩) hS hA hP hD [false, false, false, true] rfl (fun _ h => by rcases h with rfl; rfl) (fun u H locs hw hP hD hS => ?_)
      obtain rfl := hw
      have hP : va_P D vwCl ((wW_k_X3_bindKept ty X pn rn tn en rf hn kn on cu pu gw t_23.1 t_23.2.1 t_23.2.2.1 t_23.2.2.2 kr kv) ++ pw ty pp) H := hP
      have hD : va_D A ((wW_k_X3_bindKept ty X pn rn tn en rf hn kn on cu pu gw t_23.1 t_23.2.1 t_23.2.2.1 t_23.2.2.2 kr kv) ++ pw ty pp) := hD
      refine W.widen (k := 0) (n := 0) (Nat.le_of_ble_eq_true rfl) (Nat.le_of_ble_eq_true rfl) ?_
      refine lv_aload_n hx hb dX3_bindKept_26 rfl (lv_at hl 0 rfl) ?_
      refine va_get (D := D) (ci := 5) (v := .ref (X 1)) (C := RX3) (T := TX3) (N := 16) hx hb hts iv_k_X3_bindKept_X3 hown hK hP 2 rfl rfl 0 (by decide) (hts (.fieldLink RX3 47 "AnswerFold$Grounding" "program" "LAnswerFold$Program;") (by decide +kernel)) (fun _ h9 => h9) rfl dX3_bindKept_27 ?_
      refine lv_aload_n hx hb dX3_bindKept_30 rfl (lv_at hl 0 rfl) ?_
      refine va_get (D := D) (ci := 5) (v := .ref (X 15)) (C := RX3) (T := TX3) (N := 16) hx hb hts iv_k_X3_bindKept_X3 hown hK hP 2 rfl rfl 6 (by decide) (hts (.fieldLink RX3 32 "AnswerFold$Grounding" "keptRule" "[I") (by decide +kernel)) (fun _ h9 => h9) rfl dX3_bindKept_31 ?_
      refine lv_iload_n hx hb dX3_bindKept_34 rfl (lv_at hl 1 rfl) ?_
      refine va_iald (D := D) hx hb hK hP 4 0 rfl rfl (wi_in (wi_lo c_1) (wi_hi (Int32.not_le.mpr c_2) (by decide))) dX3_bindKept_35 ?_
      obtain ⟨t_36, ht_36⟩ : ∃ t, t = m_k_X6_ruleAt rn rf (kr a1.toNatClampNeg) := ⟨_, rfl⟩
      rw [lE_eq ht_36] at hT
      refine wq_rPW (wc := (wW_k_X6_ruleAt ty X pn rn tn en rf)) (pl := pw ty pp) (ux := (wW_k_X6_ruleAt ty X pn rn tn en rf)) (va_runV (As := [.int (kr a1.toNatClampNeg)]) (rest := []) ⟨hx, hb, hml, hown, hts⟩ (k_X6_ruleAt l D ty td mi H.size pp X pn rn tn en rf (kr a1.toNatClampNeg) hok hru t_36 ht_36) (cwV 1 hts gv_k_X3_bindKept_1 rfl rfl rfl (by decide +kernel) ⟨(Nat.le_of_ble_eq_true rfl), (Nat.le_of_ble_eq_true rfl)⟩) (wm_V (wm_preSP hP hD hK hE hS hA [true, true] rfl) (va_recv (q0 := 0) (ci := 8) hK hP rfl rfl)) rfl rfl hl.1 rfl (lv_room (Nat.le_of_ble_eq_true rfl)) dX3_bindKept_36 ⟨(Nat.le_of_ble_eq_true rfl), (Nat.le_of_ble_eq_true rfl)⟩) hS hA hP hD [true, true] rfl rfl (fun _ _ h => h.2) (fun r H locs hw hP hD hS => ?_)
      obtain ⟨rfl, -⟩ := hw
      have hP : va_P D vwCl ((wW_k_X3_bindKept ty X pn rn tn en rf hn kn on cu pu gw t_23.1 t_23.2.1 t_23.2.2.1 t_23.2.2.2 kr kv) ++ pw ty pp) H := hP
      have hD : va_D A ((wW_k_X3_bindKept ty X pn rn tn en rf hn kn on cu pu gw t_23.1 t_23.2.1 t_23.2.2.1 t_23.2.2.2 kr kv) ++ pw ty pp) := hD
      refine W.widen (k := 0) (n := 0) (Nat.le_of_ble_eq_true rfl) (Nat.le_of_ble_eq_true rfl) ?_
      rcases ho_36 : t_36 with _ | o_36
      · rw [ho_36, oE_none] at hT
        refine W.eq (g2 := F0 m 39 ls [.null]) rfl ?_
        exact END none t_23.1 t_23.2.1 t_23.2.2.1 t_23.2.2.2 hT _ _ hP hD hS _ _ dX3_bindKept_39
      · rw [ho_36, oE_some] at hT
        refine W.eq (g2 := F0 m 39 ls [.ref o_36]) rfl ?_
        exact END (some o_36) t_23.1 t_23.2.1 t_23.2.2.1 t_23.2.2.2 hT _ _ hP hD hS _ _ dX3_bindKept_39
    · rw [if_neg c_2] at hT
      refine lv_null hx hb dX3_bindKept_11 ?_
      exact END none b_1 b_2 b_3 b_p hT _ _ hP hD hS _ _ dX3_bindKept_12
theorem dX3_beginWithExternals_0 : decode cX3_beginWithExternals 0 = .ok (.iconst 0, 1) := by decide +kernel
theorem dX3_beginWithExternals_1 : decode cX3_beginWithExternals 1 = .ok (.istore_n 1, 1) := by decide +kernel
theorem dX3_beginWithExternals_2 : decode cX3_beginWithExternals 2 = .ok (.iload_n 1, 1) := by decide +kernel
theorem dX3_beginWithExternals_3 : decode cX3_beginWithExternals 3 = .ok (.aload_n 0, 1) := by decide +kernel
theorem dX3_beginWithExternals_4 : decode cX3_beginWithExternals 4 = .ok (.getfield 47, 3) := by decide +kernel
theorem dX3_beginWithExternals_7 : decode cX3_beginWithExternals 7 = .ok (.getfield 74, 3) := by decide +kernel
theorem dX3_beginWithExternals_10 : decode cX3_beginWithExternals 10 = .ok (.if_icmp .ge 68, 3) := by decide +kernel
theorem dX3_beginWithExternals_13 : decode cX3_beginWithExternals 13 = .ok (.aload_n 0, 1) := by decide +kernel
theorem dX3_beginWithExternals_14 : decode cX3_beginWithExternals 14 = .ok (.getfield 47, 3) := by decide +kernel
theorem dX3_beginWithExternals_17 : decode cX3_beginWithExternals 17 = .ok (.iload_n 1, 1) := by decide +kernel
theorem dX3_beginWithExternals_18 : decode cX3_beginWithExternals 18 = .ok (.invokevirtual 79, 3) := by decide +kernel
theorem dX3_beginWithExternals_21 : decode cX3_beginWithExternals 21 = .ok (.istore_n 2, 1) := by decide +kernel
theorem dX3_beginWithExternals_22 : decode cX3_beginWithExternals 22 = .ok (.iload_n 2, 1) := by decide +kernel
theorem dX3_beginWithExternals_23 : decode cX3_beginWithExternals 23 = .ok (.bipush 116, 2) := by decide +kernel
theorem dX3_beginWithExternals_25 : decode cX3_beginWithExternals 25 = .ok (.if_icmp .ne 19, 3) := by decide +kernel
theorem dX3_beginWithExternals_28 : decode cX3_beginWithExternals 28 = .ok (.aload_n 0, 1) := by decide +kernel
theorem dX3_beginWithExternals_29 : decode cX3_beginWithExternals 29 = .ok (.getfield 21, 3) := by decide +kernel
theorem dX3_beginWithExternals_32 : decode cX3_beginWithExternals 32 = .ok (.aload_n 0, 1) := by decide +kernel
theorem dX3_beginWithExternals_33 : decode cX3_beginWithExternals 33 = .ok (.getfield 47, 3) := by decide +kernel
theorem dX3_beginWithExternals_36 : decode cX3_beginWithExternals 36 = .ok (.iload_n 1, 1) := by decide +kernel
theorem dX3_beginWithExternals_37 : decode cX3_beginWithExternals 37 = .ok (.invokevirtual 83, 3) := by decide +kernel
theorem dX3_beginWithExternals_40 : decode cX3_beginWithExternals 40 = .ok (.invokevirtual 87, 3) := by decide +kernel
theorem dX3_beginWithExternals_43 : decode cX3_beginWithExternals 43 = .ok (.pop, 1) := by decide +kernel
theorem dX3_beginWithExternals_44 : decode cX3_beginWithExternals 44 = .ok (.iload_n 2, 1) := by decide +kernel
theorem dX3_beginWithExternals_45 : decode cX3_beginWithExternals 45 = .ok (.bipush 116, 2) := by decide +kernel
theorem dX3_beginWithExternals_47 : decode cX3_beginWithExternals 47 = .ok (.if_icmp .eq 9, 3) := by decide +kernel
theorem dX3_beginWithExternals_50 : decode cX3_beginWithExternals 50 = .ok (.iload_n 2, 1) := by decide +kernel
theorem dX3_beginWithExternals_51 : decode cX3_beginWithExternals 51 = .ok (.bipush 117, 2) := by decide +kernel
theorem dX3_beginWithExternals_53 : decode cX3_beginWithExternals 53 = .ok (.if_icmp .ne 19, 3) := by decide +kernel
theorem dX3_beginWithExternals_56 : decode cX3_beginWithExternals 56 = .ok (.aload_n 0, 1) := by decide +kernel
theorem dX3_beginWithExternals_57 : decode cX3_beginWithExternals 57 = .ok (.getfield 25, 3) := by decide +kernel
theorem dX3_beginWithExternals_60 : decode cX3_beginWithExternals 60 = .ok (.aload_n 0, 1) := by decide +kernel
theorem dX3_beginWithExternals_61 : decode cX3_beginWithExternals 61 = .ok (.getfield 47, 3) := by decide +kernel
theorem dX3_beginWithExternals_64 : decode cX3_beginWithExternals 64 = .ok (.iload_n 1, 1) := by decide +kernel
theorem dX3_beginWithExternals_65 : decode cX3_beginWithExternals 65 = .ok (.invokevirtual 83, 3) := by decide +kernel
theorem dX3_beginWithExternals_68 : decode cX3_beginWithExternals 68 = .ok (.invokevirtual 87, 3) := by decide +kernel
theorem dX3_beginWithExternals_71 : decode cX3_beginWithExternals 71 = .ok (.pop, 1) := by decide +kernel
theorem dX3_beginWithExternals_72 : decode cX3_beginWithExternals 72 = .ok (.iinc 1 1, 3) := by decide +kernel
theorem dX3_beginWithExternals_75 : decode cX3_beginWithExternals 75 = .ok (.goto (-73), 3) := by decide +kernel
theorem dX3_beginWithExternals_78 : decode cX3_beginWithExternals 78 = .ok (.return_, 1) := by decide +kernel
def wW_k_X3_beginWithExternals (ty : Nat → ClassId) (X : Nat → Nat) (z9_0 : Int32) (z9_1 : Int32) (z9_2 : Int32) (z9_3 : Int32) (z9_4 : Nat → Int32) (z9_5 : Nat → Int32) (z9_6 : Int32) (z9_7 : Int32) (z9_8 : Int32) (z9_9 : Int32) (z9_10 : Int32) (z9_11 : Int32) (z9_12 : Nat → Int64) (z9_13 : Nat → Int64) : va_W := [((X 1), .inr (8, [.ref (X 2), .int z9_0, .ref (X 3), .int z9_1, .ref (X 4), .ref (X 5), .int z9_2, .ref (X 6), .ref (X 7), .int z9_3])), ((X 6), .inl (ty 0, 6, .inl z9_4)), ((X 7), .inl (ty 2, 6, .inl z9_5)), ((X 8), .inr (5, [.ref (X 1), .ref (X 9), .ref (X 10), .ref (X 12), .ref (X 14), .int z9_6, .ref (X 15), .ref (X 16), .ref (X 17), .int z9_7, .ref (X 18), .ref (X 19), .int z9_8, .int z9_9, .int z9_10, .int z9_11])), ((X 10), .inr (3, [.ref (X 11)])), ((X 11), .inl (ty 1, 6, .inr (.inl z9_12))), ((X 12), .inr (3, [.ref (X 13)])), ((X 13), .inl (ty 1, 6, .inr (.inl z9_13)))]
def vs_k_X3_beginWithExternals : List Cond := .code yX3_beginWithExternals cX3_beginWithExternals 3 none :: ([.fieldLink RX3 47 "AnswerFold$Grounding" "program" "LAnswerFold$Program;", .methodLink RX3 79 yX6_externalState, .instanceMethod yX6_externalState, .selects RX6 yX6_externalState yX6_externalState, .initialized RX6, .fieldLink RX3 25 "AnswerFold$Grounding" "possible" "LAnswerFold$AtomSet;", .methodLink RX3 83 yX6_externalAtom, .instanceMethod yX6_externalAtom, .selects RX6 yX6_externalAtom yX6_externalAtom, .methodLink RX3 87 yX1_add, .instanceMethod yX1_add, .selects RX1 yX1_add yX1_add, .initialized RX1, .fieldLink RX3 21 "AnswerFold$Grounding" "sure" "LAnswerFold$AtomSet;"] ++ (u_ws RX3 TX3 16 ++ (u_ws RX6 TX6 10 ++ (vs_k_X6_externalState ++ (vs_k_X6_externalAtom ++ (vs_k_X1_add))))))
theorem iv_k_X3_beginWithExternals_X3 : ∀ w ∈ u_ws RX3 TX3 16, w ∈ vs_k_X3_beginWithExternals := (fun _ h => List.mem_cons_of_mem _ (List.mem_append_right _ (List.mem_append_left _ h)))
theorem iv_k_X3_beginWithExternals_X6 : ∀ w ∈ u_ws RX6 TX6 10, w ∈ vs_k_X3_beginWithExternals := (fun _ h => List.mem_cons_of_mem _ (List.mem_append_right _ (List.mem_append_right _ (List.mem_append_left _ h))))
set_option maxRecDepth 20000 in
theorem gv_k_X3_beginWithExternals_0 : GoodIn vs_k_X3_beginWithExternals (wsV RX3 79 RX6 yX6_externalState vs_k_X6_externalState) := goodIn_app (goodIn_sub (by decide +kernel) (by decide +kernel)) (goodIn_sub (fun _ h => List.mem_cons_of_mem _ (List.mem_append_right _ (List.mem_append_right _ (List.mem_append_right _ (List.mem_append_left _ h))))) (by decide +kernel))
set_option maxRecDepth 20000 in
theorem gv_k_X3_beginWithExternals_1 : GoodIn vs_k_X3_beginWithExternals (wsV RX3 83 RX6 yX6_externalAtom vs_k_X6_externalAtom) := goodIn_app (goodIn_sub (by decide +kernel) (by decide +kernel)) (goodIn_sub (fun _ h => List.mem_cons_of_mem _ (List.mem_append_right _ (List.mem_append_right _ (List.mem_append_right _ (List.mem_append_right _ (List.mem_append_left _ h)))))) (by decide +kernel))
set_option maxRecDepth 20000 in
theorem gv_k_X3_beginWithExternals_2 : GoodIn vs_k_X3_beginWithExternals (wsV RX3 87 RX1 yX1_add vs_k_X1_add) := goodIn_app (goodIn_sub (by decide +kernel) (by decide +kernel)) (goodIn_sub (fun _ h => List.mem_cons_of_mem _ (List.mem_append_right _ (List.mem_append_right _ (List.mem_append_right _ (List.mem_append_right _ (List.mem_append_right _ (h))))))) (by decide +kernel))
set_option maxRecDepth 20000 in
theorem gv_k_X3_beginWithExternals_3 : GoodIn vs_k_X3_beginWithExternals (wsV RX3 83 RX6 yX6_externalAtom vs_k_X6_externalAtom) := goodIn_app (goodIn_sub (by decide +kernel) (by decide +kernel)) (goodIn_sub (fun _ h => List.mem_cons_of_mem _ (List.mem_append_right _ (List.mem_append_right _ (List.mem_append_right _ (List.mem_append_right _ (List.mem_append_left _ h)))))) (by decide +kernel))
set_option maxRecDepth 20000 in
theorem gv_k_X3_beginWithExternals_4 : GoodIn vs_k_X3_beginWithExternals (wsV RX3 87 RX1 yX1_add vs_k_X1_add) := goodIn_app (goodIn_sub (by decide +kernel) (by decide +kernel)) (goodIn_sub (fun _ h => List.mem_cons_of_mem _ (List.mem_append_right _ (List.mem_append_right _ (List.mem_append_right _ (List.mem_append_right _ (List.mem_append_right _ (h))))))) (by decide +kernel))
set_option maxHeartbeats 4000000 in
set_option maxRecDepth 100000 in
theorem k_X3_beginWithExternals (l : Launch) (D : va_G) (ty : Nat → ClassId) (td mi sz : Nat) (X : Nat → Nat) (pn : Int32) (rn : Int32) (tn : Int32) (en : Int32) (ea : Nat → Int32) (es : Nat → Int32) (hn : Int32) (kn : Int32) (on : Int32) (cu : Int32) (pu : Int32) (gw : Int32) (su : Nat → Int64) (po : Nat → Int64) (hch : ∀ i : Nat, narrow .char (.int (es i)) = .int (es i)) (TT : r_k_X3_beginWithExternals) (hTT : TT = m_k_X3_beginWithExternals en ea es su po) : Met l yX3_beginWithExternals vs_k_X3_beginWithExternals { frames := 1, cells := 0, slots := 0, locals := 23 } (va_Pc [.ref (X 8)] (wq_P D ty td mi (wW_k_X3_beginWithExternals ty X pn rn tn en ea es hn kn on cu pu gw su po) sz)) (va_Qv (fun u : va_W => ((u = (wW_k_X3_beginWithExternals ty X pn rn tn en ea es hn kn on cu pu gw TT.1 TT.2)))) (wq_B D (va_A (wW_k_X3_beginWithExternals ty X pn rn tn en ea es hn kn on cu pu gw su po) sz)) (va_A (wW_k_X3_beginWithExternals ty X pn rn tn en ea es hn kn on cu pu gw su po) sz)) 0 0 (va_A (wW_k_X3_beginWithExternals ty X pn rn tn en ea es hn kn on cu pu gw su po) sz) := by
  refine Met.ofW (cc := cX3_beginWithExternals) (maxL := 3) (ret := none) (by decide) rfl ?_
  intro p e s m args below meth c s₁ B hml hv
  obtain ⟨rfl, hsz, hP, hK, hD0, hE⟩ := hv
  have hx := B.exec
  have hb := B.bytes
  have hr := B.returns
  have hts := atoms_spec (ws := vs_k_X3_beginWithExternals) B.pre
  have hown : s.vm.findClass RX3 = some m.cls := findClass_of_methodNamed B.named
  have hlocks := B.notSynchronized
  subst hsz
  have hD := hD0.self (sz := s.heap.size)
  generalize hAe : va_A (wW_k_X3_beginWithExternals ty X pn rn tn en ea es hn kn on cu pu gw su po) s.heap.size = A at hD hE ⊢
  have hA : ∀ q : Nat, s.heap.size ≤ q → A q := fun q h => by rw [← hAe]; exact Or.inr h
  have hS : va_S A s.heap s.heap [] := va_S.rf
  have hP : va_P D vwCl (wW_k_X3_beginWithExternals ty X pn rn tn en ea es hn kn on cu pu gw su po) s.heap := hP
  have hl := lv_entry ([.ref (X 8)]) (n := 3) (Nat.le_of_ble_eq_true rfl)
  rw [lg_entry_eq]
  generalize (lg_sl ([.ref (X 8)]) ++ List.replicate (3 - (lg_sl ([.ref (X 8)])).length) Slot.unset).toArray = ls at hl ⊢
  have hl : lv_has ls 3 [(0, .ref (X 8))] := hl
  have END : ∀ (w9_0 : Nat → Int64) (w9_1 : Nat → Int64), TT = (w9_0, w9_1) → ∀ (H : Heap) (locs : List Loc), va_P D vwCl (wW_k_X3_beginWithExternals ty X pn rn tn en ea es hn kn on cu pu gw w9_0 w9_1) H → va_D A (wW_k_X3_beginWithExternals ty X pn rn tn en ea es hn kn on cu pu gw w9_0 w9_1) → va_S A s.heap H locs → ∀ (ls : Array Slot) (pc : Nat), decode cX3_beginWithExternals pc = .ok (.return_, 1) → W p l e (headSpec vs_k_X3_beginWithExternals { frames := 1, cells := 0, slots := 0, locals := 23 }).room s m ([.ref (X 8)] : List Value).toArray below meth c H locs 0 0 (MQ below (va_Qv (fun u : va_W => ((u = (wW_k_X3_beginWithExternals ty X pn rn tn en ea es hn kn on cu pu gw TT.1 TT.2)))) (wq_B D A) A) ([.ref (X 8)] : List Value).toArray s 0 0 A) (F0 m pc ls []) := by
    intro w9_0 w9_1 hT H locs hP hD hS ls pc hd
    have hM : TT = (w9_0, w9_1) := hT
    exact W.vret hx hb hr (fun t ht hW => ⟨⟨(wW_k_X3_beginWithExternals ty X pn rn tn en ea es hn kn on cu pu gw w9_0 w9_1), rfl, (by rw [hM]), wq_B.of ht hP hD⟩, hS.F ht⟩) hS.2.2 hd
  have hT := hTT
  rw [m_k_X3_beginWithExternals] at hT
  refine lv_iconst (v := 0) hx hb dX3_beginWithExternals_0 (by decide) ?_
  refine lv_istore_n (lv' := [(1, .int 0), (0, .ref (X 8))]) hx hb dX3_beginWithExternals_1 rfl hl (by decide) rfl (fun ls hl => ?_)
  have L_2 : ∀ (n_2 : Nat) (v1_2 : Int32) (x11_f_2 : Nat → Int64) (x13_f_2 : Nat → Int64), (2147483648 - v1_2.toInt).toNat < n_2 → TT = m_k_X3_beginWithExternals_2 en ea es n_2 v1_2 x11_f_2 x13_f_2 → 0 ≤ v1_2.toInt → ∀ (H : Heap) (locs : List Loc), va_P D vwCl (wW_k_X3_beginWithExternals ty X pn rn tn en ea es hn kn on cu pu gw x11_f_2 x13_f_2) H → va_D A (wW_k_X3_beginWithExternals ty X pn rn tn en ea es hn kn on cu pu gw x11_f_2 x13_f_2) → va_S A s.heap H locs → ∀ ls : Array Slot, lv_has ls 3 [(0, .ref (X 8)), (1, .int v1_2)] → W p l e (headSpec vs_k_X3_beginWithExternals { frames := 1, cells := 0, slots := 0, locals := 23 }).room s m ([.ref (X 8)] : List Value).toArray below meth c H locs 0 0 (MQ below (va_Qv (fun u : va_W => ((u = (wW_k_X3_beginWithExternals ty X pn rn tn en ea es hn kn on cu pu gw TT.1 TT.2)))) (wq_B D A) A) ([.ref (X 8)] : List Value).toArray s 0 0 A) (F0 m 2 ls []) := by
    intro n_2
    induction n_2 with
    | zero => intro v1_2 x11_f_2 x13_f_2 hu; exact absurd hu (Nat.not_lt_zero _)
    | succ n_2 ih_2 =>
      intro v1_2 x11_f_2 x13_f_2 hu_2 hT hn_2 H locs hP hD hS ls hl
      rw [m_k_X3_beginWithExternals_2_succ, m_k_X3_beginWithExternals_2s] at hT
      refine lv_iload_n hx hb dX3_beginWithExternals_2 rfl (lv_at hl 1 rfl) ?_
      refine lv_aload_n hx hb dX3_beginWithExternals_3 rfl (lv_at hl 0 rfl) ?_
      refine va_get (D := D) (ci := 5) (v := .ref (X 1)) (C := RX3) (T := TX3) (N := 16) hx hb hts iv_k_X3_beginWithExternals_X3 hown hK hP 3 rfl rfl 0 (by decide) (hts (.fieldLink RX3 47 "AnswerFold$Grounding" "program" "LAnswerFold$Program;") (by decide +kernel)) (fun _ h9 => h9) rfl dX3_beginWithExternals_4 ?_
      refine va_getN (D := D) (ci := 8) (v := .int en) (C := RX6) (T := TX6) (N := 10) hx hb hts iv_k_X3_beginWithExternals_X6 hown hK hP 0 rfl rfl 9 (by decide) (hE.at (.fieldLinkNest "AnswerFold$Grounding" 74 "AnswerFold$Program" "externalCount" "I" "AnswerFold") (by decide +kernel)) (fun _ h9 => h9) rfl dX3_beginWithExternals_7 ?_
      refine lv_icmp_ge (tgt := 78) hx hb dX3_beginWithExternals_10 (by decide) (fun c_1 => ?_) (fun c_1 => ?_)
      · rw [if_pos c_1] at hT
        exact END x11_f_2 x13_f_2 hT _ _ hP hD hS _ _ dX3_beginWithExternals_78
      · rw [if_neg c_1] at hT
        refine lv_aload_n hx hb dX3_beginWithExternals_13 rfl (lv_at hl 0 rfl) ?_
        refine va_get (D := D) (ci := 5) (v := .ref (X 1)) (C := RX3) (T := TX3) (N := 16) hx hb hts iv_k_X3_beginWithExternals_X3 hown hK hP 3 rfl rfl 0 (by decide) (hts (.fieldLink RX3 47 "AnswerFold$Grounding" "program" "LAnswerFold$Program;") (by decide +kernel)) (fun _ h9 => h9) rfl dX3_beginWithExternals_14 ?_
        refine lv_iload_n hx hb dX3_beginWithExternals_17 rfl (lv_at hl 1 rfl) ?_
        obtain ⟨t_18, ht_18⟩ : ∃ t, t = m_k_X6_externalState en es v1_2 := ⟨_, rfl⟩
        rw [lE_eq ht_18] at hT
        refine wq_iW (wc := (wW_k_X6_externalState ty X pn rn tn en es)) (va_runV (As := [.int v1_2]) (rest := []) ⟨hx, hb, hml, hown, hts⟩ (k_X6_externalState l D ty td mi H.size X pn rn tn en es v1_2 hch t_18 ht_18) (cwV 1 hts gv_k_X3_beginWithExternals_0 rfl rfl rfl (by decide +kernel) ⟨(Nat.le_of_ble_eq_true rfl), (Nat.le_of_ble_eq_true rfl)⟩) (wm_V (wm_preS hP hD hK hE hS hA [true, false, true] rfl) (va_recv (q0 := 0) (ci := 8) hK hP rfl rfl)) rfl rfl hl.1 rfl (lv_room (Nat.le_of_ble_eq_true rfl)) dX3_beginWithExternals_18 ⟨(Nat.le_of_ble_eq_true rfl), (Nat.le_of_ble_eq_true rfl)⟩) hS hA hP hD [true, false, true] rfl (fun _ _ h => by rcases h with ⟨-, rfl⟩; rfl) (fun r u H locs hw hP hD hS => ?_)
        obtain ⟨hr0, rfl⟩ := hw
        subst r
        have hP : va_P D vwCl (wW_k_X3_beginWithExternals ty X pn rn tn en ea es hn kn on cu pu gw x11_f_2 x13_f_2) H := hP
        have hD : va_D A (wW_k_X3_beginWithExternals ty X pn rn tn en ea es hn kn on cu pu gw x11_f_2 x13_f_2) := hD
        refine W.widen (k := 0) (n := 0) (Nat.le_of_ble_eq_true rfl) (Nat.le_of_ble_eq_true rfl) ?_
        refine lv_istore_n (lv' := [(2, .int t_18), (0, .ref (X 8)), (1, .int v1_2)]) hx hb dX3_beginWithExternals_21 rfl hl (by decide) rfl (fun ls hl => ?_)
        refine lv_iload_n hx hb dX3_beginWithExternals_22 rfl (lv_at hl 0 rfl) ?_
        refine lv_bipush (v := 116) hx hb dX3_beginWithExternals_23 (by decide) ?_
        have J_44 : ∀ (x11_f_44 : Nat → Int64), TT = m_k_X3_beginWithExternals_44 en ea (m_k_X3_beginWithExternals_2 en ea es n_2) t_18 v1_2 x13_f_2 x11_f_44 → ∀ (H : Heap) (locs : List Loc), va_P D vwCl (wW_k_X3_beginWithExternals ty X pn rn tn en ea es hn kn on cu pu gw x11_f_44 x13_f_2) H → va_D A (wW_k_X3_beginWithExternals ty X pn rn tn en ea es hn kn on cu pu gw x11_f_44 x13_f_2) → va_S A s.heap H locs → ∀ ls : Array Slot, lv_has ls 3 [(0, .ref (X 8)), (1, .int v1_2), (2, .int t_18)] → W p l e (headSpec vs_k_X3_beginWithExternals { frames := 1, cells := 0, slots := 0, locals := 23 }).room s m ([.ref (X 8)] : List Value).toArray below meth c H locs 0 0 (MQ below (va_Qv (fun u : va_W => ((u = (wW_k_X3_beginWithExternals ty X pn rn tn en ea es hn kn on cu pu gw TT.1 TT.2)))) (wq_B D A) A) ([.ref (X 8)] : List Value).toArray s 0 0 A) (F0 m 44 ls []) := by
          intro x11_f_44 hT  H locs hP hD hS ls hl
          rw [m_k_X3_beginWithExternals_44] at hT
          refine lv_iload_n hx hb dX3_beginWithExternals_44 rfl (lv_at hl 2 rfl) ?_
          refine lv_bipush (v := 116) hx hb dX3_beginWithExternals_45 (by decide) ?_
          have J_72 : ∀ (x13_f_72 : Nat → Int64), TT = m_k_X3_beginWithExternals_72 (m_k_X3_beginWithExternals_2 en ea es n_2) v1_2 x11_f_44 x13_f_72 → ∀ (H : Heap) (locs : List Loc), va_P D vwCl (wW_k_X3_beginWithExternals ty X pn rn tn en ea es hn kn on cu pu gw x11_f_44 x13_f_72) H → va_D A (wW_k_X3_beginWithExternals ty X pn rn tn en ea es hn kn on cu pu gw x11_f_44 x13_f_72) → va_S A s.heap H locs → ∀ ls : Array Slot, lv_has ls 3 [(0, .ref (X 8)), (1, .int v1_2)] → W p l e (headSpec vs_k_X3_beginWithExternals { frames := 1, cells := 0, slots := 0, locals := 23 }).room s m ([.ref (X 8)] : List Value).toArray below meth c H locs 0 0 (MQ below (va_Qv (fun u : va_W => ((u = (wW_k_X3_beginWithExternals ty X pn rn tn en ea es hn kn on cu pu gw TT.1 TT.2)))) (wq_B D A) A) ([.ref (X 8)] : List Value).toArray s 0 0 A) (F0 m 72 ls []) := by
            intro x13_f_72 hT  H locs hP hD hS ls hl
            rw [m_k_X3_beginWithExternals_72] at hT
            refine lv_iinc (v := v1_2 + 1) (lv' := [(1, .int (v1_2 + 1)), (0, .ref (X 8))]) hx hb dX3_beginWithExternals_72 hl (k := 1) rfl (by rfl) (by decide) rfl (fun ls hl => ?_)
            refine lv_goto (tgt := 2) hx hb dX3_beginWithExternals_75 (by decide) ?_
            exact ih_2 (v1_2 + 1) x11_f_44 x13_f_72 (wi_up hu_2 (Int32.not_le.mp c_1)) hT (wi_inc hn_2 (Int32.not_le.mp c_1)) _ _ hP hD hS _ (lv_sub hl [1, 0] rfl)
          have J_56 : ∀ (_ : Unit), TT = m_k_X3_beginWithExternals_56 en ea (m_k_X3_beginWithExternals_2 en ea es n_2) v1_2 x11_f_44 x13_f_2 → ∀ (H : Heap) (locs : List Loc), va_P D vwCl (wW_k_X3_beginWithExternals ty X pn rn tn en ea es hn kn on cu pu gw x11_f_44 x13_f_2) H → va_D A (wW_k_X3_beginWithExternals ty X pn rn tn en ea es hn kn on cu pu gw x11_f_44 x13_f_2) → va_S A s.heap H locs → ∀ ls : Array Slot, lv_has ls 3 [(0, .ref (X 8)), (1, .int v1_2)] → W p l e (headSpec vs_k_X3_beginWithExternals { frames := 1, cells := 0, slots := 0, locals := 23 }).room s m ([.ref (X 8)] : List Value).toArray below meth c H locs 0 0 (MQ below (va_Qv (fun u : va_W => ((u = (wW_k_X3_beginWithExternals ty X pn rn tn en ea es hn kn on cu pu gw TT.1 TT.2)))) (wq_B D A) A) ([.ref (X 8)] : List Value).toArray s 0 0 A) (F0 m 56 ls []) := by
            intro _ hT  H locs hP hD hS ls hl
            rw [m_k_X3_beginWithExternals_56] at hT
            refine lv_aload_n hx hb dX3_beginWithExternals_56 rfl (lv_at hl 0 rfl) ?_
            refine va_get (D := D) (ci := 5) (v := .ref (X 12)) (C := RX3) (T := TX3) (N := 16) hx hb hts iv_k_X3_beginWithExternals_X3 hown hK hP 3 rfl rfl 3 (by decide) (hts (.fieldLink RX3 25 "AnswerFold$Grounding" "possible" "LAnswerFold$AtomSet;") (by decide +kernel)) (fun _ h9 => h9) rfl dX3_beginWithExternals_57 ?_
            refine lv_aload_n hx hb dX3_beginWithExternals_60 rfl (lv_at hl 0 rfl) ?_
            refine va_get (D := D) (ci := 5) (v := .ref (X 1)) (C := RX3) (T := TX3) (N := 16) hx hb hts iv_k_X3_beginWithExternals_X3 hown hK hP 3 rfl rfl 0 (by decide) (hts (.fieldLink RX3 47 "AnswerFold$Grounding" "program" "LAnswerFold$Program;") (by decide +kernel)) (fun _ h9 => h9) rfl dX3_beginWithExternals_61 ?_
            refine lv_iload_n hx hb dX3_beginWithExternals_64 rfl (lv_at hl 1 rfl) ?_
            obtain ⟨t_65, ht_65⟩ : ∃ t, t = m_k_X6_externalAtom en ea v1_2 := ⟨_, rfl⟩
            rw [lE_eq ht_65] at hT
            refine wq_iW (wc := (wW_k_X6_externalAtom ty X pn rn tn en ea)) (va_runV (As := [.int v1_2]) (rest := [.ref (X 12)]) ⟨hx, hb, hml, hown, hts⟩ (k_X6_externalAtom l D ty td mi H.size X pn rn tn en ea v1_2 t_65 ht_65) (cwV 1 hts gv_k_X3_beginWithExternals_1 rfl rfl rfl (by decide +kernel) ⟨(Nat.le_of_ble_eq_true rfl), (Nat.le_of_ble_eq_true rfl)⟩) (wm_V (wm_preS hP hD hK hE hS hA [true, true] rfl) (va_recv (q0 := 0) (ci := 8) hK hP rfl rfl)) rfl rfl hl.1 rfl (lv_room (Nat.le_of_ble_eq_true rfl)) dX3_beginWithExternals_65 ⟨(Nat.le_of_ble_eq_true rfl), (Nat.le_of_ble_eq_true rfl)⟩) hS hA hP hD [true, true] rfl (fun _ _ h => by rcases h with ⟨-, rfl⟩; rfl) (fun r u H locs hw hP hD hS => ?_)
            obtain ⟨hr0, rfl⟩ := hw
            subst r
            have hP : va_P D vwCl (wW_k_X3_beginWithExternals ty X pn rn tn en ea es hn kn on cu pu gw x11_f_44 x13_f_2) H := hP
            have hD : va_D A (wW_k_X3_beginWithExternals ty X pn rn tn en ea es hn kn on cu pu gw x11_f_44 x13_f_2) := hD
            refine W.widen (k := 0) (n := 0) (Nat.le_of_ble_eq_true rfl) (Nat.le_of_ble_eq_true rfl) ?_
            obtain ⟨t_68, ht_68⟩ : ∃ t, t = m_k_X1_add x13_f_2 t_65 := ⟨_, rfl⟩
            rw [lE_eq ht_68] at hT
            refine wq_iW (wc := (wW_k_X1_add ty (X 12) (X 13) x13_f_2)) (va_runV (As := [.int t_65]) (rest := []) ⟨hx, hb, hml, hown, hts⟩ (k_X1_add l D ty td mi H.size (X 12) (X 13) x13_f_2 t_65 t_68 ht_68) (cwV 1 hts gv_k_X3_beginWithExternals_2 rfl rfl rfl (by decide +kernel) ⟨(Nat.le_of_ble_eq_true rfl), (Nat.le_of_ble_eq_true rfl)⟩) (wm_V (wm_preS hP hD hK hE hS hA [false, false, false, false, false, false, true, true] rfl) (va_recv (q0 := 6) (ci := 3) hK hP rfl rfl)) rfl rfl hl.1 rfl (lv_room (Nat.le_of_ble_eq_true rfl)) dX3_beginWithExternals_68 ⟨(Nat.le_of_ble_eq_true rfl), (Nat.le_of_ble_eq_true rfl)⟩) hS hA hP hD [false, false, false, false, false, false, true, true] rfl (fun _ _ h => by rcases h with ⟨-, -, rfl⟩; rfl) (fun r u H locs hw hP hD hS => ?_)
            obtain ⟨rfl, c_8, rfl⟩ := hw
            have hP : va_P D vwCl (wW_k_X3_beginWithExternals ty X pn rn tn en ea es hn kn on cu pu gw x11_f_44 t_68.2) H := hP
            have hD : va_D A (wW_k_X3_beginWithExternals ty X pn rn tn en ea es hn kn on cu pu gw x11_f_44 t_68.2) := hD
            refine W.widen (k := 0) (n := 0) (Nat.le_of_ble_eq_true rfl) (Nat.le_of_ble_eq_true rfl) ?_
            refine lv_pop hx hb dX3_beginWithExternals_71 rfl ?_
            exact J_72 t_68.2 hT _ _ hP hD hS _ (lv_sub hl [0, 1] rfl)
          refine lv_icmp_eq (tgt := 56) hx hb dX3_beginWithExternals_47 (by decide) (fun c_9 => ?_) (fun c_9 => ?_)
          · rw [if_pos c_9] at hT
            exact J_56 () hT _ _ hP hD hS _ (lv_sub hl [0, 1] rfl)
          · rw [if_neg c_9] at hT
            refine lv_iload_n hx hb dX3_beginWithExternals_50 rfl (lv_at hl 2 rfl) ?_
            refine lv_bipush (v := 117) hx hb dX3_beginWithExternals_51 (by decide) ?_
            refine lv_icmp_ne (tgt := 72) hx hb dX3_beginWithExternals_53 (by decide) (fun c_10 => ?_) (fun c_10 => ?_)
            · rw [if_neg c_10] at hT
              exact J_72 x13_f_2 hT _ _ hP hD hS _ (lv_sub hl [0, 1] rfl)
            · rw [if_pos c_10] at hT
              exact J_56 () hT _ _ hP hD hS _ (lv_sub hl [0, 1] rfl)
        refine lv_icmp_ne (tgt := 44) hx hb dX3_beginWithExternals_25 (by decide) (fun c_11 => ?_) (fun c_11 => ?_)
        · rw [if_neg c_11] at hT
          exact J_44 x11_f_2 hT _ _ hP hD hS _ (lv_sub hl [1, 2, 0] rfl)
        · rw [if_pos c_11] at hT
          refine lv_aload_n hx hb dX3_beginWithExternals_28 rfl (lv_at hl 1 rfl) ?_
          refine va_get (D := D) (ci := 5) (v := .ref (X 10)) (C := RX3) (T := TX3) (N := 16) hx hb hts iv_k_X3_beginWithExternals_X3 hown hK hP 3 rfl rfl 2 (by decide) (hts (.fieldLink RX3 21 "AnswerFold$Grounding" "sure" "LAnswerFold$AtomSet;") (by decide +kernel)) (fun _ h9 => h9) rfl dX3_beginWithExternals_29 ?_
          refine lv_aload_n hx hb dX3_beginWithExternals_32 rfl (lv_at hl 1 rfl) ?_
          refine va_get (D := D) (ci := 5) (v := .ref (X 1)) (C := RX3) (T := TX3) (N := 16) hx hb hts iv_k_X3_beginWithExternals_X3 hown hK hP 3 rfl rfl 0 (by decide) (hts (.fieldLink RX3 47 "AnswerFold$Grounding" "program" "LAnswerFold$Program;") (by decide +kernel)) (fun _ h9 => h9) rfl dX3_beginWithExternals_33 ?_
          refine lv_iload_n hx hb dX3_beginWithExternals_36 rfl (lv_at hl 2 rfl) ?_
          obtain ⟨t_37, ht_37⟩ : ∃ t, t = m_k_X6_externalAtom en ea v1_2 := ⟨_, rfl⟩
          rw [lE_eq ht_37] at hT
          refine wq_iW (wc := (wW_k_X6_externalAtom ty X pn rn tn en ea)) (va_runV (As := [.int v1_2]) (rest := [.ref (X 10)]) ⟨hx, hb, hml, hown, hts⟩ (k_X6_externalAtom l D ty td mi H.size X pn rn tn en ea v1_2 t_37 ht_37) (cwV 1 hts gv_k_X3_beginWithExternals_3 rfl rfl rfl (by decide +kernel) ⟨(Nat.le_of_ble_eq_true rfl), (Nat.le_of_ble_eq_true rfl)⟩) (wm_V (wm_preS hP hD hK hE hS hA [true, true] rfl) (va_recv (q0 := 0) (ci := 8) hK hP rfl rfl)) rfl rfl hl.1 rfl (lv_room (Nat.le_of_ble_eq_true rfl)) dX3_beginWithExternals_37 ⟨(Nat.le_of_ble_eq_true rfl), (Nat.le_of_ble_eq_true rfl)⟩) hS hA hP hD [true, true] rfl (fun _ _ h => by rcases h with ⟨-, rfl⟩; rfl) (fun r u H locs hw hP hD hS => ?_)
          obtain ⟨hr0, rfl⟩ := hw
          subst r
          have hP : va_P D vwCl (wW_k_X3_beginWithExternals ty X pn rn tn en ea es hn kn on cu pu gw x11_f_2 x13_f_2) H := hP
          have hD : va_D A (wW_k_X3_beginWithExternals ty X pn rn tn en ea es hn kn on cu pu gw x11_f_2 x13_f_2) := hD
          refine W.widen (k := 0) (n := 0) (Nat.le_of_ble_eq_true rfl) (Nat.le_of_ble_eq_true rfl) ?_
          obtain ⟨t_40, ht_40⟩ : ∃ t, t = m_k_X1_add x11_f_2 t_37 := ⟨_, rfl⟩
          rw [lE_eq ht_40] at hT
          refine wq_iW (wc := (wW_k_X1_add ty (X 10) (X 11) x11_f_2)) (va_runV (As := [.int t_37]) (rest := []) ⟨hx, hb, hml, hown, hts⟩ (k_X1_add l D ty td mi H.size (X 10) (X 11) x11_f_2 t_37 t_40 ht_40) (cwV 1 hts gv_k_X3_beginWithExternals_4 rfl rfl rfl (by decide +kernel) ⟨(Nat.le_of_ble_eq_true rfl), (Nat.le_of_ble_eq_true rfl)⟩) (wm_V (wm_preS hP hD hK hE hS hA [false, false, false, false, true, true] rfl) (va_recv (q0 := 4) (ci := 3) hK hP rfl rfl)) rfl rfl hl.1 rfl (lv_room (Nat.le_of_ble_eq_true rfl)) dX3_beginWithExternals_40 ⟨(Nat.le_of_ble_eq_true rfl), (Nat.le_of_ble_eq_true rfl)⟩) hS hA hP hD [false, false, false, false, true, true] rfl (fun _ _ h => by rcases h with ⟨-, -, rfl⟩; rfl) (fun r u H locs hw hP hD hS => ?_)
          obtain ⟨rfl, c_16, rfl⟩ := hw
          have hP : va_P D vwCl (wW_k_X3_beginWithExternals ty X pn rn tn en ea es hn kn on cu pu gw t_40.2 x13_f_2) H := hP
          have hD : va_D A (wW_k_X3_beginWithExternals ty X pn rn tn en ea es hn kn on cu pu gw t_40.2 x13_f_2) := hD
          refine W.widen (k := 0) (n := 0) (Nat.le_of_ble_eq_true rfl) (Nat.le_of_ble_eq_true rfl) ?_
          refine lv_pop hx hb dX3_beginWithExternals_43 rfl ?_
          exact J_44 t_40.2 hT _ _ hP hD hS _ (lv_sub hl [1, 2, 0] rfl)
  exact L_2 wF 0 su po (wF_up 0) hT (by decide) _ _ hP hD hS _ (lv_sub hl [1, 0] rfl)
