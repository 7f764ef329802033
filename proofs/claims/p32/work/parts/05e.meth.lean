theorem dX3_openNumberOf_0 : decode cX3_openNumberOf 0 = .ok (.iload_n 1, 1) := by decide +kernel
theorem dX3_openNumberOf_1 : decode cX3_openNumberOf 1 = .ok (.ifCond .lt 19, 3) := by decide +kernel
theorem dX3_openNumberOf_4 : decode cX3_openNumberOf 4 = .ok (.iload_n 1, 1) := by decide +kernel
theorem dX3_openNumberOf_5 : decode cX3_openNumberOf 5 = .ok (.sipush 384, 3) := by decide +kernel
theorem dX3_openNumberOf_8 : decode cX3_openNumberOf 8 = .ok (.if_icmp .ge 12, 3) := by decide +kernel
theorem dX3_openNumberOf_11 : decode cX3_openNumberOf 11 = .ok (.aload_n 0, 1) := by decide +kernel
theorem dX3_openNumberOf_12 : decode cX3_openNumberOf 12 = .ok (.getfield 44, 3) := by decide +kernel
theorem dX3_openNumberOf_15 : decode cX3_openNumberOf 15 = .ok (.iload_n 1, 1) := by decide +kernel
theorem dX3_openNumberOf_16 : decode cX3_openNumberOf 16 = .ok (.iaload, 1) := by decide +kernel
theorem dX3_openNumberOf_17 : decode cX3_openNumberOf 17 = .ok (.goto 4, 3) := by decide +kernel
theorem dX3_openNumberOf_20 : decode cX3_openNumberOf 20 = .ok (.iconst (-1), 1) := by decide +kernel
theorem dX3_openNumberOf_21 : decode cX3_openNumberOf 21 = .ok (.ireturn, 1) := by decide +kernel
abbrev r_k_X3_openNumberOf : Type := Int32
def m_k_X3_openNumberOf (ob : Nat → Int32) (a1 : Int32) : r_k_X3_openNumberOf :=
  if a1 < 0 then
    (-1)
  else
    if 384 ≤ a1 then
      (-1)
    else
      (ob a1.toNatClampNeg)
def vs_k_X3_openNumberOf : List Cond := .code yX3_openNumberOf cX3_openNumberOf 2 (some .int) :: ([.fieldLink RX3 44 "AnswerFold$Grounding" "openNumbers" "[I"] ++ (u_ws RX3 TX3 16))
theorem iv_k_X3_openNumberOf_X3 : ∀ w ∈ u_ws RX3 TX3 16, w ∈ vs_k_X3_openNumberOf := (fun _ h => List.mem_cons_of_mem _ (List.mem_append_right _ (h)))
set_option maxHeartbeats 4000000 in
set_option maxRecDepth 100000 in
theorem k_X3_openNumberOf (l : Launch) (D : va_G) (ty : Nat → ClassId) (td mi sz : Nat) (x8 : Nat) (x1 : Nat) (x9 : Nat) (x10 : Nat) (x12 : Nat) (x14 : Nat) (hn : Int32) (x15 : Nat) (x16 : Nat) (x17 : Nat) (kn : Int32) (x18 : Nat) (x19 : Nat) (on : Int32) (cu : Int32) (pu : Int32) (gw : Int32) (ob : Nat → Int32) (a1 : Int32) (TT : r_k_X3_openNumberOf) (hTT : TT = m_k_X3_openNumberOf ob a1) : Met l yX3_openNumberOf vs_k_X3_openNumberOf { frames := 0, cells := 0, slots := 0, locals := 0 } (va_Pc [.ref x8, .int a1] (wq_P D ty td mi [(x8, .inr (5, [.ref x1, .ref x9, .ref x10, .ref x12, .ref x14, .int hn, .ref x15, .ref x16, .ref x17, .int kn, .ref x18, .ref x19, .int on, .int cu, .int pu, .int gw])), (x19, .inl (ty 0, 384, .inl ob))] sz)) (va_Qi (fun (r : Int32) (u : va_W) => (r = TT ∧ (u = [(x8, .inr (5, [.ref x1, .ref x9, .ref x10, .ref x12, .ref x14, .int hn, .ref x15, .ref x16, .ref x17, .int kn, .ref x18, .ref x19, .int on, .int cu, .int pu, .int gw])), (x19, .inl (ty 0, 384, .inl ob))]))) (wq_B D (va_A [(x8, .inr (5, [.ref x1, .ref x9, .ref x10, .ref x12, .ref x14, .int hn, .ref x15, .ref x16, .ref x17, .int kn, .ref x18, .ref x19, .int on, .int cu, .int pu, .int gw])), (x19, .inl (ty 0, 384, .inl ob))] sz)) (va_A [(x8, .inr (5, [.ref x1, .ref x9, .ref x10, .ref x12, .ref x14, .int hn, .ref x15, .ref x16, .ref x17, .int kn, .ref x18, .ref x19, .int on, .int cu, .int pu, .int gw])), (x19, .inl (ty 0, 384, .inl ob))] sz)) 0 0 (va_A [(x8, .inr (5, [.ref x1, .ref x9, .ref x10, .ref x12, .ref x14, .int hn, .ref x15, .ref x16, .ref x17, .int kn, .ref x18, .ref x19, .int on, .int cu, .int pu, .int gw])), (x19, .inl (ty 0, 384, .inl ob))] sz) := by
  refine Met.ofW (cc := cX3_openNumberOf) (maxL := 2) (ret := (some .int)) (by decide) rfl ?_
  intro p e s m args below meth c s₁ B hml hv
  obtain ⟨rfl, hsz, hP, hK, hD0, hE⟩ := hv
  have hx := B.exec
  have hb := B.bytes
  have hr := B.returns
  have hts := atoms_spec (ws := vs_k_X3_openNumberOf) B.pre
  have hown : s.vm.findClass RX3 = some m.cls := findClass_of_methodNamed B.named
  have hlocks := B.notSynchronized
  subst hsz
  have hD := hD0.self (sz := s.heap.size)
  generalize hAe : va_A [(x8, .inr (5, [.ref x1, .ref x9, .ref x10, .ref x12, .ref x14, .int hn, .ref x15, .ref x16, .ref x17, .int kn, .ref x18, .ref x19, .int on, .int cu, .int pu, .int gw])), (x19, .inl (ty 0, 384, .inl ob))] s.heap.size = A at hD hE ⊢
  have hA : ∀ q : Nat, s.heap.size ≤ q → A q := fun q h => by rw [← hAe]; exact Or.inr h
  have hS : va_S A s.heap s.heap [] := va_S.rf
  have hP : va_P D vwCl [(x8, .inr (5, [.ref x1, .ref x9, .ref x10, .ref x12, .ref x14, .int hn, .ref x15, .ref x16, .ref x17, .int kn, .ref x18, .ref x19, .int on, .int cu, .int pu, .int gw])), (x19, .inl (ty 0, 384, .inl ob))] s.heap := hP
  have hl := lv_entry ([.ref x8, .int a1]) (n := 2) (Nat.le_of_ble_eq_true rfl)
  rw [lg_entry_eq]
  generalize (lg_sl ([.ref x8, .int a1]) ++ List.replicate (2 - (lg_sl ([.ref x8, .int a1])).length) Slot.unset).toArray = ls at hl ⊢
  have hl : lv_has ls 2 [(0, .ref x8), (1, .int a1)] := hl
  have END : ∀ (r : Int32), TT = r → ∀ (H : Heap) (locs : List Loc), va_P D vwCl [(x8, .inr (5, [.ref x1, .ref x9, .ref x10, .ref x12, .ref x14, .int hn, .ref x15, .ref x16, .ref x17, .int kn, .ref x18, .ref x19, .int on, .int cu, .int pu, .int gw])), (x19, .inl (ty 0, 384, .inl ob))] H → va_D A [(x8, .inr (5, [.ref x1, .ref x9, .ref x10, .ref x12, .ref x14, .int hn, .ref x15, .ref x16, .ref x17, .int kn, .ref x18, .ref x19, .int on, .int cu, .int pu, .int gw])), (x19, .inl (ty 0, 384, .inl ob))] → va_S A s.heap H locs → ∀ (ls : Array Slot) (pc : Nat), decode cX3_openNumberOf pc = .ok (.ireturn, 1) → W p l e (headSpec vs_k_X3_openNumberOf { frames := 0, cells := 0, slots := 0, locals := 0 }).room s m ([.ref x8, .int a1] : List Value).toArray below meth c H locs 0 0 (MQ below (va_Qi (fun (r : Int32) (u : va_W) => (r = TT ∧ (u = [(x8, .inr (5, [.ref x1, .ref x9, .ref x10, .ref x12, .ref x14, .int hn, .ref x15, .ref x16, .ref x17, .int kn, .ref x18, .ref x19, .int on, .int cu, .int pu, .int gw])), (x19, .inl (ty 0, 384, .inl ob))]))) (wq_B D A) A) ([.ref x8, .int a1] : List Value).toArray s 0 0 A) (F0 m pc ls [.int r]) := by
    intro r hT H locs hP hD hS ls pc hd
    have hM : TT = r := hT
    exact W.iret (v := r) hx hb hr (fun t ht hW => ⟨⟨r, [(x8, .inr (5, [.ref x1, .ref x9, .ref x10, .ref x12, .ref x14, .int hn, .ref x15, .ref x16, .ref x17, .int kn, .ref x18, .ref x19, .int on, .int cu, .int pu, .int gw])), (x19, .inl (ty 0, 384, .inl ob))], rfl, ⟨(by rw [hM]), rfl⟩, wq_B.of ht hP hD⟩, hS.F ht⟩) hS.2.2 hd
  have hT := hTT
  rw [m_k_X3_openNumberOf] at hT
  refine lv_iload_n hx hb dX3_openNumberOf_0 rfl (lv_at hl 1 rfl) ?_
  refine lv_if_lt (tgt := 20) hx hb dX3_openNumberOf_1 (by decide) (fun c_1 => ?_) (fun c_1 => ?_)
  · rw [if_pos c_1] at hT
    refine lv_iconst (v := (-1)) hx hb dX3_openNumberOf_20 (by decide) ?_
    exact END (-1) hT _ _ hP hD hS _ _ dX3_openNumberOf_21
  · rw [if_neg c_1] at hT
    refine lv_iload_n hx hb dX3_openNumberOf_4 rfl (lv_at hl 1 rfl) ?_
    refine lv_sipush (v := 384) hx hb dX3_openNumberOf_5 (by decide) ?_
    refine lv_icmp_ge (tgt := 20) hx hb dX3_openNumberOf_8 (by decide) (fun c_2 => ?_) (fun c_2 => ?_)
    · rw [if_pos c_2] at hT
      refine lv_iconst (v := (-1)) hx hb dX3_openNumberOf_20 (by decide) ?_
      exact END (-1) hT _ _ hP hD hS _ _ dX3_openNumberOf_21
    · rw [if_neg c_2] at hT
      refine lv_aload_n hx hb dX3_openNumberOf_11 rfl (lv_at hl 0 rfl) ?_
      refine va_get (D := D) (ci := 5) (v := .ref x19) (C := RX3) (T := TX3) (N := 16) hx hb hts iv_k_X3_openNumberOf_X3 hown hK hP 0 rfl rfl 11 (by decide) (hts (.fieldLink RX3 44 "AnswerFold$Grounding" "openNumbers" "[I") (by decide +kernel)) (fun _ h9 => h9) rfl dX3_openNumberOf_12 ?_
      refine lv_iload_n hx hb dX3_openNumberOf_15 rfl (lv_at hl 1 rfl) ?_
      refine va_iald (D := D) hx hb hK hP 1 0 rfl rfl (wi_in (wi_lo c_1) (wi_hi c_2 (by decide))) dX3_openNumberOf_16 ?_
      refine lv_goto (tgt := 21) hx hb dX3_openNumberOf_17 (by decide) ?_
      exact END (ob a1.toNatClampNeg) hT _ _ hP hD hS _ _ dX3_openNumberOf_21
theorem dX3_openAtomAt_0 : decode cX3_openAtomAt 0 = .ok (.iload_n 1, 1) := by decide +kernel
theorem dX3_openAtomAt_1 : decode cX3_openAtomAt 1 = .ok (.ifCond .lt 19, 3) := by decide +kernel
theorem dX3_openAtomAt_4 : decode cX3_openAtomAt 4 = .ok (.iload_n 1, 1) := by decide +kernel
theorem dX3_openAtomAt_5 : decode cX3_openAtomAt 5 = .ok (.sipush 384, 3) := by decide +kernel
theorem dX3_openAtomAt_8 : decode cX3_openAtomAt 8 = .ok (.if_icmp .ge 12, 3) := by decide +kernel
theorem dX3_openAtomAt_11 : decode cX3_openAtomAt 11 = .ok (.aload_n 0, 1) := by decide +kernel
theorem dX3_openAtomAt_12 : decode cX3_openAtomAt 12 = .ok (.getfield 41, 3) := by decide +kernel
theorem dX3_openAtomAt_15 : decode cX3_openAtomAt 15 = .ok (.iload_n 1, 1) := by decide +kernel
theorem dX3_openAtomAt_16 : decode cX3_openAtomAt 16 = .ok (.iaload, 1) := by decide +kernel
theorem dX3_openAtomAt_17 : decode cX3_openAtomAt 17 = .ok (.goto 4, 3) := by decide +kernel
theorem dX3_openAtomAt_20 : decode cX3_openAtomAt 20 = .ok (.iconst (-1), 1) := by decide +kernel
theorem dX3_openAtomAt_21 : decode cX3_openAtomAt 21 = .ok (.ireturn, 1) := by decide +kernel
abbrev r_k_X3_openAtomAt : Type := Int32
def m_k_X3_openAtomAt (oa : Nat → Int32) (a1 : Int32) : r_k_X3_openAtomAt :=
  if a1 < 0 then
    (-1)
  else
    if 384 ≤ a1 then
      (-1)
    else
      (oa a1.toNatClampNeg)
def vs_k_X3_openAtomAt : List Cond := .code yX3_openAtomAt cX3_openAtomAt 2 (some .int) :: ([.fieldLink RX3 41 "AnswerFold$Grounding" "openAtoms" "[I"] ++ (u_ws RX3 TX3 16))
theorem iv_k_X3_openAtomAt_X3 : ∀ w ∈ u_ws RX3 TX3 16, w ∈ vs_k_X3_openAtomAt := (fun _ h => List.mem_cons_of_mem _ (List.mem_append_right _ (h)))
set_option maxHeartbeats 4000000 in
set_option maxRecDepth 100000 in
theorem k_X3_openAtomAt (l : Launch) (D : va_G) (ty : Nat → ClassId) (td mi sz : Nat) (x8 : Nat) (x1 : Nat) (x9 : Nat) (x10 : Nat) (x12 : Nat) (x14 : Nat) (hn : Int32) (x15 : Nat) (x16 : Nat) (x17 : Nat) (kn : Int32) (x18 : Nat) (x19 : Nat) (on : Int32) (cu : Int32) (pu : Int32) (gw : Int32) (oa : Nat → Int32) (a1 : Int32) (TT : r_k_X3_openAtomAt) (hTT : TT = m_k_X3_openAtomAt oa a1) : Met l yX3_openAtomAt vs_k_X3_openAtomAt { frames := 0, cells := 0, slots := 0, locals := 0 } (va_Pc [.ref x8, .int a1] (wq_P D ty td mi [(x8, .inr (5, [.ref x1, .ref x9, .ref x10, .ref x12, .ref x14, .int hn, .ref x15, .ref x16, .ref x17, .int kn, .ref x18, .ref x19, .int on, .int cu, .int pu, .int gw])), (x18, .inl (ty 0, 384, .inl oa))] sz)) (va_Qi (fun (r : Int32) (u : va_W) => (r = TT ∧ (u = [(x8, .inr (5, [.ref x1, .ref x9, .ref x10, .ref x12, .ref x14, .int hn, .ref x15, .ref x16, .ref x17, .int kn, .ref x18, .ref x19, .int on, .int cu, .int pu, .int gw])), (x18, .inl (ty 0, 384, .inl oa))]))) (wq_B D (va_A [(x8, .inr (5, [.ref x1, .ref x9, .ref x10, .ref x12, .ref x14, .int hn, .ref x15, .ref x16, .ref x17, .int kn, .ref x18, .ref x19, .int on, .int cu, .int pu, .int gw])), (x18, .inl (ty 0, 384, .inl oa))] sz)) (va_A [(x8, .inr (5, [.ref x1, .ref x9, .ref x10, .ref x12, .ref x14, .int hn, .ref x15, .ref x16, .ref x17, .int kn, .ref x18, .ref x19, .int on, .int cu, .int pu, .int gw])), (x18, .inl (ty 0, 384, .inl oa))] sz)) 0 0 (va_A [(x8, .inr (5, [.ref x1, .ref x9, .ref x10, .ref x12, .ref x14, .int hn, .ref x15, .ref x16, .ref x17, .int kn, .ref x18, .ref x19, .int on, .int cu, .int pu, .int gw])), (x18, .inl (ty 0, 384, .inl oa))] sz) := by
  refine Met.ofW (cc := cX3_openAtomAt) (maxL := 2) (ret := (some .int)) (by decide) rfl ?_
  intro p e s m args below meth c s₁ B hml hv
  obtain ⟨rfl, hsz, hP, hK, hD0, hE⟩ := hv
  have hx := B.exec
  have hb := B.bytes
  have hr := B.returns
  have hts := atoms_spec (ws := vs_k_X3_openAtomAt) B.pre
  have hown : s.vm.findClass RX3 = some m.cls := findClass_of_methodNamed B.named
  have hlocks := B.notSynchronized
  subst hsz
  have hD := hD0.self (sz := s.heap.size)
  generalize hAe : va_A [(x8, .inr (5, [.ref x1, .ref x9, .ref x10, .ref x12, .ref x14, .int hn, .ref x15, .ref x16, .ref x17, .int kn, .ref x18, .ref x19, .int on, .int cu, .int pu, .int gw])), (x18, .inl (ty 0, 384, .inl oa))] s.heap.size = A at hD hE ⊢
  have hA : ∀ q : Nat, s.heap.size ≤ q → A q := fun q h => by rw [← hAe]; exact Or.inr h
  have hS : va_S A s.heap s.heap [] := va_S.rf
  have hP : va_P D vwCl [(x8, .inr (5, [.ref x1, .ref x9, .ref x10, .ref x12, .ref x14, .int hn, .ref x15, .ref x16, .ref x17, .int kn, .ref x18, .ref x19, .int on, .int cu, .int pu, .int gw])), (x18, .inl (ty 0, 384, .inl oa))] s.heap := hP
  have hl := lv_entry ([.ref x8, .int a1]) (n := 2) (Nat.le_of_ble_eq_true rfl)
  rw [lg_entry_eq]
  generalize (lg_sl ([.ref x8, .int a1]) ++ List.replicate (2 - (lg_sl ([.ref x8, .int a1])).length) Slot.unset).toArray = ls at hl ⊢
  have hl : lv_has ls 2 [(0, .ref x8), (1, .int a1)] := hl
  have END : ∀ (r : Int32), TT = r → ∀ (H : Heap) (locs : List Loc), va_P D vwCl [(x8, .inr (5, [.ref x1, .ref x9, .ref x10, .ref x12, .ref x14, .int hn, .ref x15, .ref x16, .ref x17, .int kn, .ref x18, .ref x19, .int on, .int cu, .int pu, .int gw])), (x18, .inl (ty 0, 384, .inl oa))] H → va_D A [(x8, .inr (5, [.ref x1, .ref x9, .ref x10, .ref x12, .ref x14, .int hn, .ref x15, .ref x16, .ref x17, .int kn, .ref x18, .ref x19, .int on, .int cu, .int pu, .int gw])), (x18, .inl (ty 0, 384, .inl oa))] → va_S A s.heap H locs → ∀ (ls : Array Slot) (pc : Nat), decode cX3_openAtomAt pc = .ok (.ireturn, 1) → W p l e (headSpec vs_k_X3_openAtomAt { frames := 0, cells := 0, slots := 0, locals := 0 }).room s m ([.ref x8, .int a1] : List Value).toArray below meth c H locs 0 0 (MQ below (va_Qi (fun (r : Int32) (u : va_W) => (r = TT ∧ (u = [(x8, .inr (5, [.ref x1, .ref x9, .ref x10, .ref x12, .ref x14, .int hn, .ref x15, .ref x16, .ref x17, .int kn, .ref x18, .ref x19, .int on, .int cu, .int pu, .int gw])), (x18, .inl (ty 0, 384, .inl oa))]))) (wq_B D A) A) ([.ref x8, .int a1] : List Value).toArray s 0 0 A) (F0 m pc ls [.int r]) := by
    intro r hT H locs hP hD hS ls pc hd
    have hM : TT = r := hT
    exact W.iret (v := r) hx hb hr (fun t ht hW => ⟨⟨r, [(x8, .inr (5, [.ref x1, .ref x9, .ref x10, .ref x12, .ref x14, .int hn, .ref x15, .ref x16, .ref x17, .int kn, .ref x18, .ref x19, .int on, .int cu, .int pu, .int gw])), (x18, .inl (ty 0, 384, .inl oa))], rfl, ⟨(by rw [hM]), rfl⟩, wq_B.of ht hP hD⟩, hS.F ht⟩) hS.2.2 hd
  have hT := hTT
  rw [m_k_X3_openAtomAt] at hT
  refine lv_iload_n hx hb dX3_openAtomAt_0 rfl (lv_at hl 1 rfl) ?_
  refine lv_if_lt (tgt := 20) hx hb dX3_openAtomAt_1 (by decide) (fun c_1 => ?_) (fun c_1 => ?_)
  · rw [if_pos c_1] at hT
    refine lv_iconst (v := (-1)) hx hb dX3_openAtomAt_20 (by decide) ?_
    exact END (-1) hT _ _ hP hD hS _ _ dX3_openAtomAt_21
  · rw [if_neg c_1] at hT
    refine lv_iload_n hx hb dX3_openAtomAt_4 rfl (lv_at hl 1 rfl) ?_
    refine lv_sipush (v := 384) hx hb dX3_openAtomAt_5 (by decide) ?_
    refine lv_icmp_ge (tgt := 20) hx hb dX3_openAtomAt_8 (by decide) (fun c_2 => ?_) (fun c_2 => ?_)
    · rw [if_pos c_2] at hT
      refine lv_iconst (v := (-1)) hx hb dX3_openAtomAt_20 (by decide) ?_
      exact END (-1) hT _ _ hP hD hS _ _ dX3_openAtomAt_21
    · rw [if_neg c_2] at hT
      refine lv_aload_n hx hb dX3_openAtomAt_11 rfl (lv_at hl 0 rfl) ?_
      refine va_get (D := D) (ci := 5) (v := .ref x18) (C := RX3) (T := TX3) (N := 16) hx hb hts iv_k_X3_openAtomAt_X3 hown hK hP 0 rfl rfl 10 (by decide) (hts (.fieldLink RX3 41 "AnswerFold$Grounding" "openAtoms" "[I") (by decide +kernel)) (fun _ h9 => h9) rfl dX3_openAtomAt_12 ?_
      refine lv_iload_n hx hb dX3_openAtomAt_15 rfl (lv_at hl 1 rfl) ?_
      refine va_iald (D := D) hx hb hK hP 1 0 rfl rfl (wi_in (wi_lo c_1) (wi_hi c_2 (by decide))) dX3_openAtomAt_16 ?_
      refine lv_goto (tgt := 21) hx hb dX3_openAtomAt_17 (by decide) ?_
      exact END (oa a1.toNatClampNeg) hT _ _ hP hD hS _ _ dX3_openAtomAt_21
theorem dX3_keptOf_0 : decode cX3_keptOf 0 = .ok (.iload_n 1, 1) := by decide +kernel
theorem dX3_keptOf_1 : decode cX3_keptOf 1 = .ok (.ifCond .lt 18, 3) := by decide +kernel
theorem dX3_keptOf_4 : decode cX3_keptOf 4 = .ok (.iload_n 1, 1) := by decide +kernel
theorem dX3_keptOf_5 : decode cX3_keptOf 5 = .ok (.bipush 20, 2) := by decide +kernel
theorem dX3_keptOf_7 : decode cX3_keptOf 7 = .ok (.if_icmp .ge 12, 3) := by decide +kernel
theorem dX3_keptOf_10 : decode cX3_keptOf 10 = .ok (.aload_n 0, 1) := by decide +kernel
theorem dX3_keptOf_11 : decode cX3_keptOf 11 = .ok (.getfield 38, 3) := by decide +kernel
theorem dX3_keptOf_14 : decode cX3_keptOf 14 = .ok (.iload_n 1, 1) := by decide +kernel
theorem dX3_keptOf_15 : decode cX3_keptOf 15 = .ok (.iaload, 1) := by decide +kernel
theorem dX3_keptOf_16 : decode cX3_keptOf 16 = .ok (.goto 4, 3) := by decide +kernel
theorem dX3_keptOf_19 : decode cX3_keptOf 19 = .ok (.iconst 0, 1) := by decide +kernel
theorem dX3_keptOf_20 : decode cX3_keptOf 20 = .ok (.ireturn, 1) := by decide +kernel
abbrev r_k_X3_keptOf : Type := Int32
def m_k_X3_keptOf (kb : Nat → Int32) (a1 : Int32) : r_k_X3_keptOf :=
  if a1 < 0 then
    0
  else
    if 20 ≤ a1 then
      0
    else
      (kb a1.toNatClampNeg)
def vs_k_X3_keptOf : List Cond := .code yX3_keptOf cX3_keptOf 2 (some .int) :: ([.fieldLink RX3 38 "AnswerFold$Grounding" "keptByRule" "[I"] ++ (u_ws RX3 TX3 16))
theorem iv_k_X3_keptOf_X3 : ∀ w ∈ u_ws RX3 TX3 16, w ∈ vs_k_X3_keptOf := (fun _ h => List.mem_cons_of_mem _ (List.mem_append_right _ (h)))
set_option maxHeartbeats 4000000 in
set_option maxRecDepth 100000 in
theorem k_X3_keptOf (l : Launch) (D : va_G) (ty : Nat → ClassId) (td mi sz : Nat) (x8 : Nat) (x1 : Nat) (x9 : Nat) (x10 : Nat) (x12 : Nat) (x14 : Nat) (hn : Int32) (x15 : Nat) (x16 : Nat) (x17 : Nat) (kn : Int32) (x18 : Nat) (x19 : Nat) (on : Int32) (cu : Int32) (pu : Int32) (gw : Int32) (kb : Nat → Int32) (a1 : Int32) (TT : r_k_X3_keptOf) (hTT : TT = m_k_X3_keptOf kb a1) : Met l yX3_keptOf vs_k_X3_keptOf { frames := 0, cells := 0, slots := 0, locals := 0 } (va_Pc [.ref x8, .int a1] (wq_P D ty td mi [(x8, .inr (5, [.ref x1, .ref x9, .ref x10, .ref x12, .ref x14, .int hn, .ref x15, .ref x16, .ref x17, .int kn, .ref x18, .ref x19, .int on, .int cu, .int pu, .int gw])), (x17, .inl (ty 0, 20, .inl kb))] sz)) (va_Qi (fun (r : Int32) (u : va_W) => (r = TT ∧ (u = [(x8, .inr (5, [.ref x1, .ref x9, .ref x10, .ref x12, .ref x14, .int hn, .ref x15, .ref x16, .ref x17, .int kn, .ref x18, .ref x19, .int on, .int cu, .int pu, .int gw])), (x17, .inl (ty 0, 20, .inl kb))]))) (wq_B D (va_A [(x8, .inr (5, [.ref x1, .ref x9, .ref x10, .ref x12, .ref x14, .int hn, .ref x15, .ref x16, .ref x17, .int kn, .ref x18, .ref x19, .int on, .int cu, .int pu, .int gw])), (x17, .inl (ty 0, 20, .inl kb))] sz)) (va_A [(x8, .inr (5, [.ref x1, .ref x9, .ref x10, .ref x12, .ref x14, .int hn, .ref x15, .ref x16, .ref x17, .int kn, .ref x18, .ref x19, .int on, .int cu, .int pu, .int gw])), (x17, .inl (ty 0, 20, .inl kb))] sz)) 0 0 (va_A [(x8, .inr (5, [.ref x1, .ref x9, .ref x10, .ref x12, .ref x14, .int hn, .ref x15, .ref x16, .ref x17, .int kn, .ref x18, .ref x19, .int on, .int cu, .int pu, .int gw])), (x17, .inl (ty 0, 20, .inl kb))] sz) := by
  refine Met.ofW (cc := cX3_keptOf) (maxL := 2) (ret := (some .int)) (by decide) rfl ?_
  intro p e s m args below meth c s₁ B hml hv
  obtain ⟨rfl, hsz, hP, hK, hD0, hE⟩ := hv
  have hx := B.exec
  have hb := B.bytes
  have hr := B.returns
  have hts := atoms_spec (ws := vs_k_X3_keptOf) B.pre
  have hown : s.vm.findClass RX3 = some m.cls := findClass_of_methodNamed B.named
  have hlocks := B.notSynchronized
  subst hsz
  have hD := hD0.self (sz := s.heap.size)
  generalize hAe : va_A [(x8, .inr (5, [.ref x1, .ref x9, .ref x10, .ref x12, .ref x14, .int hn, .ref x15, .ref x16, .ref x17, .int kn, .ref x18, .ref x19, .int on, .int cu, .int pu, .int gw])), (x17, .inl (ty 0, 20, .inl kb))] s.heap.size = A at hD hE ⊢
  have hA : ∀ q : Nat, s.heap.size ≤ q → A q := fun q h => by rw [← hAe]; exact Or.inr h
  have hS : va_S A s.heap s.heap [] := va_S.rf
  have hP : va_P D vwCl [(x8, .inr (5, [.ref x1, .ref x9, .ref x10, .ref x12, .ref x14, .int hn, .ref x15, .ref x16, .ref x17, .int kn, .ref x18, .ref x19, .int on, .int cu, .int pu, .int gw])), (x17, .inl (ty 0, 20, .inl kb))] s.heap := hP
  have hl := lv_entry ([.ref x8, .int a1]) (n := 2) (Nat.le_of_ble_eq_true rfl)
  rw [lg_entry_eq]
  generalize (lg_sl ([.ref x8, .int a1]) ++ List.replicate (2 - (lg_sl ([.ref x8, .int a1])).length) Slot.unset).toArray = ls at hl ⊢
  have hl : lv_has ls 2 [(0, .ref x8), (1, .int a1)] := hl
  have END : ∀ (r : Int32), TT = r → ∀ (H : Heap) (locs : List Loc), va_P D vwCl [(x8, .inr (5, [.ref x1, .ref x9, .ref x10, .ref x12, .ref x14, .int hn, .ref x15, .ref x16, .ref x17, .int kn, .ref x18, .ref x19, .int on, .int cu, .int pu, .int gw])), (x17, .inl (ty 0, 20, .inl kb))] H → va_D A [(x8, .inr (5, [.ref x1, .ref x9, .ref x10, .ref x12, .ref x14, .int hn, .ref x15, .ref x16, .ref x17, .int kn, .ref x18, .ref x19, .int on, .int cu, .int pu, .int gw])), (x17, .inl (ty 0, 20, .inl kb))] → va_S A s.heap H locs → ∀ (ls : Array Slot) (pc : Nat), decode cX3_keptOf pc = .ok (.ireturn, 1) → W p l e (headSpec vs_k_X3_keptOf { frames := 0, cells := 0, slots := 0, locals := 0 }).room s m ([.ref x8, .int a1] : List Value).toArray below meth c H locs 0 0 (MQ below (va_Qi (fun (r : Int32) (u : va_W) => (r = TT ∧ (u = [(x8, .inr (5, [.ref x1, .ref x9, .ref x10, .ref x12, .ref x14, .int hn, .ref x15, .ref x16, .ref x17, .int kn, .ref x18, .ref x19, .int on, .int cu, .int pu, .int gw])), (x17, .inl (ty 0, 20, .inl kb))]))) (wq_B D A) A) ([.ref x8, .int a1] : List Value).toArray s 0 0 A) (F0 m pc ls [.int r]) := by
    intro r hT H locs hP hD hS ls pc hd
    have hM : TT = r := hT
    exact W.iret (v := r) hx hb hr (fun t ht hW => ⟨⟨r, [(x8, .inr (5, [.ref x1, .ref x9, .ref x10, .ref x12, .ref x14, .int hn, .ref x15, .ref x16, .ref x17, .int kn, .ref x18, .ref x19, .int on, .int cu, .int pu, .int gw])), (x17, .inl (ty 0, 20, .inl kb))], rfl, ⟨(by rw [hM]), rfl⟩, wq_B.of ht hP hD⟩, hS.F ht⟩) hS.2.2 hd
  have hT := hTT
  rw [m_k_X3_keptOf] at hT
  refine lv_iload_n hx hb dX3_keptOf_0 rfl (lv_at hl 1 rfl) ?_
  refine lv_if_lt (tgt := 19) hx hb dX3_keptOf_1 (by decide) (fun c_1 => ?_) (fun c_1 => ?_)
  · rw [if_pos c_1] at hT
    refine lv_iconst (v := 0) hx hb dX3_keptOf_19 (by decide) ?_
    exact END 0 hT _ _ hP hD hS _ _ dX3_keptOf_20
  · rw [if_neg c_1] at hT
    refine lv_iload_n hx hb dX3_keptOf_4 rfl (lv_at hl 1 rfl) ?_
    refine lv_bipush (v := 20) hx hb dX3_keptOf_5 (by decide) ?_
    refine lv_icmp_ge (tgt := 19) hx hb dX3_keptOf_7 (by decide) (fun c_2 => ?_) (fun c_2 => ?_)
    · rw [if_pos c_2] at hT
      refine lv_iconst (v := 0) hx hb dX3_keptOf_19 (by decide) ?_
      exact END 0 hT _ _ hP hD hS _ _ dX3_keptOf_20
    · rw [if_neg c_2] at hT
      refine lv_aload_n hx hb dX3_keptOf_10 rfl (lv_at hl 0 rfl) ?_
      refine va_get (D := D) (ci := 5) (v := .ref x17) (C := RX3) (T := TX3) (N := 16) hx hb hts iv_k_X3_keptOf_X3 hown hK hP 0 rfl rfl 8 (by decide) (hts (.fieldLink RX3 38 "AnswerFold$Grounding" "keptByRule" "[I") (by decide +kernel)) (fun _ h9 => h9) rfl dX3_keptOf_11 ?_
      refine lv_iload_n hx hb dX3_keptOf_14 rfl (lv_at hl 1 rfl) ?_
      refine va_iald (D := D) hx hb hK hP 1 0 rfl rfl (wi_in (wi_lo c_1) (wi_hi c_2 (by decide))) dX3_keptOf_15 ?_
      refine lv_goto (tgt := 20) hx hb dX3_keptOf_16 (by decide) ?_
      exact END (kb a1.toNatClampNeg) hT _ _ hP hD hS _ _ dX3_keptOf_20
theorem dX3_keptRuleAt_0 : decode cX3_keptRuleAt 0 = .ok (.iload_n 1, 1) := by decide +kernel
theorem dX3_keptRuleAt_1 : decode cX3_keptRuleAt 1 = .ok (.ifCond .lt 19, 3) := by decide +kernel
theorem dX3_keptRuleAt_4 : decode cX3_keptRuleAt 4 = .ok (.iload_n 1, 1) := by decide +kernel
theorem dX3_keptRuleAt_5 : decode cX3_keptRuleAt 5 = .ok (.sipush 300, 3) := by decide +kernel
theorem dX3_keptRuleAt_8 : decode cX3_keptRuleAt 8 = .ok (.if_icmp .ge 12, 3) := by decide +kernel
theorem dX3_keptRuleAt_11 : decode cX3_keptRuleAt 11 = .ok (.aload_n 0, 1) := by decide +kernel
theorem dX3_keptRuleAt_12 : decode cX3_keptRuleAt 12 = .ok (.getfield 32, 3) := by decide +kernel
theorem dX3_keptRuleAt_15 : decode cX3_keptRuleAt 15 = .ok (.iload_n 1, 1) := by decide +kernel
theorem dX3_keptRuleAt_16 : decode cX3_keptRuleAt 16 = .ok (.iaload, 1) := by decide +kernel
theorem dX3_keptRuleAt_17 : decode cX3_keptRuleAt 17 = .ok (.goto 4, 3) := by decide +kernel
theorem dX3_keptRuleAt_20 : decode cX3_keptRuleAt 20 = .ok (.iconst (-1), 1) := by decide +kernel
theorem dX3_keptRuleAt_21 : decode cX3_keptRuleAt 21 = .ok (.ireturn, 1) := by decide +kernel
abbrev r_k_X3_keptRuleAt : Type := Int32
def m_k_X3_keptRuleAt (kr : Nat → Int32) (a1 : Int32) : r_k_X3_keptRuleAt :=
  if a1 < 0 then
    (-1)
  else
    if 300 ≤ a1 then
      (-1)
    else
      (kr a1.toNatClampNeg)
def vs_k_X3_keptRuleAt : List Cond := .code yX3_keptRuleAt cX3_keptRuleAt 2 (some .int) :: ([.fieldLink RX3 32 "AnswerFold$Grounding" "keptRule" "[I"] ++ (u_ws RX3 TX3 16))
theorem iv_k_X3_keptRuleAt_X3 : ∀ w ∈ u_ws RX3 TX3 16, w ∈ vs_k_X3_keptRuleAt := (fun _ h => List.mem_cons_of_mem _ (List.mem_append_right _ (h)))
set_option maxHeartbeats 4000000 in
set_option maxRecDepth 100000 in
theorem k_X3_keptRuleAt (l : Launch) (D : va_G) (ty : Nat → ClassId) (td mi sz : Nat) (x8 : Nat) (x1 : Nat) (x9 : Nat) (x10 : Nat) (x12 : Nat) (x14 : Nat) (hn : Int32) (x15 : Nat) (x16 : Nat) (x17 : Nat) (kn : Int32) (x18 : Nat) (x19 : Nat) (on : Int32) (cu : Int32) (pu : Int32) (gw : Int32) (kr : Nat → Int32) (a1 : Int32) (TT : r_k_X3_keptRuleAt) (hTT : TT = m_k_X3_keptRuleAt kr a1) : Met l yX3_keptRuleAt vs_k_X3_keptRuleAt { frames := 0, cells := 0, slots := 0, locals := 0 } (va_Pc [.ref x8, .int a1] (wq_P D ty td mi [(x8, .inr (5, [.ref x1, .ref x9, .ref x10, .ref x12, .ref x14, .int hn, .ref x15, .ref x16, .ref x17, .int kn, .ref x18, .ref x19, .int on, .int cu, .int pu, .int gw])), (x15, .inl (ty 0, 300, .inl kr))] sz)) (va_Qi (fun (r : Int32) (u : va_W) => (r = TT ∧ (u = [(x8, .inr (5, [.ref x1, .ref x9, .ref x10, .ref x12, .ref x14, .int hn, .ref x15, .ref x16, .ref x17, .int kn, .ref x18, .ref x19, .int on, .int cu, .int pu, .int gw])), (x15, .inl (ty 0, 300, .inl kr))]))) (wq_B D (va_A [(x8, .inr (5, [.ref x1, .ref x9, .ref x10, .ref x12, .ref x14, .int hn, .ref x15, .ref x16, .ref x17, .int kn, .ref x18, .ref x19, .int on, .int cu, .int pu, .int gw])), (x15, .inl (ty 0, 300, .inl kr))] sz)) (va_A [(x8, .inr (5, [.ref x1, .ref x9, .ref x10, .ref x12, .ref x14, .int hn, .ref x15, .ref x16, .ref x17, .int kn, .ref x18, .ref x19, .int on, .int cu, .int pu, .int gw])), (x15, .inl (ty 0, 300, .inl kr))] sz)) 0 0 (va_A [(x8, .inr (5, [.ref x1, .ref x9, .ref x10, .ref x12, .ref x14, .int hn, .ref x15, .ref x16, .ref x17, .int kn, .ref x18, .ref x19, .int on, .int cu, .int pu, .int gw])), (x15, .inl (ty 0, 300, .inl kr))] sz) := by
  refine Met.ofW (cc := cX3_keptRuleAt) (maxL := 2) (ret := (some .int)) (by decide) rfl ?_
  intro p e s m args below meth c s₁ B hml hv
  obtain ⟨rfl, hsz, hP, hK, hD0, hE⟩ := hv
  have hx := B.exec
  have hb := B.bytes
  have hr := B.returns
  have hts := atoms_spec (ws := vs_k_X3_keptRuleAt) B.pre
  have hown : s.vm.findClass RX3 = some m.cls := findClass_of_methodNamed B.named
  have hlocks := B.notSynchronized
  subst hsz
  have hD := hD0.self (sz := s.heap.size)
  generalize hAe : va_A [(x8, .inr (5, [.ref x1, .ref x9, .ref x10, .ref x12, .ref x14, .int hn, .ref x15, .ref x16, .ref x17, .int kn, .ref x18, .ref x19, .int on, .int cu, .int pu, .int gw])), (x15, .inl (ty 0, 300, .inl kr))] s.heap.size = A at hD hE ⊢
  have hA : ∀ q : Nat, s.heap.size ≤ q → A q := fun q h => by rw [← hAe]; exact Or.inr h
  have hS : va_S A s.heap s.heap [] := va_S.rf
  have hP : va_P D vwCl [(x8, .inr (5, [.ref x1, .ref x9, .ref x10, .ref x12, .ref x14, .int hn, .ref x15, .ref x16, .ref x17, .int kn, .ref x18, .ref x19, .int on, .int cu, .int pu, .int gw])), (x15, .inl (ty 0, 300, .inl kr))] s.heap := hP
  have hl := lv_entry ([.ref x8, .int a1]) (n := 2) (Nat.le_of_ble_eq_true rfl)
  rw [lg_entry_eq]
  generalize (lg_sl ([.ref x8, .int a1]) ++ List.replicate (2 - (lg_sl ([.ref x8, .int a1])).length) Slot.unset).toArray = ls at hl ⊢
  have hl : lv_has ls 2 [(0, .ref x8), (1, .int a1)] := hl
  have END : ∀ (r : Int32), TT = r → ∀ (H : Heap) (locs : List Loc), va_P D vwCl [(x8, .inr (5, [.ref x1, .ref x9, .ref x10, .ref x12, .ref x14, .int hn, .ref x15, .ref x16, .ref x17, .int kn, .ref x18, .ref x19, .int on, .int cu, .int pu, .int gw])), (x15, .inl (ty 0, 300, .inl kr))] H → va_D A [(x8, .inr (5, [.ref x1, .ref x9, .ref x10, .ref x12, .ref x14, .int hn, .ref x15, .ref x16, .ref x17, .int kn, .ref x18, .ref x19, .int on, .int cu, .int pu, .int gw])), (x15, .inl (ty 0, 300, .inl kr))] → va_S A s.heap H locs → ∀ (ls : Array Slot) (pc : Nat), decode cX3_keptRuleAt pc = .ok (.ireturn, 1) → W p l e (headSpec vs_k_X3_keptRuleAt { frames := 0, cells := 0, slots := 0, locals := 0 }).room s m ([.ref x8, .int a1] : List Value).toArray below meth c H locs 0 0 (MQ below (va_Qi (fun (r : Int32) (u : va_W) => (r = TT ∧ (u = [(x8, .inr (5, [.ref x1, .ref x9, .ref x10, .ref x12, .ref x14, .int hn, .ref x15, .ref x16, .ref x17, .int kn, .ref x18, .ref x19, .int on, .int cu, .int pu, .int gw])), (x15, .inl (ty 0, 300, .inl kr))]))) (wq_B D A) A) ([.ref x8, .int a1] : List Value).toArray s 0 0 A) (F0 m pc ls [.int r]) := by
    intro r hT H locs hP hD hS ls pc hd
    have hM : TT = r := hT
    exact W.iret (v := r) hx hb hr (fun t ht hW => ⟨⟨r, [(x8, .inr (5, [.ref x1, .ref x9, .ref x10, .ref x12, .ref x14, .int hn, .ref x15, .ref x16, .ref x17, .int kn, .ref x18, .ref x19, .int on, .int cu, .int pu, .int gw])), (x15, .inl (ty 0, 300, .inl kr))], rfl, ⟨(by rw [hM]), rfl⟩, wq_B.of ht hP hD⟩, hS.F ht⟩) hS.2.2 hd
  have hT := hTT
  rw [m_k_X3_keptRuleAt] at hT
  refine lv_iload_n hx hb dX3_keptRuleAt_0 rfl (lv_at hl 1 rfl) ?_
  refine lv_if_lt (tgt := 20) hx hb dX3_keptRuleAt_1 (by decide) (fun c_1 => ?_) (fun c_1 => ?_)
  · rw [if_pos c_1] at hT
    refine lv_iconst (v := (-1)) hx hb dX3_keptRuleAt_20 (by decide) ?_
    exact END (-1) hT _ _ hP hD hS _ _ dX3_keptRuleAt_21
  · rw [if_neg c_1] at hT
    refine lv_iload_n hx hb dX3_keptRuleAt_4 rfl (lv_at hl 1 rfl) ?_
    refine lv_sipush (v := 300) hx hb dX3_keptRuleAt_5 (by decide) ?_
    refine lv_icmp_ge (tgt := 20) hx hb dX3_keptRuleAt_8 (by decide) (fun c_2 => ?_) (fun c_2 => ?_)
    · rw [if_pos c_2] at hT
      refine lv_iconst (v := (-1)) hx hb dX3_keptRuleAt_20 (by decide) ?_
      exact END (-1) hT _ _ hP hD hS _ _ dX3_keptRuleAt_21
    · rw [if_neg c_2] at hT
      refine lv_aload_n hx hb dX3_keptRuleAt_11 rfl (lv_at hl 0 rfl) ?_
      refine va_get (D := D) (ci := 5) (v := .ref x15) (C := RX3) (T := TX3) (N := 16) hx hb hts iv_k_X3_keptRuleAt_X3 hown hK hP 0 rfl rfl 6 (by decide) (hts (.fieldLink RX3 32 "AnswerFold$Grounding" "keptRule" "[I") (by decide +kernel)) (fun _ h9 => h9) rfl dX3_keptRuleAt_12 ?_
      refine lv_iload_n hx hb dX3_keptRuleAt_15 rfl (lv_at hl 1 rfl) ?_
      refine va_iald (D := D) hx hb hK hP 1 0 rfl rfl (wi_in (wi_lo c_1) (wi_hi c_2 (by decide))) dX3_keptRuleAt_16 ?_
      refine lv_goto (tgt := 21) hx hb dX3_keptRuleAt_17 (by decide) ?_
      exact END (kr a1.toNatClampNeg) hT _ _ hP hD hS _ _ dX3_keptRuleAt_21
theorem dX3_keep_0 : decode cX3_keep 0 = .ok (.iload_n 1, 1) := by decide +kernel
theorem dX3_keep_1 : decode cX3_keep 1 = .ok (.ifCond .lt 9, 3) := by decide +kernel
theorem dX3_keep_4 : decode cX3_keep 4 = .ok (.iload_n 1, 1) := by decide +kernel
theorem dX3_keep_5 : decode cX3_keep 5 = .ok (.bipush 20, 2) := by decide +kernel
theorem dX3_keep_7 : decode cX3_keep 7 = .ok (.if_icmp .lt 4, 3) := by decide +kernel
theorem dX3_keep_10 : decode cX3_keep 10 = .ok (.return_, 1) := by decide +kernel
theorem dX3_keep_11 : decode cX3_keep 11 = .ok (.aload_n 0, 1) := by decide +kernel
theorem dX3_keep_12 : decode cX3_keep 12 = .ok (.getfield 132, 3) := by decide +kernel
theorem dX3_keep_15 : decode cX3_keep 15 = .ok (.ifCond .lt 33, 3) := by decide +kernel
theorem dX3_keep_18 : decode cX3_keep 18 = .ok (.aload_n 0, 1) := by decide +kernel
theorem dX3_keep_19 : decode cX3_keep 19 = .ok (.getfield 132, 3) := by decide +kernel
theorem dX3_keep_22 : decode cX3_keep 22 = .ok (.sipush 300, 3) := by decide +kernel
theorem dX3_keep_25 : decode cX3_keep 25 = .ok (.if_icmp .ge 23, 3) := by decide +kernel
theorem dX3_keep_28 : decode cX3_keep 28 = .ok (.aload_n 0, 1) := by decide +kernel
theorem dX3_keep_29 : decode cX3_keep 29 = .ok (.getfield 32, 3) := by decide +kernel
theorem dX3_keep_32 : decode cX3_keep 32 = .ok (.aload_n 0, 1) := by decide +kernel
theorem dX3_keep_33 : decode cX3_keep 33 = .ok (.getfield 132, 3) := by decide +kernel
theorem dX3_keep_36 : decode cX3_keep 36 = .ok (.iload_n 1, 1) := by decide +kernel
theorem dX3_keep_37 : decode cX3_keep 37 = .ok (.iastore, 1) := by decide +kernel
theorem dX3_keep_38 : decode cX3_keep 38 = .ok (.aload_n 0, 1) := by decide +kernel
theorem dX3_keep_39 : decode cX3_keep 39 = .ok (.getfield 35, 3) := by decide +kernel
theorem dX3_keep_42 : decode cX3_keep 42 = .ok (.aload_n 0, 1) := by decide +kernel
theorem dX3_keep_43 : decode cX3_keep 43 = .ok (.getfield 132, 3) := by decide +kernel
theorem dX3_keep_46 : decode cX3_keep 46 = .ok (.iload_n 2, 1) := by decide +kernel
theorem dX3_keep_47 : decode cX3_keep 47 = .ok (.iastore, 1) := by decide +kernel
theorem dX3_keep_48 : decode cX3_keep 48 = .ok (.aload_n 0, 1) := by decide +kernel
theorem dX3_keep_49 : decode cX3_keep 49 = .ok (.getfield 38, 3) := by decide +kernel
theorem dX3_keep_52 : decode cX3_keep 52 = .ok (.iload_n 1, 1) := by decide +kernel
theorem dX3_keep_53 : decode cX3_keep 53 = .ok (.dup2, 1) := by decide +kernel
theorem dX3_keep_54 : decode cX3_keep 54 = .ok (.iaload, 1) := by decide +kernel
theorem dX3_keep_55 : decode cX3_keep 55 = .ok (.iconst 1, 1) := by decide +kernel
theorem dX3_keep_56 : decode cX3_keep 56 = .ok (.iadd, 1) := by decide +kernel
theorem dX3_keep_57 : decode cX3_keep 57 = .ok (.iastore, 1) := by decide +kernel
theorem dX3_keep_58 : decode cX3_keep 58 = .ok (.aload_n 0, 1) := by decide +kernel
theorem dX3_keep_59 : decode cX3_keep 59 = .ok (.dup, 1) := by decide +kernel
theorem dX3_keep_60 : decode cX3_keep 60 = .ok (.getfield 132, 3) := by decide +kernel
theorem dX3_keep_63 : decode cX3_keep 63 = .ok (.iconst 1, 1) := by decide +kernel
theorem dX3_keep_64 : decode cX3_keep 64 = .ok (.iadd, 1) := by decide +kernel
theorem dX3_keep_65 : decode cX3_keep 65 = .ok (.putfield 132, 3) := by decide +kernel
theorem dX3_keep_68 : decode cX3_keep 68 = .ok (.return_, 1) := by decide +kernel
abbrev r_k_X3_keep : Type := (Nat → Int32) × (Nat → Int32) × (Nat → Int32) × Int32
def m_k_X3_keep_48 (kn : Int32) (kb : Nat → Int32) (a1 : Int32) (x15_f_48 : Nat → Int32) (x16_f_48 : Nat → Int32) : r_k_X3_keep :=
  (x15_f_48, x16_f_48, upd kb a1.toNatClampNeg ((kb a1.toNatClampNeg) + 1), kn + 1)
def m_k_X3_keep (kn : Int32) (kr : Nat → Int32) (kv : Nat → Int32) (kb : Nat → Int32) (a1 : Int32) (a2 : Int32) : r_k_X3_keep :=
  if a1 < 0 then
    (kr, kv, kb, kn)
  else
    if a1 < 20 then
      if kn < 0 then
        m_k_X3_keep_48 kn kb a1 kr kv
      else
        if 300 ≤ kn then
          m_k_X3_keep_48 kn kb a1 kr kv
        else
          m_k_X3_keep_48 kn kb a1 (upd kr kn.toNatClampNeg a1) (upd kv kn.toNatClampNeg a2)
    else
      (kr, kv, kb, kn)
def vs_k_X3_keep : List Cond := .code yX3_keep cX3_keep 3 none :: ([.fieldLink RX3 132 "AnswerFold$Grounding" "keptCount" "I", .fieldLink RX3 38 "AnswerFold$Grounding" "keptByRule" "[I", .fieldLink RX3 32 "AnswerFold$Grounding" "keptRule" "[I", .fieldLink RX3 35 "AnswerFold$Grounding" "keptValues" "[I"] ++ (u_ws RX3 TX3 16))
theorem iv_k_X3_keep_X3 : ∀ w ∈ u_ws RX3 TX3 16, w ∈ vs_k_X3_keep := (fun _ h => List.mem_cons_of_mem _ (List.mem_append_right _ (h)))
set_option maxHeartbeats 4000000 in
set_option maxRecDepth 100000 in
theorem k_X3_keep (l : Launch) (D : va_G) (ty : Nat → ClassId) (td mi sz : Nat) (x8 : Nat) (x1 : Nat) (x9 : Nat) (x10 : Nat) (x12 : Nat) (x14 : Nat) (hn : Int32) (x15 : Nat) (x16 : Nat) (x17 : Nat) (kn : Int32) (x18 : Nat) (x19 : Nat) (on : Int32) (cu : Int32) (pu : Int32) (gw : Int32) (kr : Nat → Int32) (kv : Nat → Int32) (kb : Nat → Int32) (a1 : Int32) (a2 : Int32) (TT : r_k_X3_keep) (hTT : TT = m_k_X3_keep kn kr kv kb a1 a2) : Met l yX3_keep vs_k_X3_keep { frames := 0, cells := 0, slots := 0, locals := 0 } (va_Pc [.ref x8, .int a1, .int a2] (wq_P D ty td mi [(x8, .inr (5, [.ref x1, .ref x9, .ref x10, .ref x12, .ref x14, .int hn, .ref x15, .ref x16, .ref x17, .int kn, .ref x18, .ref x19, .int on, .int cu, .int pu, .int gw])), (x15, .inl (ty 0, 300, .inl kr)), (x16, .inl (ty 0, 300, .inl kv)), (x17, .inl (ty 0, 20, .inl kb))] sz)) (va_Qv (fun u : va_W => ((u = [(x8, .inr (5, [.ref x1, .ref x9, .ref x10, .ref x12, .ref x14, .int hn, .ref x15, .ref x16, .ref x17, .int TT.2.2.2, .ref x18, .ref x19, .int on, .int cu, .int pu, .int gw])), (x15, .inl (ty 0, 300, .inl TT.1)), (x16, .inl (ty 0, 300, .inl TT.2.1)), (x17, .inl (ty 0, 20, .inl TT.2.2.1))]))) (wq_B D (va_A [(x8, .inr (5, [.ref x1, .ref x9, .ref x10, .ref x12, .ref x14, .int hn, .ref x15, .ref x16, .ref x17, .int kn, .ref x18, .ref x19, .int on, .int cu, .int pu, .int gw])), (x15, .inl (ty 0, 300, .inl kr)), (x16, .inl (ty 0, 300, .inl kv)), (x17, .inl (ty 0, 20, .inl kb))] sz)) (va_A [(x8, .inr (5, [.ref x1, .ref x9, .ref x10, .ref x12, .ref x14, .int hn, .ref x15, .ref x16, .ref x17, .int kn, .ref x18, .ref x19, .int on, .int cu, .int pu, .int gw])), (x15, .inl (ty 0, 300, .inl kr)), (x16, .inl (ty 0, 300, .inl kv)), (x17, .inl (ty 0, 20, .inl kb))] sz)) 0 0 (va_A [(x8, .inr (5, [.ref x1, .ref x9, .ref x10, .ref x12, .ref x14, .int hn, .ref x15, .ref x16, .ref x17, .int kn, .ref x18, .ref x19, .int on, .int cu, .int pu, .int gw])), (x15, .inl (ty 0, 300, .inl kr)), (x16, .inl (ty 0, 300, .inl kv)), (x17, .inl (ty 0, 20, .inl kb))] sz) := by
  refine Met.ofW (cc := cX3_keep) (maxL := 3) (ret := none) (by decide) rfl ?_
  intro p e s m args below meth c s₁ B hml hv
  obtain ⟨rfl, hsz, hP, hK, hD0, hE⟩ := hv
  have hx := B.exec
  have hb := B.bytes
  have hr := B.returns
  have hts := atoms_spec (ws := vs_k_X3_keep) B.pre
  have hown : s.vm.findClass RX3 = some m.cls := findClass_of_methodNamed B.named
  have hlocks := B.notSynchronized
  subst hsz
  have hD := hD0.self (sz := s.heap.size)
  generalize hAe : va_A [(x8, .inr (5, [.ref x1, .ref x9, .ref x10, .ref x12, .ref x14, .int hn, .ref x15, .ref x16, .ref x17, .int kn, .ref x18, .ref x19, .int on, .int cu, .int pu, .int gw])), (x15, .inl (ty 0, 300, .inl kr)), (x16, .inl (ty 0, 300, .inl kv)), (x17, .inl (ty 0, 20, .inl kb))] s.heap.size = A at hD hE ⊢
  have hA : ∀ q : Nat, s.heap.size ≤ q → A q := fun q h => by rw [← hAe]; exact Or.inr h
  have hS : va_S A s.heap s.heap [] := va_S.rf
  have hP : va_P D vwCl [(x8, .inr (5, [.ref x1, .ref x9, .ref x10, .ref x12, .ref x14, .int hn, .ref x15, .ref x16, .ref x17, .int kn, .ref x18, .ref x19, .int on, .int cu, .int pu, .int gw])), (x15, .inl (ty 0, 300, .inl kr)), (x16, .inl (ty 0, 300, .inl kv)), (x17, .inl (ty 0, 20, .inl kb))] s.heap := hP
  have hl := lv_entry ([.ref x8, .int a1, .int a2]) (n := 3) (Nat.le_of_ble_eq_true rfl)
  rw [lg_entry_eq]
  generalize (lg_sl ([.ref x8, .int a1, .int a2]) ++ List.replicate (3 - (lg_sl ([.ref x8, .int a1, .int a2])).length) Slot.unset).toArray = ls at hl ⊢
  have hl : lv_has ls 3 [(0, .ref x8), (1, .int a1), (2, .int a2)] := hl
  have END : ∀ (e0 : Nat → Int32) (e1 : Nat → Int32) (e2 : Nat → Int32) (e3 : Int32), TT = (e0, e1, e2, e3) → ∀ (H : Heap) (locs : List Loc), va_P D vwCl [(x8, .inr (5, [.ref x1, .ref x9, .ref x10, .ref x12, .ref x14, .int hn, .ref x15, .ref x16, .ref x17, .int e3, .ref x18, .ref x19, .int on, .int cu, .int pu, .int gw])), (x15, .inl (ty 0, 300, .inl e0)), (x16, .inl (ty 0, 300, .inl e1)), (x17, .inl (ty 0, 20, .inl e2))] H → va_D A [(x8, .inr (5, [.ref x1, .ref x9, .ref x10, .ref x12, .ref x14, .int hn, .ref x15, .ref x16, .ref x17, .int e3, .ref x18, .ref x19, .int on, .int cu, .int pu, .int gw])), (x15, .inl (ty 0, 300, .inl e0)), (x16, .inl (ty 0, 300, .inl e1)), (x17, .inl (ty 0, 20, .inl e2))] → va_S A s.heap H locs → ∀ (ls : Array Slot) (pc : Nat), decode cX3_keep pc = .ok (.return_, 1) → W p l e (headSpec vs_k_X3_keep { frames := 0, cells := 0, slots := 0, locals := 0 }).room s m ([.ref x8, .int a1, .int a2] : List Value).toArray below meth c H locs 0 0 (MQ below (va_Qv (fun u : va_W => ((u = [(x8, .inr (5, [.ref x1, .ref x9, .ref x10, .ref x12, .ref x14, .int hn, .ref x15, .ref x16, .ref x17, .int TT.2.2.2, .ref x18, .ref x19, .int on, .int cu, .int pu, .int gw])), (x15, .inl (ty 0, 300, .inl TT.1)), (x16, .inl (ty 0, 300, .inl TT.2.1)), (x17, .inl (ty 0, 20, .inl TT.2.2.1))]))) (wq_B D A) A) ([.ref x8, .int a1, .int a2] : List Value).toArray s 0 0 A) (F0 m pc ls []) := by
    intro e0 e1 e2 e3 hT H locs hP hD hS ls pc hd
    have hM : TT = (e0, e1, e2, e3) := hT
    exact W.vret hx hb hr (fun t ht hW => ⟨⟨[(x8, .inr (5, [.ref x1, .ref x9, .ref x10, .ref x12, .ref x14, .int hn, .ref x15, .ref x16, .ref x17, .int e3, .ref x18, .ref x19, .int on, .int cu, .int pu, .int gw])), (x15, .inl (ty 0, 300, .inl e0)), (x16, .inl (ty 0, 300, .inl e1)), (x17, .inl (ty 0, 20, .inl e2))], rfl, (by rw [hM]), wq_B.of ht hP hD⟩, hS.F ht⟩) hS.2.2 hd
  have hT := hTT
  rw [m_k_X3_keep] at hT
  refine lv_iload_n hx hb dX3_keep_0 rfl (lv_at hl 1 rfl) ?_
  refine lv_if_lt (tgt := 10) hx hb dX3_keep_1 (by decide) (fun c_1 => ?_) (fun c_1 => ?_)
  · rw [if_pos c_1] at hT
    exact END kr kv kb kn hT _ _ hP hD hS _ _ dX3_keep_10
  · rw [if_neg c_1] at hT
    refine lv_iload_n hx hb dX3_keep_4 rfl (lv_at hl 1 rfl) ?_
    refine lv_bipush (v := 20) hx hb dX3_keep_5 (by decide) ?_
    refine lv_icmp_lt (tgt := 11) hx hb dX3_keep_7 (by decide) (fun c_2 => ?_) (fun c_2 => ?_)
    · rw [if_pos c_2] at hT
      refine lv_aload_n hx hb dX3_keep_11 rfl (lv_at hl 0 rfl) ?_
      refine va_get (D := D) (ci := 5) (v := .int kn) (C := RX3) (T := TX3) (N := 16) hx hb hts iv_k_X3_keep_X3 hown hK hP 0 rfl rfl 9 (by decide) (hts (.fieldLink RX3 132 "AnswerFold$Grounding" "keptCount" "I") (by decide +kernel)) (fun _ h9 => h9) rfl dX3_keep_12 ?_
      have J_48 : ∀ (x15_f_48 : Nat → Int32) (x16_f_48 : Nat → Int32), TT = m_k_X3_keep_48 kn kb a1 x15_f_48 x16_f_48 → ∀ (H : Heap) (locs : List Loc), va_P D vwCl [(x8, .inr (5, [.ref x1, .ref x9, .ref x10, .ref x12, .ref x14, .int hn, .ref x15, .ref x16, .ref x17, .int kn, .ref x18, .ref x19, .int on, .int cu, .int pu, .int gw])), (x15, .inl (ty 0, 300, .inl x15_f_48)), (x16, .inl (ty 0, 300, .inl x16_f_48)), (x17, .inl (ty 0, 20, .inl kb))] H → va_D A [(x8, .inr (5, [.ref x1, .ref x9, .ref x10, .ref x12, .ref x14, .int hn, .ref x15, .ref x16, .ref x17, .int kn, .ref x18, .ref x19, .int on, .int cu, .int pu, .int gw])), (x15, .inl (ty 0, 300, .inl x15_f_48)), (x16, .inl (ty 0, 300, .inl x16_f_48)), (x17, .inl (ty 0, 20, .inl kb))] → va_S A s.heap H locs → ∀ ls : Array Slot, lv_has ls 3 [(0, .ref x8), (1, .int a1)] → W p l e (headSpec vs_k_X3_keep { frames := 0, cells := 0, slots := 0, locals := 0 }).room s m ([.ref x8, .int a1, .int a2] : List Value).toArray below meth c H locs 0 0 (MQ below (va_Qv (fun u : va_W => ((u = [(x8, .inr (5, [.ref x1, .ref x9, .ref x10, .ref x12, .ref x14, .int hn, .ref x15, .ref x16, .ref x17, .int TT.2.2.2, .ref x18, .ref x19, .int on, .int cu, .int pu, .int gw])), (x15, .inl (ty 0, 300, .inl TT.1)), (x16, .inl (ty 0, 300, .inl TT.2.1)), (x17, .inl (ty 0, 20, .inl TT.2.2.1))]))) (wq_B D A) A) ([.ref x8, .int a1, .int a2] : List Value).toArray s 0 0 A) (F0 m 48 ls []) := by
        intro x15_f_48 x16_f_48 hT  H locs hP hD hS ls hl
        rw [m_k_X3_keep_48] at hT
        refine lv_aload_n hx hb dX3_keep_48 rfl (lv_at hl 0 rfl) ?_
        refine va_get (D := D) (ci := 5) (v := .ref x17) (C := RX3) (T := TX3) (N := 16) hx hb hts iv_k_X3_keep_X3 hown hK hP 0 rfl rfl 8 (by decide) (hts (.fieldLink RX3 38 "AnswerFold$Grounding" "keptByRule" "[I") (by decide +kernel)) (fun _ h9 => h9) rfl dX3_keep_49 ?_
        refine lv_iload_n hx hb dX3_keep_52 rfl (lv_at hl 1 rfl) ?_
        refine lv_dup2_11 hx hb dX3_keep_53 rfl rfl ?_
        refine va_iald (D := D) hx hb hK hP 3 0 rfl rfl (wi_in (wi_lo c_1) (wi_hi (Int32.not_le.mpr c_2) (by decide))) dX3_keep_54 ?_
        refine lv_iconst (v := 1) hx hb dX3_keep_55 (by decide) ?_
        refine lv_iadd hx hb dX3_keep_56 ?_
        refine va_iast (D := D) hx hb hK hP hD hS 3 0 rfl rfl (wi_in (wi_lo c_1) (wi_hi (Int32.not_le.mpr c_2) (by decide))) dX3_keep_57 (fun H locs hP hD hS => ?_)
        have hP : va_P D vwCl [(x8, .inr (5, [.ref x1, .ref x9, .ref x10, .ref x12, .ref x14, .int hn, .ref x15, .ref x16, .ref x17, .int kn, .ref x18, .ref x19, .int on, .int cu, .int pu, .int gw])), (x15, .inl (ty 0, 300, .inl x15_f_48)), (x16, .inl (ty 0, 300, .inl x16_f_48)), (x17, .inl (ty 0, 20, .inl (upd kb a1.toNatClampNeg ((kb a1.toNatClampNeg) + 1))))] H := hP
        have hD : va_D A [(x8, .inr (5, [.ref x1, .ref x9, .ref x10, .ref x12, .ref x14, .int hn, .ref x15, .ref x16, .ref x17, .int kn, .ref x18, .ref x19, .int on, .int cu, .int pu, .int gw])), (x15, .inl (ty 0, 300, .inl x15_f_48)), (x16, .inl (ty 0, 300, .inl x16_f_48)), (x17, .inl (ty 0, 20, .inl (upd kb a1.toNatClampNeg ((kb a1.toNatClampNeg) + 1))))] := hD
        refine lv_aload_n hx hb dX3_keep_58 rfl (lv_at hl 0 rfl) ?_
        refine lv_dup hx hb dX3_keep_59 rfl ?_
        refine va_get (D := D) (ci := 5) (v := .int kn) (C := RX3) (T := TX3) (N := 16) hx hb hts iv_k_X3_keep_X3 hown hK hP 0 rfl rfl 9 (by decide) (hts (.fieldLink RX3 132 "AnswerFold$Grounding" "keptCount" "I") (by decide +kernel)) (fun _ h9 => h9) rfl dX3_keep_60 ?_
        refine lv_iconst (v := 1) hx hb dX3_keep_63 (by decide) ?_
        refine lv_iadd hx hb dX3_keep_64 ?_
        refine va_put (D := D) (ci := 5) (v := .int (kn + 1)) (ty := tyX3 9) (C := RX3) (T := TX3) (N := 16) hx hb hts iv_k_X3_keep_X3 tyX3 tyX3_ok nmX3 hown hK hP hD hS 0 rfl rfl 9 (by decide) (hts (.fieldLink RX3 132 "AnswerFold$Grounding" "keptCount" "I") (by decide +kernel)) (fun _ h9 => h9) rfl (by decide +kernel) rfl rfl (Nat.le_of_ble_eq_true rfl) dX3_keep_65 (fun H locs hP hD hS => ?_)
        have hP : va_P D vwCl [(x8, .inr (5, [.ref x1, .ref x9, .ref x10, .ref x12, .ref x14, .int hn, .ref x15, .ref x16, .ref x17, .int (kn + 1), .ref x18, .ref x19, .int on, .int cu, .int pu, .int gw])), (x15, .inl (ty 0, 300, .inl x15_f_48)), (x16, .inl (ty 0, 300, .inl x16_f_48)), (x17, .inl (ty 0, 20, .inl (upd kb a1.toNatClampNeg ((kb a1.toNatClampNeg) + 1))))] H := hP
        have hD : va_D A [(x8, .inr (5, [.ref x1, .ref x9, .ref x10, .ref x12, .ref x14, .int hn, .ref x15, .ref x16, .ref x17, .int (kn + 1), .ref x18, .ref x19, .int on, .int cu, .int pu, .int gw])), (x15, .inl (ty 0, 300, .inl x15_f_48)), (x16, .inl (ty 0, 300, .inl x16_f_48)), (x17, .inl (ty 0, 20, .inl (upd kb a1.toNatClampNeg ((kb a1.toNatClampNeg) + 1))))] := hD
        exact END x15_f_48 x16_f_48 (upd kb a1.toNatClampNeg ((kb a1.toNatClampNeg) + 1)) (kn + 1) hT _ _ hP hD hS _ _ dX3_keep_68
      refine lv_if_lt (tgt := 48) hx hb dX3_keep_15 (by decide) (fun c_3 => ?_) (fun c_3 => ?_)
      · rw [if_pos c_3] at hT
        exact J_48 kr kv hT _ _ hP hD hS _ (lv_sub hl [0, 1] rfl)
      · rw [if_neg c_3] at hT
        refine lv_aload_n hx hb dX3_keep_18 rfl (lv_at hl 0 rfl) ?_
        refine va_get (D := D) (ci := 5) (v := .int kn) (C := RX3) (T := TX3) (N := 16) hx hb hts iv_k_X3_keep_X3 hown hK hP 0 rfl rfl 9 (by decide) (hts (.fieldLink RX3 132 "AnswerFold$Grounding" "keptCount" "I") (by decide +kernel)) (fun _ h9 => h9) rfl dX3_keep_19 ?_
        refine lv_sipush (v := 300) hx hb dX3_keep_22 (by decide) ?_
        refine lv_icmp_ge (tgt := 48) hx hb dX3_keep_25 (by decide) (fun c_4 => ?_) (fun c_4 => ?_)
        · rw [if_pos c_4] at hT
          exact J_48 kr kv hT _ _ hP hD hS _ (lv_sub hl [0, 1] rfl)
        · rw [if_neg c_4] at hT
          refine lv_aload_n hx hb dX3_keep_28 rfl (lv_at hl 0 rfl) ?_
          refine va_get (D := D) (ci := 5) (v := .ref x15) (C := RX3) (T := TX3) (N := 16) hx hb hts iv_k_X3_keep_X3 hown hK hP 0 rfl rfl 6 (by decide) (hts (.fieldLink RX3 32 "AnswerFold$Grounding" "keptRule" "[I") (by decide +kernel)) (fun _ h9 => h9) rfl dX3_keep_29 ?_
          refine lv_aload_n hx hb dX3_keep_32 rfl (lv_at hl 0 rfl) ?_
          refine va_get (D := D) (ci := 5) (v := .int kn) (C := RX3) (T := TX3) (N := 16) hx hb hts iv_k_X3_keep_X3 hown hK hP 0 rfl rfl 9 (by decide) (hts (.fieldLink RX3 132 "AnswerFold$Grounding" "keptCount" "I") (by decide +kernel)) (fun _ h9 => h9) rfl dX3_keep_33 ?_
          refine lv_iload_n hx hb dX3_keep_36 rfl (lv_at hl 1 rfl) ?_
          refine va_iast (D := D) hx hb hK hP hD hS 1 0 rfl rfl (wi_in (wi_lo c_3) (wi_hi c_4 (by decide))) dX3_keep_37 (fun H locs hP hD hS => ?_)
          have hP : va_P D vwCl [(x8, .inr (5, [.ref x1, .ref x9, .ref x10, .ref x12, .ref x14, .int hn, .ref x15, .ref x16, .ref x17, .int kn, .ref x18, .ref x19, .int on, .int cu, .int pu, .int gw])), (x15, .inl (ty 0, 300, .inl (upd kr kn.toNatClampNeg a1))), (x16, .inl (ty 0, 300, .inl kv)), (x17, .inl (ty 0, 20, .inl kb))] H := hP
          have hD : va_D A [(x8, .inr (5, [.ref x1, .ref x9, .ref x10, .ref x12, .ref x14, .int hn, .ref x15, .ref x16, .ref x17, .int kn, .ref x18, .ref x19, .int on, .int cu, .int pu, .int gw])), (x15, .inl (ty 0, 300, .inl (upd kr kn.toNatClampNeg a1))), (x16, .inl (ty 0, 300, .inl kv)), (x17, .inl (ty 0, 20, .inl kb))] := hD
          refine lv_aload_n hx hb dX3_keep_38 rfl (lv_at hl 0 rfl) ?_
          refine va_get (D := D) (ci := 5) (v := .ref x16) (C := RX3) (T := TX3) (N := 16) hx hb hts iv_k_X3_keep_X3 hown hK hP 0 rfl rfl 7 (by decide) (hts (.fieldLink RX3 35 "AnswerFold$Grounding" "keptValues" "[I") (by decide +kernel)) (fun _ h9 => h9) rfl dX3_keep_39 ?_
          refine lv_aload_n hx hb dX3_keep_42 rfl (lv_at hl 0 rfl) ?_
          refine va_get (D := D) (ci := 5) (v := .int kn) (C := RX3) (T := TX3) (N := 16) hx hb hts iv_k_X3_keep_X3 hown hK hP 0 rfl rfl 9 (by decide) (hts (.fieldLink RX3 132 "AnswerFold$Grounding" "keptCount" "I") (by decide +kernel)) (fun _ h9 => h9) rfl dX3_keep_43 ?_
          refine lv_iload_n hx hb dX3_keep_46 rfl (lv_at hl 2 rfl) ?_
          refine va_iast (D := D) hx hb hK hP hD hS 2 0 rfl rfl (wi_in (wi_lo c_3) (wi_hi c_4 (by decide))) dX3_keep_47 (fun H locs hP hD hS => ?_)
          have hP : va_P D vwCl [(x8, .inr (5, [.ref x1, .ref x9, .ref x10, .ref x12, .ref x14, .int hn, .ref x15, .ref x16, .ref x17, .int kn, .ref x18, .ref x19, .int on, .int cu, .int pu, .int gw])), (x15, .inl (ty 0, 300, .inl (upd kr kn.toNatClampNeg a1))), (x16, .inl (ty 0, 300, .inl (upd kv kn.toNatClampNeg a2))), (x17, .inl (ty 0, 20, .inl kb))] H := hP
          have hD : va_D A [(x8, .inr (5, [.ref x1, .ref x9, .ref x10, .ref x12, .ref x14, .int hn, .ref x15, .ref x16, .ref x17, .int kn, .ref x18, .ref x19, .int on, .int cu, .int pu, .int gw])), (x15, .inl (ty 0, 300, .inl (upd kr kn.toNatClampNeg a1))), (x16, .inl (ty 0, 300, .inl (upd kv kn.toNatClampNeg a2))), (x17, .inl (ty 0, 20, .inl kb))] := hD
          exact J_48 (upd kr kn.toNatClampNeg a1) (upd kv kn.toNatClampNeg a2) hT _ _ hP hD hS _ (lv_sub hl [0, 1] rfl)
    · rw [if_neg c_2] at hT
      exact END kr kv kb kn hT _ _ hP hD hS _ _ dX3_keep_10
theorem dX3_bindKept_0 : decode cX3_bindKept 0 = .ok (.iload_n 1, 1) := by decide +kernel
theorem dX3_bindKept_1 : decode cX3_bindKept 1 = .ok (.ifCond .lt 10, 3) := by decide +kernel
theorem dX3_bindKept_4 : decode cX3_bindKept 4 = .ok (.iload_n 1, 1) := by decide +kernel
theorem dX3_bindKept_5 : decode cX3_bindKept 5 = .ok (.sipush 300, 3) := by decide +kernel
theorem dX3_bindKept_8 : decode cX3_bindKept 8 = .ok (.if_icmp .lt 5, 3) := by decide +kernel
theorem dX3_bindKept_11 : decode cX3_bindKept 11 = .ok (.aconst_null, 1) := by decide +kernel
theorem dX3_bindKept_12 : decode cX3_bindKept 12 = .ok (.areturn, 1) := by decide +kernel
theorem dX3_bindKept_13 : decode cX3_bindKept 13 = .ok (.aload_n 0, 1) := by decide +kernel
theorem dX3_bindKept_14 : decode cX3_bindKept 14 = .ok (.getfield 12, 3) := by decide +kernel
theorem dX3_bindKept_17 : decode cX3_bindKept 17 = .ok (.aload_n 0, 1) := by decide +kernel
theorem dX3_bindKept_18 : decode cX3_bindKept 18 = .ok (.getfield 35, 3) := by decide +kernel
theorem dX3_bindKept_21 : decode cX3_bindKept 21 = .ok (.iload_n 1, 1) := by decide +kernel
theorem dX3_bindKept_22 : decode cX3_bindKept 22 = .ok (.iaload, 1) := by decide +kernel
theorem dX3_bindKept_23 : decode cX3_bindKept 23 = .ok (.invokevirtual 219, 3) := by decide +kernel
theorem dX3_bindKept_26 : decode cX3_bindKept 26 = .ok (.aload_n 0, 1) := by decide +kernel
theorem dX3_bindKept_27 : decode cX3_bindKept 27 = .ok (.getfield 47, 3) := by decide +kernel
theorem dX3_bindKept_30 : decode cX3_bindKept 30 = .ok (.aload_n 0, 1) := by decide +kernel
theorem dX3_bindKept_31 : decode cX3_bindKept 31 = .ok (.getfield 32, 3) := by decide +kernel
theorem dX3_bindKept_34 : decode cX3_bindKept 34 = .ok (.iload_n 1, 1) := by decide +kernel
theorem dX3_bindKept_35 : decode cX3_bindKept 35 = .ok (.iaload, 1) := by decide +kernel
theorem dX3_bindKept_36 : decode cX3_bindKept 36 = .ok (.invokevirtual 97, 3) := by decide +kernel
theorem dX3_bindKept_39 : decode cX3_bindKept 39 = .ok (.areturn, 1) := by decide +kernel
abbrev r_k_X3_bindKept : Type := Option Nat × Int32 × Int32 × Int32 × Int32
def m_k_X3_bindKept (rn : Int32) (rf : Nat → Option Nat) (b_1 : Int32) (b_2 : Int32) (b_3 : Int32) (b_p : Int32) (kr : Nat → Int32) (kv : Nat → Int32) (a1 : Int32) : r_k_X3_bindKept :=
  if a1 < 0 then
    (none, b_1, b_2, b_3, b_p)
  else
    if a1 < 300 then
      lE (m_k_X2_unpack (kv a1.toNatClampNeg)) (fun t_23 =>
        lE (m_k_X6_ruleAt rn rf (kr a1.toNatClampNeg)) (fun t_36 =>
          oE (t_36) (
            (none, t_23.1, t_23.2.1, t_23.2.2.1, t_23.2.2.2)) (fun o_36 =>
            ((some o_36), t_23.1, t_23.2.1, t_23.2.2.1, t_23.2.2.2))))
    else
      (none, b_1, b_2, b_3, b_p)
theorem mm_k_X3_bindKept (pp : pT) (rn : Int32) (rf : Nat → Option Nat) (b_1 : Int32) (b_2 : Int32) (b_3 : Int32) (b_p : Int32) (kr : Nat → Int32) (kv : Nat → Int32) (a1 : Int32) (hok : pOK pp) (hru : ∀ (i a : Nat), rf i = some a → a ∈ pRA pp) (a : Nat) (h : (m_k_X3_bindKept rn rf b_1 b_2 b_3 b_p kr kv a1).1 = some a) : a ∈ pRA pp := by
  rw [m_k_X3_bindKept] at h
  by_cases c_7 : a1 < 0
  · rw [if_pos c_7] at h
    replace h : none = some a := h
    cases h
  · rw [if_neg c_7] at h
    by_cases c_8 : a1 < 300
    · rw [if_pos c_8] at h
      obtain ⟨t_23, ht_23⟩ : ∃ t, t = m_k_X2_unpack (kv a1.toNatClampNeg) := ⟨_, rfl⟩
      rw [lE_eq ht_23] at h
      obtain ⟨t_36, ht_36⟩ : ∃ t, t = m_k_X6_ruleAt rn rf (kr a1.toNatClampNeg) := ⟨_, rfl⟩
      rw [lE_eq ht_36] at h
      rcases ho_36 : t_36 with _ | o_36
      · rw [ho_36, oE_none] at h
        replace h : none = some a := h
        cases h
      · rw [ho_36, oE_some] at h
        replace h : (some o_36) = some a := h
        cases h
        exact (mm_k_X6_ruleAt pp rn rf (kr a1.toNatClampNeg) hok hru _ (by rw [← ht_36]; exact ho_36))
    · rw [if_neg c_8] at h
      replace h : none = some a := h
      cases h
def vs_k_X3_bindKept : List Cond := .code yX3_bindKept cX3_bindKept 2 (some (.object "AnswerFold$Rule")) :: ([.fieldLink RX3 12 "AnswerFold$Grounding" "binding" "LAnswerFold$Binding;", .fieldLink RX3 35 "AnswerFold$Grounding" "keptValues" "[I", .methodLink RX3 219 yX2_unpack, .instanceMethod yX2_unpack, .selects RX2 yX2_unpack yX2_unpack, .initialized RX2, .fieldLink RX3 47 "AnswerFold$Grounding" "program" "LAnswerFold$Program;", .fieldLink RX3 32 "AnswerFold$Grounding" "keptRule" "[I", .methodLink RX3 97 yX6_ruleAt, .instanceMethod yX6_ruleAt, .selects RX6 yX6_ruleAt yX6_ruleAt, .initialized RX6] ++ (u_ws RX3 TX3 16 ++ (vs_k_X2_unpack ++ (vs_k_X6_ruleAt))))
theorem iv_k_X3_bindKept_X3 : ∀ w ∈ u_ws RX3 TX3 16, w ∈ vs_k_X3_bindKept := (fun _ h => List.mem_cons_of_mem _ (List.mem_append_right _ (List.mem_append_left _ h)))
set_option maxRecDepth 20000 in
theorem gv_k_X3_bindKept_0 : GoodIn vs_k_X3_bindKept (wsV RX3 219 RX2 yX2_unpack vs_k_X2_unpack) := goodIn_app (goodIn_sub (by decide +kernel) (by decide +kernel)) (goodIn_sub (fun _ h => List.mem_cons_of_mem _ (List.mem_append_right _ (List.mem_append_right _ (List.mem_append_left _ h)))) (by decide +kernel))
set_option maxRecDepth 20000 in
theorem gv_k_X3_bindKept_1 : GoodIn vs_k_X3_bindKept (wsV RX3 97 RX6 yX6_ruleAt vs_k_X6_ruleAt) := goodIn_app (goodIn_sub (by decide +kernel) (by decide +kernel)) (goodIn_sub (fun _ h => List.mem_cons_of_mem _ (List.mem_append_right _ (List.mem_append_right _ (List.mem_append_right _ (h))))) (by decide +kernel))
set_option maxHeartbeats 4000000 in
set_option maxRecDepth 100000 in
theorem k_X3_bindKept (l : Launch) (D : va_G) (ty : Nat → ClassId) (td mi sz : Nat) (pp : pT) (x1 : Nat) (x2 : Nat) (pn : Int32) (x3 : Nat) (rn : Int32) (x4 : Nat) (x5 : Nat) (tn : Int32) (x6 : Nat) (x7 : Nat) (en : Int32) (rf : Nat → Option Nat) (x8 : Nat) (x9 : Nat) (x10 : Nat) (x12 : Nat) (x14 : Nat) (hn : Int32) (x15 : Nat) (x16 : Nat) (x17 : Nat) (kn : Int32) (x18 : Nat) (x19 : Nat) (on : Int32) (cu : Int32) (pu : Int32) (gw : Int32) (b_1 : Int32) (b_2 : Int32) (b_3 : Int32) (b_p : Int32) (kr : Nat → Int32) (kv : Nat → Int32) (a1 : Int32) (hok : pOK pp) (hru : ∀ (i a : Nat), rf i = some a → a ∈ pRA pp) (TT : r_k_X3_bindKept) (hTT : TT = m_k_X3_bindKept rn rf b_1 b_2 b_3 b_p kr kv a1) : Met l yX3_bindKept vs_k_X3_bindKept { frames := 1, cells := 0, slots := 0, locals := 21 } (va_Pc [.ref x8, .int a1] (wq_P D ty td mi ([(x1, .inr (8, [.ref x2, .int pn, .ref x3, .int rn, .ref x4, .ref x5, .int tn, .ref x6, .ref x7, .int en])), (x3, .inl (ty 4, 20, .inr (.inr (.inr (.inr rf))))), (x8, .inr (5, [.ref x1, .ref x9, .ref x10, .ref x12, .ref x14, .int hn, .ref x15, .ref x16, .ref x17, .int kn, .ref x18, .ref x19, .int on, .int cu, .int pu, .int gw])), (x9, .inr (4, [.int b_1, .int b_2, .int b_3, .int b_p])), (x15, .inl (ty 0, 300, .inl kr)), (x16, .inl (ty 0, 300, .inl kv))] ++ pw ty pp) sz)) (wq_Qr (fun (r : Value) (u : va_W) => (r = va_rf TT.1 ∧ (u = ([(x1, .inr (8, [.ref x2, .int pn, .ref x3, .int rn, .ref x4, .ref x5, .int tn, .ref x6, .ref x7, .int en])), (x3, .inl (ty 4, 20, .inr (.inr (.inr (.inr rf))))), (x8, .inr (5, [.ref x1, .ref x9, .ref x10, .ref x12, .ref x14, .int hn, .ref x15, .ref x16, .ref x17, .int kn, .ref x18, .ref x19, .int on, .int cu, .int pu, .int gw])), (x9, .inr (4, [.int TT.2.1, .int TT.2.2.1, .int TT.2.2.2.1, .int TT.2.2.2.2])), (x15, .inl (ty 0, 300, .inl kr)), (x16, .inl (ty 0, 300, .inl kv))] ++ pw ty pp)))) (wq_B D (va_A ([(x1, .inr (8, [.ref x2, .int pn, .ref x3, .int rn, .ref x4, .ref x5, .int tn, .ref x6, .ref x7, .int en])), (x3, .inl (ty 4, 20, .inr (.inr (.inr (.inr rf))))), (x8, .inr (5, [.ref x1, .ref x9, .ref x10, .ref x12, .ref x14, .int hn, .ref x15, .ref x16, .ref x17, .int kn, .ref x18, .ref x19, .int on, .int cu, .int pu, .int gw])), (x9, .inr (4, [.int b_1, .int b_2, .int b_3, .int b_p])), (x15, .inl (ty 0, 300, .inl kr)), (x16, .inl (ty 0, 300, .inl kv))] ++ pw ty pp) sz)) (va_A ([(x1, .inr (8, [.ref x2, .int pn, .ref x3, .int rn, .ref x4, .ref x5, .int tn, .ref x6, .ref x7, .int en])), (x3, .inl (ty 4, 20, .inr (.inr (.inr (.inr rf))))), (x8, .inr (5, [.ref x1, .ref x9, .ref x10, .ref x12, .ref x14, .int hn, .ref x15, .ref x16, .ref x17, .int kn, .ref x18, .ref x19, .int on, .int cu, .int pu, .int gw])), (x9, .inr (4, [.int b_1, .int b_2, .int b_3, .int b_p])), (x15, .inl (ty 0, 300, .inl kr)), (x16, .inl (ty 0, 300, .inl kv))] ++ pw ty pp) sz)) 0 0 (va_A ([(x1, .inr (8, [.ref x2, .int pn, .ref x3, .int rn, .ref x4, .ref x5, .int tn, .ref x6, .ref x7, .int en])), (x3, .inl (ty 4, 20, .inr (.inr (.inr (.inr rf))))), (x8, .inr (5, [.ref x1, .ref x9, .ref x10, .ref x12, .ref x14, .int hn, .ref x15, .ref x16, .ref x17, .int kn, .ref x18, .ref x19, .int on, .int cu, .int pu, .int gw])), (x9, .inr (4, [.int b_1, .int b_2, .int b_3, .int b_p])), (x15, .inl (ty 0, 300, .inl kr)), (x16, .inl (ty 0, 300, .inl kv))] ++ pw ty pp) sz) := by
  refine Met.ofW (cc := cX3_bindKept) (maxL := 2) (ret := (some (.object "AnswerFold$Rule"))) (by decide) rfl ?_
  intro p e s m args below meth c s₁ B hml hv
  obtain ⟨rfl, hsz, hP, hK, hD0, hE⟩ := hv
  have hx := B.exec
  have hb := B.bytes
  have hr := B.returns
  have hts := atoms_spec (ws := vs_k_X3_bindKept) B.pre
  have hown : s.vm.findClass RX3 = some m.cls := findClass_of_methodNamed B.named
  have hlocks := B.notSynchronized
  subst hsz
  have hD := hD0.self (sz := s.heap.size)
  generalize hAe : va_A ([(x1, .inr (8, [.ref x2, .int pn, .ref x3, .int rn, .ref x4, .ref x5, .int tn, .ref x6, .ref x7, .int en])), (x3, .inl (ty 4, 20, .inr (.inr (.inr (.inr rf))))), (x8, .inr (5, [.ref x1, .ref x9, .ref x10, .ref x12, .ref x14, .int hn, .ref x15, .ref x16, .ref x17, .int kn, .ref x18, .ref x19, .int on, .int cu, .int pu, .int gw])), (x9, .inr (4, [.int b_1, .int b_2, .int b_3, .int b_p])), (x15, .inl (ty 0, 300, .inl kr)), (x16, .inl (ty 0, 300, .inl kv))] ++ pw ty pp) s.heap.size = A at hD hE ⊢
  have hA : ∀ q : Nat, s.heap.size ≤ q → A q := fun q h => by rw [← hAe]; exact Or.inr h
  have hS : va_S A s.heap s.heap [] := va_S.rf
  have hP : va_P D vwCl ([(x1, .inr (8, [.ref x2, .int pn, .ref x3, .int rn, .ref x4, .ref x5, .int tn, .ref x6, .ref x7, .int en])), (x3, .inl (ty 4, 20, .inr (.inr (.inr (.inr rf))))), (x8, .inr (5, [.ref x1, .ref x9, .ref x10, .ref x12, .ref x14, .int hn, .ref x15, .ref x16, .ref x17, .int kn, .ref x18, .ref x19, .int on, .int cu, .int pu, .int gw])), (x9, .inr (4, [.int b_1, .int b_2, .int b_3, .int b_p])), (x15, .inl (ty 0, 300, .inl kr)), (x16, .inl (ty 0, 300, .inl kv))] ++ pw ty pp) s.heap := hP
  have hl := lv_entry ([.ref x8, .int a1]) (n := 2) (Nat.le_of_ble_eq_true rfl)
  rw [lg_entry_eq]
  generalize (lg_sl ([.ref x8, .int a1]) ++ List.replicate (2 - (lg_sl ([.ref x8, .int a1])).length) Slot.unset).toArray = ls at hl ⊢
  have hl : lv_has ls 2 [(0, .ref x8), (1, .int a1)] := hl
  have END : ∀ (r : Option Nat) (e0 : Int32) (e1 : Int32) (e2 : Int32) (e3 : Int32), TT = (r, e0, e1, e2, e3) → ∀ (H : Heap) (locs : List Loc), va_P D vwCl ([(x1, .inr (8, [.ref x2, .int pn, .ref x3, .int rn, .ref x4, .ref x5, .int tn, .ref x6, .ref x7, .int en])), (x3, .inl (ty 4, 20, .inr (.inr (.inr (.inr rf))))), (x8, .inr (5, [.ref x1, .ref x9, .ref x10, .ref x12, .ref x14, .int hn, .ref x15, .ref x16, .ref x17, .int kn, .ref x18, .ref x19, .int on, .int cu, .int pu, .int gw])), (x9, .inr (4, [.int e0, .int e1, .int e2, .int e3])), (x15, .inl (ty 0, 300, .inl kr)), (x16, .inl (ty 0, 300, .inl kv))] ++ pw ty pp) H → va_D A ([(x1, .inr (8, [.ref x2, .int pn, .ref x3, .int rn, .ref x4, .ref x5, .int tn, .ref x6, .ref x7, .int en])), (x3, .inl (ty 4, 20, .inr (.inr (.inr (.inr rf))))), (x8, .inr (5, [.ref x1, .ref x9, .ref x10, .ref x12, .ref x14, .int hn, .ref x15, .ref x16, .ref x17, .int kn, .ref x18, .ref x19, .int on, .int cu, .int pu, .int gw])), (x9, .inr (4, [.int e0, .int e1, .int e2, .int e3])), (x15, .inl (ty 0, 300, .inl kr)), (x16, .inl (ty 0, 300, .inl kv))] ++ pw ty pp) → va_S A s.heap H locs → ∀ (ls : Array Slot) (pc : Nat), decode cX3_bindKept pc = .ok (.areturn, 1) → W p l e (headSpec vs_k_X3_bindKept { frames := 1, cells := 0, slots := 0, locals := 21 }).room s m ([.ref x8, .int a1] : List Value).toArray below meth c H locs 0 0 (MQ below (wq_Qr (fun (r : Value) (u : va_W) => (r = va_rf TT.1 ∧ (u = ([(x1, .inr (8, [.ref x2, .int pn, .ref x3, .int rn, .ref x4, .ref x5, .int tn, .ref x6, .ref x7, .int en])), (x3, .inl (ty 4, 20, .inr (.inr (.inr (.inr rf))))), (x8, .inr (5, [.ref x1, .ref x9, .ref x10, .ref x12, .ref x14, .int hn, .ref x15, .ref x16, .ref x17, .int kn, .ref x18, .ref x19, .int on, .int cu, .int pu, .int gw])), (x9, .inr (4, [.int TT.2.1, .int TT.2.2.1, .int TT.2.2.2.1, .int TT.2.2.2.2])), (x15, .inl (ty 0, 300, .inl kr)), (x16, .inl (ty 0, 300, .inl kv))] ++ pw ty pp)))) (wq_B D A) A) ([.ref x8, .int a1] : List Value).toArray s 0 0 A) (F0 m pc ls [va_rf r]) := by
    intro r e0 e1 e2 e3 hT H locs hP hD hS ls pc hd
    have hM : TT = (r, e0, e1, e2, e3) := hT
    cases r with
    | none => exact W.aret (v := .null) hx hb hr (Or.inl ⟨_, rfl⟩) (Or.inl rfl) (fun t ht hW => ⟨⟨.null, ([(x1, .inr (8, [.ref x2, .int pn, .ref x3, .int rn, .ref x4, .ref x5, .int tn, .ref x6, .ref x7, .int en])), (x3, .inl (ty 4, 20, .inr (.inr (.inr (.inr rf))))), (x8, .inr (5, [.ref x1, .ref x9, .ref x10, .ref x12, .ref x14, .int hn, .ref x15, .ref x16, .ref x17, .int kn, .ref x18, .ref x19, .int on, .int cu, .int pu, .int gw])), (x9, .inr (4, [.int e0, .int e1, .int e2, .int e3])), (x15, .inl (ty 0, 300, .inl kr)), (x16, .inl (ty 0, 300, .inl kv))] ++ pw ty pp), rfl, ⟨(by rw [hM]; rfl), (by rw [hM])⟩, wq_B.of ht hP hD⟩, hS.F ht⟩) hS.2.2 hd
    | some r => exact W.aret (v := .ref r) hx hb hr (Or.inl ⟨_, rfl⟩) (Or.inr ⟨_, rfl⟩) (fun t ht hW => ⟨⟨.ref r, ([(x1, .inr (8, [.ref x2, .int pn, .ref x3, .int rn, .ref x4, .ref x5, .int tn, .ref x6, .ref x7, .int en])), (x3, .inl (ty 4, 20, .inr (.inr (.inr (.inr rf))))), (x8, .inr (5, [.ref x1, .ref x9, .ref x10, .ref x12, .ref x14, .int hn, .ref x15, .ref x16, .ref x17, .int kn, .ref x18, .ref x19, .int on, .int cu, .int pu, .int gw])), (x9, .inr (4, [.int e0, .int e1, .int e2, .int e3])), (x15, .inl (ty 0, 300, .inl kr)), (x16, .inl (ty 0, 300, .inl kv))] ++ pw ty pp), rfl, ⟨(by rw [hM]; rfl), (by rw [hM])⟩, wq_B.of ht hP hD⟩, hS.F ht⟩) hS.2.2 hd
  have hT := hTT
  rw [m_k_X3_bindKept] at hT
  refine lv_iload_n hx hb dX3_bindKept_0 rfl (lv_at hl 1 rfl) ?_
  refine lv_if_lt (tgt := 11) hx hb dX3_bindKept_1 (by decide) (fun c_1 => ?_) (fun c_1 => ?_)
  · rw [if_pos c_1] at hT
    refine lv_null hx hb dX3_bindKept_11 ?_
    exact END none b_1 b_2 b_3 b_p hT _ _ hP hD hS _ _ dX3_bindKept_12
  · rw [if_neg c_1] at hT
    refine lv_iload_n hx hb dX3_bindKept_4 rfl (lv_at hl 1 rfl) ?_
    refine lv_sipush (v := 300) hx hb dX3_bindKept_5 (by decide) ?_
    refine lv_icmp_lt (tgt := 13) hx hb dX3_bindKept_8 (by decide) (fun c_2 => ?_) (fun c_2 => ?_)
    · rw [if_pos c_2] at hT
      refine lv_aload_n hx hb dX3_bindKept_13 rfl (lv_at hl 0 rfl) ?_
      refine va_get (D := D) (ci := 5) (v := .ref x9) (C := RX3) (T := TX3) (N := 16) hx hb hts iv_k_X3_bindKept_X3 hown hK hP 2 rfl rfl 1 (by decide) (hts (.fieldLink RX3 12 "AnswerFold$Grounding" "binding" "LAnswerFold$Binding;") (by decide +kernel)) (fun _ h9 => h9) rfl dX3_bindKept_14 ?_
      refine lv_aload_n hx hb dX3_bindKept_17 rfl (lv_at hl 0 rfl) ?_
      refine va_get (D := D) (ci := 5) (v := .ref x16) (C := RX3) (T := TX3) (N := 16) hx hb hts iv_k_X3_bindKept_X3 hown hK hP 2 rfl rfl 7 (by decide) (hts (.fieldLink RX3 35 "AnswerFold$Grounding" "keptValues" "[I") (by decide +kernel)) (fun _ h9 => h9) rfl dX3_bindKept_18 ?_
      refine lv_iload_n hx hb dX3_bindKept_21 rfl (lv_at hl 1 rfl) ?_
      refine va_iald (D := D) hx hb hK hP 5 0 rfl rfl (wi_in (wi_lo c_1) (wi_hi (Int32.not_le.mpr c_2) (by decide))) dX3_bindKept_22 ?_
      obtain ⟨t_23, ht_23⟩ : ∃ t, t = m_k_X2_unpack (kv a1.toNatClampNeg) := ⟨_, rfl⟩
      rw [lE_eq ht_23] at hT
      refine wq_vQ (wc := [(x9, .inr (4, [.int b_1, .int b_2, .int b_3, .int b_p]))]) (wr := [(x1, .inr (8, [.ref x2, .int pn, .ref x3, .int rn, .ref x4, .ref x5, .int tn, .ref x6, .ref x7, .int en])), (x3, .inl (ty 4, 20, .inr (.inr (.inr (.inr rf))))), (x8, .inr (5, [.ref x1, .ref x9, .ref x10, .ref x12, .ref x14, .int hn, .ref x15, .ref x16, .ref x17, .int kn, .ref x18, .ref x19, .int on, .int cu, .int pu, .int gw])), (x15, .inl (ty 0, 300, .inl kr)), (x16, .inl (ty 0, 300, .inl kv))]) (pl := pw ty pp) (va_runV (As := [.int (kv a1.toNatClampNeg)]) (rest := []) ⟨hx, hb, hml, hown, hts⟩ (k_X2_unpack l D ty td mi s.heap.size x9 b_1 b_2 b_3 b_p (kv a1.toNatClampNeg) t_23 ht_23) (cwV 1 hts gv_k_X3_bindKept_0 rfl rfl rfl (by decide +kernel) ⟨(Nat.le_of_ble_eq_true rfl), (Nat.le_of_ble_eq_true rfl)⟩) ⟨(wq_preS (vP_left hP) (vD_left hD) hK hE hS hA [3] rfl (by decide) (As := .ref x9 :: [.int (kv a1.toNatClampNeg)])).1, va_recv (q0 := 3) (ci := 4) hK hP rfl rfl, (wq_preS (vP_left hP) (vD_left hD) hK hE hS hA [3] rfl (by decide) (As := .ref x9 :: [.int (kv a1.toNatClampNeg)])).2⟩ rfl rfl hl.1 rfl (lv_room (Nat.le_of_ble_eq_true rfl)) dX3_bindKept_23 ⟨(Nat.le_of_ble_eq_true rfl), (Nat.le_of_ble_eq_true rfl)⟩) hS hA hP hD [3] [0, 1, 2, 4, 5] rfl rfl (by decide) (by decide) (fun u H locs hw hP hD hS => ?_)
      obtain rfl := hw
      have hP : va_P D vwCl ([(x1, .inr (8, [.ref x2, .int pn, .ref x3, .int rn, .ref x4, .ref x5, .int tn, .ref x6, .ref x7, .int en])), (x3, .inl (ty 4, 20, .inr (.inr (.inr (.inr rf))))), (x8, .inr (5, [.ref x1, .ref x9, .ref x10, .ref x12, .ref x14, .int hn, .ref x15, .ref x16, .ref x17, .int kn, .ref x18, .ref x19, .int on, .int cu, .int pu, .int gw])), (x15, .inl (ty 0, 300, .inl kr)), (x16, .inl (ty 0, 300, .inl kv)), (x9, .inr (4, [.int t_23.1, .int t_23.2.1, .int t_23.2.2.1, .int t_23.2.2.2]))] ++ pw ty pp) H := hP
      have hD : va_D A ([(x1, .inr (8, [.ref x2, .int pn, .ref x3, .int rn, .ref x4, .ref x5, .int tn, .ref x6, .ref x7, .int en])), (x3, .inl (ty 4, 20, .inr (.inr (.inr (.inr rf))))), (x8, .inr (5, [.ref x1, .ref x9, .ref x10, .ref x12, .ref x14, .int hn, .ref x15, .ref x16, .ref x17, .int kn, .ref x18, .ref x19, .int on, .int cu, .int pu, .int gw])), (x15, .inl (ty 0, 300, .inl kr)), (x16, .inl (ty 0, 300, .inl kv)), (x9, .inr (4, [.int t_23.1, .int t_23.2.1, .int t_23.2.2.1, .int t_23.2.2.2]))] ++ pw ty pp) := hD
      refine W.widen (k := 0) (n := 0) (Nat.le_of_ble_eq_true rfl) (Nat.le_of_ble_eq_true rfl) ?_
      refine lv_aload_n hx hb dX3_bindKept_26 rfl (lv_at hl 0 rfl) ?_
      refine va_get (D := D) (ci := 5) (v := .ref x1) (C := RX3) (T := TX3) (N := 16) hx hb hts iv_k_X3_bindKept_X3 hown hK hP 2 rfl rfl 0 (by decide) (hts (.fieldLink RX3 47 "AnswerFold$Grounding" "program" "LAnswerFold$Program;") (by decide +kernel)) (fun _ h9 => h9) rfl dX3_bindKept_27 ?_
      refine lv_aload_n hx hb dX3_bindKept_30 rfl (lv_at hl 0 rfl) ?_
      refine va_get (D := D) (ci := 5) (v := .ref x15) (C := RX3) (T := TX3) (N := 16) hx hb hts iv_k_X3_bindKept_X3 hown hK hP 2 rfl rfl 6 (by decide) (hts (.fieldLink RX3 32 "AnswerFold$Grounding" "keptRule" "[I") (by decide +kernel)) (fun _ h9 => h9) rfl dX3_bindKept_31 ?_
      refine lv_iload_n hx hb dX3_bindKept_34 rfl (lv_at hl 1 rfl) ?_
      refine va_iald (D := D) hx hb hK hP 3 0 rfl rfl (wi_in (wi_lo c_1) (wi_hi (Int32.not_le.mpr c_2) (by decide))) dX3_bindKept_35 ?_
      obtain ⟨t_36, ht_36⟩ : ∃ t, t = m_k_X6_ruleAt rn rf (kr a1.toNatClampNeg) := ⟨_, rfl⟩
      rw [lE_eq ht_36] at hT
      refine wq_rP (wc := [(x1, .inr (8, [.ref x2, .int pn, .ref x3, .int rn, .ref x4, .ref x5, .int tn, .ref x6, .ref x7, .int en])), (x3, .inl (ty 4, 20, .inr (.inr (.inr (.inr rf)))))]) (wr := [(x8, .inr (5, [.ref x1, .ref x9, .ref x10, .ref x12, .ref x14, .int hn, .ref x15, .ref x16, .ref x17, .int kn, .ref x18, .ref x19, .int on, .int cu, .int pu, .int gw])), (x15, .inl (ty 0, 300, .inl kr)), (x16, .inl (ty 0, 300, .inl kv)), (x9, .inr (4, [.int t_23.1, .int t_23.2.1, .int t_23.2.2.1, .int t_23.2.2.2]))]) (pl := pw ty pp) (ux := [(x1, .inr (8, [.ref x2, .int pn, .ref x3, .int rn, .ref x4, .ref x5, .int tn, .ref x6, .ref x7, .int en])), (x3, .inl (ty 4, 20, .inr (.inr (.inr (.inr rf)))))]) (va_runV (As := [.int (kr a1.toNatClampNeg)]) (rest := []) ⟨hx, hb, hml, hown, hts⟩ (k_X6_ruleAt l D ty td mi H.size pp x1 x2 pn x3 rn x4 x5 tn x6 x7 en rf (kr a1.toNatClampNeg) hok hru t_36 ht_36) (cwV 1 hts gv_k_X3_bindKept_1 rfl rfl rfl (by decide +kernel) ⟨(Nat.le_of_ble_eq_true rfl), (Nat.le_of_ble_eq_true rfl)⟩) ⟨(wq_preSP hP hD hK hE hS hA [0, 1] rfl (by decide) (As := .ref x1 :: [.int (kr a1.toNatClampNeg)])).1, va_recv (q0 := 0) (ci := 8) hK hP rfl rfl, (wq_preSP hP hD hK hE hS hA [0, 1] rfl (by decide) (As := .ref x1 :: [.int (kr a1.toNatClampNeg)])).2⟩ rfl rfl hl.1 rfl (lv_room (Nat.le_of_ble_eq_true rfl)) dX3_bindKept_36 ⟨(Nat.le_of_ble_eq_true rfl), (Nat.le_of_ble_eq_true rfl)⟩) hS hA hP hD [0, 1] [2, 3, 4, 5] rfl rfl (by decide) (by decide) (fun _ _ h => h.2) (fun r H locs hw hP hD hS => ?_)
      obtain ⟨rfl, -⟩ := hw
      have hP : va_P D vwCl ([(x8, .inr (5, [.ref x1, .ref x9, .ref x10, .ref x12, .ref x14, .int hn, .ref x15, .ref x16, .ref x17, .int kn, .ref x18, .ref x19, .int on, .int cu, .int pu, .int gw])), (x15, .inl (ty 0, 300, .inl kr)), (x16, .inl (ty 0, 300, .inl kv)), (x9, .inr (4, [.int t_23.1, .int t_23.2.1, .int t_23.2.2.1, .int t_23.2.2.2])), (x1, .inr (8, [.ref x2, .int pn, .ref x3, .int rn, .ref x4, .ref x5, .int tn, .ref x6, .ref x7, .int en])), (x3, .inl (ty 4, 20, .inr (.inr (.inr (.inr rf)))))] ++ pw ty pp) H := hP
      have hD : va_D A ([(x8, .inr (5, [.ref x1, .ref x9, .ref x10, .ref x12, .ref x14, .int hn, .ref x15, .ref x16, .ref x17, .int kn, .ref x18, .ref x19, .int on, .int cu, .int pu, .int gw])), (x15, .inl (ty 0, 300, .inl kr)), (x16, .inl (ty 0, 300, .inl kv)), (x9, .inr (4, [.int t_23.1, .int t_23.2.1, .int t_23.2.2.1, .int t_23.2.2.2])), (x1, .inr (8, [.ref x2, .int pn, .ref x3, .int rn, .ref x4, .ref x5, .int tn, .ref x6, .ref x7, .int en])), (x3, .inl (ty 4, 20, .inr (.inr (.inr (.inr rf)))))] ++ pw ty pp) := hD
      refine W.widen (k := 0) (n := 0) (Nat.le_of_ble_eq_true rfl) (Nat.le_of_ble_eq_true rfl) ?_
      rcases ho_36 : t_36 with _ | o_36
      · rw [ho_36, oE_none] at hT
        refine W.eq (g2 := F0 m 39 ls [.null]) rfl ?_
        exact END none t_23.1 t_23.2.1 t_23.2.2.1 t_23.2.2.2 hT _ _ (tP_sub hP [4, 5, 0, 3, 1, 2] rfl) (tD_sub hD [4, 5, 0, 3, 1, 2] (by decide) rfl) hS _ _ dX3_bindKept_39
      · rw [ho_36, oE_some] at hT
        refine W.eq (g2 := F0 m 39 ls [.ref o_36]) rfl ?_
        exact END (some o_36) t_23.1 t_23.2.1 t_23.2.2.1 t_23.2.2.2 hT _ _ (tP_sub hP [4, 5, 0, 3, 1, 2] rfl) (tD_sub hD [4, 5, 0, 3, 1, 2] (by decide) rfl) hS _ _ dX3_bindKept_39
    · rw [if_neg c_2] at hT
      refine lv_null hx hb dX3_bindKept_11 ?_
      exact END none b_1 b_2 b_3 b_p hT _ _ hP hD hS _ _ dX3_bindKept_12
theorem dX3_beginWithExternals_0 : decode cX3_beginWithExternals 0 = .ok (.iconst 0, 1) := by decide +kernel
theorem dX3_beginWithExternals_1 : decode cX3_beginWithExternals 1 = .ok (.istore_n 1, 1) := by decide +kernel
theorem dX3_beginWithExternals_2 : decode cX3_beginWithExternals 2 = .ok (.iload_n 1, 1) := by decide +kernel
theorem dX3_beginWithExternals_3 : decode cX3_beginWithExternals 3 = .ok (.aload_n 0, 1) := by decide +kernel
theorem dX3_beginWithExternals_4 : decode cX3_beginWithExternals 4 = .ok (.getfield 47, 3) := by decide +kernel
theorem dX3_beginWithExternals_7 : decode cX3_beginWithExternals 7 = .ok (.getfield 74, 3) := by decide +kernel
theorem dX3_beginWithExternals_10 : decode cX3_beginWithExternals 10 = .ok (.if_icmp .ge 68, 3) := by decide +kernel
theorem dX3_beginWithExternals_13 : decode cX3_beginWithExternals 13 = .ok (.aload_n 0, 1) := by decide +kernel
theorem dX3_beginWithExternals_14 : decode cX3_beginWithExternals 14 = .ok (.getfield 47, 3) := by decide +kernel
theorem dX3_beginWithExternals_17 : decode cX3_beginWithExternals 17 = .ok (.iload_n 1, 1) := by decide +kernel
theorem dX3_beginWithExternals_18 : decode cX3_beginWithExternals 18 = .ok (.invokevirtual 79, 3) := by decide +kernel
theorem dX3_beginWithExternals_21 : decode cX3_beginWithExternals 21 = .ok (.istore_n 2, 1) := by decide +kernel
theorem dX3_beginWithExternals_22 : decode cX3_beginWithExternals 22 = .ok (.iload_n 2, 1) := by decide +kernel
theorem dX3_beginWithExternals_23 : decode cX3_beginWithExternals 23 = .ok (.bipush 116, 2) := by decide +kernel
theorem dX3_beginWithExternals_25 : decode cX3_beginWithExternals 25 = .ok (.if_icmp .ne 19, 3) := by decide +kernel
theorem dX3_beginWithExternals_28 : decode cX3_beginWithExternals 28 = .ok (.aload_n 0, 1) := by decide +kernel
theorem dX3_beginWithExternals_29 : decode cX3_beginWithExternals 29 = .ok (.getfield 21, 3) := by decide +kernel
theorem dX3_beginWithExternals_32 : decode cX3_beginWithExternals 32 = .ok (.aload_n 0, 1) := by decide +kernel
theorem dX3_beginWithExternals_33 : decode cX3_beginWithExternals 33 = .ok (.getfield 47, 3) := by decide +kernel
theorem dX3_beginWithExternals_36 : decode cX3_beginWithExternals 36 = .ok (.iload_n 1, 1) := by decide +kernel
theorem dX3_beginWithExternals_37 : decode cX3_beginWithExternals 37 = .ok (.invokevirtual 83, 3) := by decide +kernel
theorem dX3_beginWithExternals_40 : decode cX3_beginWithExternals 40 = .ok (.invokevirtual 87, 3) := by decide +kernel
theorem dX3_beginWithExternals_43 : decode cX3_beginWithExternals 43 = .ok (.pop, 1) := by decide +kernel
theorem dX3_beginWithExternals_44 : decode cX3_beginWithExternals 44 = .ok (.iload_n 2, 1) := by decide +kernel
theorem dX3_beginWithExternals_45 : decode cX3_beginWithExternals 45 = .ok (.bipush 116, 2) := by decide +kernel
theorem dX3_beginWithExternals_47 : decode cX3_beginWithExternals 47 = .ok (.if_icmp .eq 9, 3) := by decide +kernel
theorem dX3_beginWithExternals_50 : decode cX3_beginWithExternals 50 = .ok (.iload_n 2, 1) := by decide +kernel
theorem dX3_beginWithExternals_51 : decode cX3_beginWithExternals 51 = .ok (.bipush 117, 2) := by decide +kernel
theorem dX3_beginWithExternals_53 : decode cX3_beginWithExternals 53 = .ok (.if_icmp .ne 19, 3) := by decide +kernel
theorem dX3_beginWithExternals_56 : decode cX3_beginWithExternals 56 = .ok (.aload_n 0, 1) := by decide +kernel
theorem dX3_beginWithExternals_57 : decode cX3_beginWithExternals 57 = .ok (.getfield 25, 3) := by decide +kernel
theorem dX3_beginWithExternals_60 : decode cX3_beginWithExternals 60 = .ok (.aload_n 0, 1) := by decide +kernel
theorem dX3_beginWithExternals_61 : decode cX3_beginWithExternals 61 = .ok (.getfield 47, 3) := by decide +kernel
theorem dX3_beginWithExternals_64 : decode cX3_beginWithExternals 64 = .ok (.iload_n 1, 1) := by decide +kernel
theorem dX3_beginWithExternals_65 : decode cX3_beginWithExternals 65 = .ok (.invokevirtual 83, 3) := by decide +kernel
theorem dX3_beginWithExternals_68 : decode cX3_beginWithExternals 68 = .ok (.invokevirtual 87, 3) := by decide +kernel
theorem dX3_beginWithExternals_71 : decode cX3_beginWithExternals 71 = .ok (.pop, 1) := by decide +kernel
theorem dX3_beginWithExternals_72 : decode cX3_beginWithExternals 72 = .ok (.iinc 1 1, 3) := by decide +kernel
theorem dX3_beginWithExternals_75 : decode cX3_beginWithExternals 75 = .ok (.goto (-73), 3) := by decide +kernel
theorem dX3_beginWithExternals_78 : decode cX3_beginWithExternals 78 = .ok (.return_, 1) := by decide +kernel
abbrev r_k_X3_beginWithExternals : Type := (Nat → Int64) × (Nat → Int64)
def m_k_X3_beginWithExternals_72 (rec_2 : Int32 → (Nat → Int64) → (Nat → Int64) → r_k_X3_beginWithExternals) (v1_2 : Int32) (x11_f_44 : Nat → Int64) (x13_f_72 : Nat → Int64) : r_k_X3_beginWithExternals :=
  rec_2 (v1_2 + 1) x11_f_44 x13_f_72
def m_k_X3_beginWithExternals_56 (en : Int32) (ea : Nat → Int32) (rec_2 : Int32 → (Nat → Int64) → (Nat → Int64) → r_k_X3_beginWithExternals) (v1_2 : Int32) (x11_f_44 : Nat → Int64) (x13_f_2 : Nat → Int64) : r_k_X3_beginWithExternals :=
  lE (m_k_X6_externalAtom en ea v1_2) (fun t_65 =>
    lE (m_k_X1_add x13_f_2 t_65) (fun t_68 =>
      m_k_X3_beginWithExternals_72 rec_2 v1_2 x11_f_44 t_68.2))
def m_k_X3_beginWithExternals_44 (en : Int32) (ea : Nat → Int32) (rec_2 : Int32 → (Nat → Int64) → (Nat → Int64) → r_k_X3_beginWithExternals) (t_18 : r_k_X6_externalState) (v1_2 : Int32) (x13_f_2 : Nat → Int64) (x11_f_44 : Nat → Int64) : r_k_X3_beginWithExternals :=
  if t_18 = 116 then
    m_k_X3_beginWithExternals_56 en ea rec_2 v1_2 x11_f_44 x13_f_2
  else
    if t_18 = 117 then
      m_k_X3_beginWithExternals_56 en ea rec_2 v1_2 x11_f_44 x13_f_2
    else
      m_k_X3_beginWithExternals_72 rec_2 v1_2 x11_f_44 x13_f_2
def m_k_X3_beginWithExternals_2s (en : Int32) (ea : Nat → Int32) (es : Nat → Int32) (rec_2 : Int32 → (Nat → Int64) → (Nat → Int64) → r_k_X3_beginWithExternals) (v1_2 : Int32) (x11_f_2 : Nat → Int64) (x13_f_2 : Nat → Int64) : r_k_X3_beginWithExternals :=
  if en ≤ v1_2 then
    (x11_f_2, x13_f_2)
  else
    lE (m_k_X6_externalState en es v1_2) (fun t_18 =>
      if t_18 = 116 then
        lE (m_k_X6_externalAtom en ea v1_2) (fun t_37 =>
          lE (m_k_X1_add x11_f_2 t_37) (fun t_40 =>
            m_k_X3_beginWithExternals_44 en ea rec_2 t_18 v1_2 x13_f_2 t_40.2))
      else
        m_k_X3_beginWithExternals_44 en ea rec_2 t_18 v1_2 x13_f_2 x11_f_2)
def m_k_X3_beginWithExternals_2 (en : Int32) (ea : Nat → Int32) (es : Nat → Int32) : Nat → Int32 → (Nat → Int64) → (Nat → Int64) → r_k_X3_beginWithExternals
  | 0, _, _, _ => ((fun _ => 0), (fun _ => 0))
  | n + 1, v1_2, x11_f_2, x13_f_2 => m_k_X3_beginWithExternals_2s en ea es (fun v1_2 x11_f_2 x13_f_2 => m_k_X3_beginWithExternals_2 en ea es n v1_2 x11_f_2 x13_f_2) v1_2 x11_f_2 x13_f_2
theorem m_k_X3_beginWithExternals_2_succ (en : Int32) (ea : Nat → Int32) (es : Nat → Int32) (n : Nat) (v1_2 : Int32) (x11_f_2 : Nat → Int64) (x13_f_2 : Nat → Int64) : m_k_X3_beginWithExternals_2 en ea es (n + 1) v1_2 x11_f_2 x13_f_2 = m_k_X3_beginWithExternals_2s en ea es (m_k_X3_beginWithExternals_2 en ea es n) v1_2 x11_f_2 x13_f_2 := rfl
def m_k_X3_beginWithExternals (en : Int32) (ea : Nat → Int32) (es : Nat → Int32) (su : Nat → Int64) (po : Nat → Int64) : r_k_X3_beginWithExternals :=
  m_k_X3_beginWithExternals_2 en ea es wF 0 su po
def vs_k_X3_beginWithExternals : List Cond := .code yX3_beginWithExternals cX3_beginWithExternals 3 none :: ([.fieldLink RX3 47 "AnswerFold$Grounding" "program" "LAnswerFold$Program;", .methodLink RX3 79 yX6_externalState, .instanceMethod yX6_externalState, .selects RX6 yX6_externalState yX6_externalState, .initialized RX6, .fieldLink RX3 25 "AnswerFold$Grounding" "possible" "LAnswerFold$AtomSet;", .methodLink RX3 83 yX6_externalAtom, .instanceMethod yX6_externalAtom, .selects RX6 yX6_externalAtom yX6_externalAtom, .methodLink RX3 87 yX1_add, .instanceMethod yX1_add, .selects RX1 yX1_add yX1_add, .initialized RX1, .fieldLink RX3 21 "AnswerFold$Grounding" "sure" "LAnswerFold$AtomSet;"] ++ (u_ws RX3 TX3 16 ++ (u_ws RX6 TX6 10 ++ (vs_k_X6_externalState ++ (vs_k_X6_externalAtom ++ (vs_k_X1_add))))))
theorem iv_k_X3_beginWithExternals_X3 : ∀ w ∈ u_ws RX3 TX3 16, w ∈ vs_k_X3_beginWithExternals := (fun _ h => List.mem_cons_of_mem _ (List.mem_append_right _ (List.mem_append_left _ h)))
theorem iv_k_X3_beginWithExternals_X6 : ∀ w ∈ u_ws RX6 TX6 10, w ∈ vs_k_X3_beginWithExternals := (fun _ h => List.mem_cons_of_mem _ (List.mem_append_right _ (List.mem_append_right _ (List.mem_append_left _ h))))
set_option maxRecDepth 20000 in
theorem gv_k_X3_beginWithExternals_0 : GoodIn vs_k_X3_beginWithExternals (wsV RX3 79 RX6 yX6_externalState vs_k_X6_externalState) := goodIn_app (goodIn_sub (by decide +kernel) (by decide +kernel)) (goodIn_sub (fun _ h => List.mem_cons_of_mem _ (List.mem_append_right _ (List.mem_append_right _ (List.mem_append_right _ (List.mem_append_left _ h))))) (by decide +kernel))
set_option maxRecDepth 20000 in
theorem gv_k_X3_beginWithExternals_1 : GoodIn vs_k_X3_beginWithExternals (wsV RX3 83 RX6 yX6_externalAtom vs_k_X6_externalAtom) := goodIn_app (goodIn_sub (by decide +kernel) (by decide +kernel)) (goodIn_sub (fun _ h => List.mem_cons_of_mem _ (List.mem_append_right _ (List.mem_append_right _ (List.mem_append_right _ (List.mem_append_right _ (List.mem_append_left _ h)))))) (by decide +kernel))
set_option maxRecDepth 20000 in
theorem gv_k_X3_beginWithExternals_2 : GoodIn vs_k_X3_beginWithExternals (wsV RX3 87 RX1 yX1_add vs_k_X1_add) := goodIn_app (goodIn_sub (by decide +kernel) (by decide +kernel)) (goodIn_sub (fun _ h => List.mem_cons_of_mem _ (List.mem_append_right _ (List.mem_append_right _ (List.mem_append_right _ (List.mem_append_right _ (List.mem_append_right _ (h))))))) (by decide +kernel))
set_option maxRecDepth 20000 in
theorem gv_k_X3_beginWithExternals_3 : GoodIn vs_k_X3_beginWithExternals (wsV RX3 83 RX6 yX6_externalAtom vs_k_X6_externalAtom) := goodIn_app (goodIn_sub (by decide +kernel) (by decide +kernel)) (goodIn_sub (fun _ h => List.mem_cons_of_mem _ (List.mem_append_right _ (List.mem_append_right _ (List.mem_append_right _ (List.mem_append_right _ (List.mem_append_left _ h)))))) (by decide +kernel))
set_option maxRecDepth 20000 in
theorem gv_k_X3_beginWithExternals_4 : GoodIn vs_k_X3_beginWithExternals (wsV RX3 87 RX1 yX1_add vs_k_X1_add) := goodIn_app (goodIn_sub (by decide +kernel) (by decide +kernel)) (goodIn_sub (fun _ h => List.mem_cons_of_mem _ (List.mem_append_right _ (List.mem_append_right _ (List.mem_append_right _ (List.mem_append_right _ (List.mem_append_right _ (h))))))) (by decide +kernel))
set_option maxHeartbeats 4000000 in
set_option maxRecDepth 100000 in
theorem k_X3_beginWithExternals (l : Launch) (D : va_G) (ty : Nat → ClassId) (td mi sz : Nat) (x1 : Nat) (x2 : Nat) (pn : Int32) (x3 : Nat) (rn : Int32) (x4 : Nat) (x5 : Nat) (tn : Int32) (x6 : Nat) (x7 : Nat) (en : Int32) (ea : Nat → Int32) (es : Nat → Int32) (x8 : Nat) (x9 : Nat) (x10 : Nat) (x12 : Nat) (x14 : Nat) (hn : Int32) (x15 : Nat) (x16 : Nat) (x17 : Nat) (kn : Int32) (x18 : Nat) (x19 : Nat) (on : Int32) (cu : Int32) (pu : Int32) (gw : Int32) (x11 : Nat) (su : Nat → Int64) (x13 : Nat) (po : Nat → Int64) (hch : ∀ i : Nat, narrow .char (.int (es i)) = .int (es i)) (TT : r_k_X3_beginWithExternals) (hTT : TT = m_k_X3_beginWithExternals en ea es su po) : Met l yX3_beginWithExternals vs_k_X3_beginWithExternals { frames := 1, cells := 0, slots := 0, locals := 23 } (va_Pc [.ref x8] (wq_P D ty td mi [(x1, .inr (8, [.ref x2, .int pn, .ref x3, .int rn, .ref x4, .ref x5, .int tn, .ref x6, .ref x7, .int en])), (x6, .inl (ty 0, 6, .inl ea)), (x7, .inl (ty 2, 6, .inl es)), (x8, .inr (5, [.ref x1, .ref x9, .ref x10, .ref x12, .ref x14, .int hn, .ref x15, .ref x16, .ref x17, .int kn, .ref x18, .ref x19, .int on, .int cu, .int pu, .int gw])), (x10, .inr (3, [.ref x11])), (x11, .inl (ty 1, 6, .inr (.inl su))), (x12, .inr (3, [.ref x13])), (x13, .inl (ty 1, 6, .inr (.inl po)))] sz)) (va_Qv (fun u : va_W => ((u = [(x1, .inr (8, [.ref x2, .int pn, .ref x3, .int rn, .ref x4, .ref x5, .int tn, .ref x6, .ref x7, .int en])), (x6, .inl (ty 0, 6, .inl ea)), (x7, .inl (ty 2, 6, .inl es)), (x8, .inr (5, [.ref x1, .ref x9, .ref x10, .ref x12, .ref x14, .int hn, .ref x15, .ref x16, .ref x17, .int kn, .ref x18, .ref x19, .int on, .int cu, .int pu, .int gw])), (x10, .inr (3, [.ref x11])), (x11, .inl (ty 1, 6, .inr (.inl TT.1))), (x12, .inr (3, [.ref x13])), (x13, .inl (ty 1, 6, .inr (.inl TT.2)))]))) (wq_B D (va_A [(x1, .inr (8, [.ref x2, .int pn, .ref x3, .int rn, .ref x4, .ref x5, .int tn, .ref x6, .ref x7, .int en])), (x6, .inl (ty 0, 6, .inl ea)), (x7, .inl (ty 2, 6, .inl es)), (x8, .inr (5, [.ref x1, .ref x9, .ref x10, .ref x12, .ref x14, .int hn, .ref x15, .ref x16, .ref x17, .int kn, .ref x18, .ref x19, .int on, .int cu, .int pu, .int gw])), (x10, .inr (3, [.ref x11])), (x11, .inl (ty 1, 6, .inr (.inl su))), (x12, .inr (3, [.ref x13])), (x13, .inl (ty 1, 6, .inr (.inl po)))] sz)) (va_A [(x1, .inr (8, [.ref x2, .int pn, .ref x3, .int rn, .ref x4, .ref x5, .int tn, .ref x6, .ref x7, .int en])), (x6, .inl (ty 0, 6, .inl ea)), (x7, .inl (ty 2, 6, .inl es)), (x8, .inr (5, [.ref x1, .ref x9, .ref x10, .ref x12, .ref x14, .int hn, .ref x15, .ref x16, .ref x17, .int kn, .ref x18, .ref x19, .int on, .int cu, .int pu, .int gw])), (x10, .inr (3, [.ref x11])), (x11, .inl (ty 1, 6, .inr (.inl su))), (x12, .inr (3, [.ref x13])), (x13, .inl (ty 1, 6, .inr (.inl po)))] sz)) 0 0 (va_A [(x1, .inr (8, [.ref x2, .int pn, .ref x3, .int rn, .ref x4, .ref x5, .int tn, .ref x6, .ref x7, .int en])), (x6, .inl (ty 0, 6, .inl ea)), (x7, .inl (ty 2, 6, .inl es)), (x8, .inr (5, [.ref x1, .ref x9, .ref x10, .ref x12, .ref x14, .int hn, .ref x15, .ref x16, .ref x17, .int kn, .ref x18, .ref x19, .int on, .int cu, .int pu, .int gw])), (x10, .inr (3, [.ref x11])), (x11, .inl (ty 1, 6, .inr (.inl su))), (x12, .inr (3, [.ref x13])), (x13, .inl (ty 1, 6, .inr (.inl po)))] sz) := by
  refine Met.ofW (cc := cX3_beginWithExternals) (maxL := 3) (ret := none) (by decide) rfl ?_
  intro p e s m args below meth c s₁ B hml hv
  obtain ⟨rfl, hsz, hP, hK, hD0, hE⟩ := hv
  have hx := B.exec
  have hb := B.bytes
  have hr := B.returns
  have hts := atoms_spec (ws := vs_k_X3_beginWithExternals) B.pre
  have hown : s.vm.findClass RX3 = some m.cls := findClass_of_methodNamed B.named
  have hlocks := B.notSynchronized
  subst hsz
  have hD := hD0.self (sz := s.heap.size)
  generalize hAe : va_A [(x1, .inr (8, [.ref x2, .int pn, .ref x3, .int rn, .ref x4, .ref x5, .int tn, .ref x6, .ref x7, .int en])), (x6, .inl (ty 0, 6, .inl ea)), (x7, .inl (ty 2, 6, .inl es)), (x8, .inr (5, [.ref x1, .ref x9, .ref x10, .ref x12, .ref x14, .int hn, .ref x15, .ref x16, .ref x17, .int kn, .ref x18, .ref x19, .int on, .int cu, .int pu, .int gw])), (x10, .inr (3, [.ref x11])), (x11, .inl (ty 1, 6, .inr (.inl su))), (x12, .inr (3, [.ref x13])), (x13, .inl (ty 1, 6, .inr (.inl po)))] s.heap.size = A at hD hE ⊢
  have hA : ∀ q : Nat, s.heap.size ≤ q → A q := fun q h => by rw [← hAe]; exact Or.inr h
  have hS : va_S A s.heap s.heap [] := va_S.rf
  have hP : va_P D vwCl [(x1, .inr (8, [.ref x2, .int pn, .ref x3, .int rn, .ref x4, .ref x5, .int tn, .ref x6, .ref x7, .int en])), (x6, .inl (ty 0, 6, .inl ea)), (x7, .inl (ty 2, 6, .inl es)), (x8, .inr (5, [.ref x1, .ref x9, .ref x10, .ref x12, .ref x14, .int hn, .ref x15, .ref x16, .ref x17, .int kn, .ref x18, .ref x19, .int on, .int cu, .int pu, .int gw])), (x10, .inr (3, [.ref x11])), (x11, .inl (ty 1, 6, .inr (.inl su))), (x12, .inr (3, [.ref x13])), (x13, .inl (ty 1, 6, .inr (.inl po)))] s.heap := hP
  have hl := lv_entry ([.ref x8]) (n := 3) (Nat.le_of_ble_eq_true rfl)
  rw [lg_entry_eq]
  generalize (lg_sl ([.ref x8]) ++ List.replicate (3 - (lg_sl ([.ref x8])).length) Slot.unset).toArray = ls at hl ⊢
  have hl : lv_has ls 3 [(0, .ref x8)] := hl
  have END : ∀ (e0 : Nat → Int64) (e1 : Nat → Int64), TT = (e0, e1) → ∀ (H : Heap) (locs : List Loc), va_P D vwCl [(x1, .inr (8, [.ref x2, .int pn, .ref x3, .int rn, .ref x4, .ref x5, .int tn, .ref x6, .ref x7, .int en])), (x6, .inl (ty 0, 6, .inl ea)), (x7, .inl (ty 2, 6, .inl es)), (x8, .inr (5, [.ref x1, .ref x9, .ref x10, .ref x12, .ref x14, .int hn, .ref x15, .ref x16, .ref x17, .int kn, .ref x18, .ref x19, .int on, .int cu, .int pu, .int gw])), (x10, .inr (3, [.ref x11])), (x11, .inl (ty 1, 6, .inr (.inl e0))), (x12, .inr (3, [.ref x13])), (x13, .inl (ty 1, 6, .inr (.inl e1)))] H → va_D A [(x1, .inr (8, [.ref x2, .int pn, .ref x3, .int rn, .ref x4, .ref x5, .int tn, .ref x6, .ref x7, .int en])), (x6, .inl (ty 0, 6, .inl ea)), (x7, .inl (ty 2, 6, .inl es)), (x8, .inr (5, [.ref x1, .ref x9, .ref x10, .ref x12, .ref x14, .int hn, .ref x15, .ref x16, .ref x17, .int kn, .ref x18, .ref x19, .int on, .int cu, .int pu, .int gw])), (x10, .inr (3, [.ref x11])), (x11, .inl (ty 1, 6, .inr (.inl e0))), (x12, .inr (3, [.ref x13])), (x13, .inl (ty 1, 6, .inr (.inl e1)))] → va_S A s.heap H locs → ∀ (ls : Array Slot) (pc : Nat), decode cX3_beginWithExternals pc = .ok (.return_, 1) → W p l e (headSpec vs_k_X3_beginWithExternals { frames := 1, cells := 0, slots := 0, locals := 23 }).room s m ([.ref x8] : List Value).toArray below meth c H locs 0 0 (MQ below (va_Qv (fun u : va_W => ((u = [(x1, .inr (8, [.ref x2, .int pn, .ref x3, .int rn, .ref x4, .ref x5, .int tn, .ref x6, .ref x7, .int en])), (x6, .inl (ty 0, 6, .inl ea)), (x7, .inl (ty 2, 6, .inl es)), (x8, .inr (5, [.ref x1, .ref x9, .ref x10, .ref x12, .ref x14, .int hn, .ref x15, .ref x16, .ref x17, .int kn, .ref x18, .ref x19, .int on, .int cu, .int pu, .int gw])), (x10, .inr (3, [.ref x11])), (x11, .inl (ty 1, 6, .inr (.inl TT.1))), (x12, .inr (3, [.ref x13])), (x13, .inl (ty 1, 6, .inr (.inl TT.2)))]))) (wq_B D A) A) ([.ref x8] : List Value).toArray s 0 0 A) (F0 m pc ls []) := by
    intro e0 e1 hT H locs hP hD hS ls pc hd
    have hM : TT = (e0, e1) := hT
    exact W.vret hx hb hr (fun t ht hW => ⟨⟨[(x1, .inr (8, [.ref x2, .int pn, .ref x3, .int rn, .ref x4, .ref x5, .int tn, .ref x6, .ref x7, .int en])), (x6, .inl (ty 0, 6, .inl ea)), (x7, .inl (ty 2, 6, .inl es)), (x8, .inr (5, [.ref x1, .ref x9, .ref x10, .ref x12, .ref x14, .int hn, .ref x15, .ref x16, .ref x17, .int kn, .ref x18, .ref x19, .int on, .int cu, .int pu, .int gw])), (x10, .inr (3, [.ref x11])), (x11, .inl (ty 1, 6, .inr (.inl e0))), (x12, .inr (3, [.ref x13])), (x13, .inl (ty 1, 6, .inr (.inl e1)))], rfl, (by rw [hM]), wq_B.of ht hP hD⟩, hS.F ht⟩) hS.2.2 hd
  have hT := hTT
  rw [m_k_X3_beginWithExternals] at hT
  refine lv_iconst (v := 0) hx hb dX3_beginWithExternals_0 (by decide) ?_
  refine lv_istore_n (lv' := [(1, .int 0), (0, .ref x8)]) hx hb dX3_beginWithExternals_1 rfl hl (by decide) rfl (fun ls hl => ?_)
  have L_2 : ∀ (n_2 : Nat) (v1_2 : Int32) (x11_f_2 : Nat → Int64) (x13_f_2 : Nat → Int64), (2147483648 - v1_2.toInt).toNat < n_2 → TT = m_k_X3_beginWithExternals_2 en ea es n_2 v1_2 x11_f_2 x13_f_2 → 0 ≤ v1_2.toInt → ∀ (H : Heap) (locs : List Loc), va_P D vwCl [(x1, .inr (8, [.ref x2, .int pn, .ref x3, .int rn, .ref x4, .ref x5, .int tn, .ref x6, .ref x7, .int en])), (x6, .inl (ty 0, 6, .inl ea)), (x7, .inl (ty 2, 6, .inl es)), (x8, .inr (5, [.ref x1, .ref x9, .ref x10, .ref x12, .ref x14, .int hn, .ref x15, .ref x16, .ref x17, .int kn, .ref x18, .ref x19, .int on, .int cu, .int pu, .int gw])), (x10, .inr (3, [.ref x11])), (x11, .inl (ty 1, 6, .inr (.inl x11_f_2))), (x12, .inr (3, [.ref x13])), (x13, .inl (ty 1, 6, .inr (.inl x13_f_2)))] H → va_D A [(x1, .inr (8, [.ref x2, .int pn, .ref x3, .int rn, .ref x4, .ref x5, .int tn, .ref x6, .ref x7, .int en])), (x6, .inl (ty 0, 6, .inl ea)), (x7, .inl (ty 2, 6, .inl es)), (x8, .inr (5, [.ref x1, .ref x9, .ref x10, .ref x12, .ref x14, .int hn, .ref x15, .ref x16, .ref x17, .int kn, .ref x18, .ref x19, .int on, .int cu, .int pu, .int gw])), (x10, .inr (3, [.ref x11])), (x11, .inl (ty 1, 6, .inr (.inl x11_f_2))), (x12, .inr (3, [.ref x13])), (x13, .inl (ty 1, 6, .inr (.inl x13_f_2)))] → va_S A s.heap H locs → ∀ ls : Array Slot, lv_has ls 3 [(0, .ref x8), (1, .int v1_2)] → W p l e (headSpec vs_k_X3_beginWithExternals { frames := 1, cells := 0, slots := 0, locals := 23 }).room s m ([.ref x8] : List Value).toArray below meth c H locs 0 0 (MQ below (va_Qv (fun u : va_W => ((u = [(x1, .inr (8, [.ref x2, .int pn, .ref x3, .int rn, .ref x4, .ref x5, .int tn, .ref x6, .ref x7, .int en])), (x6, .inl (ty 0, 6, .inl ea)), (x7, .inl (ty 2, 6, .inl es)), (x8, .inr (5, [.ref x1, .ref x9, .ref x10, .ref x12, .ref x14, .int hn, .ref x15, .ref x16, .ref x17, .int kn, .ref x18, .ref x19, .int on, .int cu, .int pu, .int gw])), (x10, .inr (3, [.ref x11])), (x11, .inl (ty 1, 6, .inr (.inl TT.1))), (x12, .inr (3, [.ref x13])), (x13, .inl (ty 1, 6, .inr (.inl TT.2)))]))) (wq_B D A) A) ([.ref x8] : List Value).toArray s 0 0 A) (F0 m 2 ls []) := by
    intro n_2
    induction n_2 with
    | zero => intro v1_2 x11_f_2 x13_f_2 hu; exact absurd hu (Nat.not_lt_zero _)
    | succ n_2 ih_2 =>
      intro v1_2 x11_f_2 x13_f_2 hu_2 hT hn_2 H locs hP hD hS ls hl
      rw [m_k_X3_beginWithExternals_2_succ, m_k_X3_beginWithExternals_2s] at hT
      refine lv_iload_n hx hb dX3_beginWithExternals_2 rfl (lv_at hl 1 rfl) ?_
      refine lv_aload_n hx hb dX3_beginWithExternals_3 rfl (lv_at hl 0 rfl) ?_
      refine va_get (D := D) (ci := 5) (v := .ref x1) (C := RX3) (T := TX3) (N := 16) hx hb hts iv_k_X3_beginWithExternals_X3 hown hK hP 3 rfl rfl 0 (by decide) (hts (.fieldLink RX3 47 "AnswerFold$Grounding" "program" "LAnswerFold$Program;") (by decide +kernel)) (fun _ h9 => h9) rfl dX3_beginWithExternals_4 ?_
      refine va_getN (D := D) (ci := 8) (v := .int en) (C := RX6) (T := TX6) (N := 10) hx hb hts iv_k_X3_beginWithExternals_X6 hown hK hP 0 rfl rfl 9 (by decide) (hE.at (.fieldLinkNest "AnswerFold$Grounding" 74 "AnswerFold$Program" "externalCount" "I" "AnswerFold") (by decide +kernel)) (fun _ h9 => h9) rfl dX3_beginWithExternals_7 ?_
      refine lv_icmp_ge (tgt := 78) hx hb dX3_beginWithExternals_10 (by decide) (fun c_1 => ?_) (fun c_1 => ?_)
      · rw [if_pos c_1] at hT
        exact END x11_f_2 x13_f_2 hT _ _ hP hD hS _ _ dX3_beginWithExternals_78
      · rw [if_neg c_1] at hT
        refine lv_aload_n hx hb dX3_beginWithExternals_13 rfl (lv_at hl 0 rfl) ?_
        refine va_get (D := D) (ci := 5) (v := .ref x1) (C := RX3) (T := TX3) (N := 16) hx hb hts iv_k_X3_beginWithExternals_X3 hown hK hP 3 rfl rfl 0 (by decide) (hts (.fieldLink RX3 47 "AnswerFold$Grounding" "program" "LAnswerFold$Program;") (by decide +kernel)) (fun _ h9 => h9) rfl dX3_beginWithExternals_14 ?_
        refine lv_iload_n hx hb dX3_beginWithExternals_17 rfl (lv_at hl 1 rfl) ?_
        obtain ⟨t_18, ht_18⟩ : ∃ t, t = m_k_X6_externalState en es v1_2 := ⟨_, rfl⟩
        rw [lE_eq ht_18] at hT
        refine wq_i (wc := [(x1, .inr (8, [.ref x2, .int pn, .ref x3, .int rn, .ref x4, .ref x5, .int tn, .ref x6, .ref x7, .int en])), (x7, .inl (ty 2, 6, .inl es))]) (wr := [(x6, .inl (ty 0, 6, .inl ea)), (x8, .inr (5, [.ref x1, .ref x9, .ref x10, .ref x12, .ref x14, .int hn, .ref x15, .ref x16, .ref x17, .int kn, .ref x18, .ref x19, .int on, .int cu, .int pu, .int gw])), (x10, .inr (3, [.ref x11])), (x11, .inl (ty 1, 6, .inr (.inl x11_f_2))), (x12, .inr (3, [.ref x13])), (x13, .inl (ty 1, 6, .inr (.inl x13_f_2)))]) (va_runV (As := [.int v1_2]) (rest := []) ⟨hx, hb, hml, hown, hts⟩ (k_X6_externalState l D ty td mi H.size x1 x2 pn x3 rn x4 x5 tn x6 x7 en es v1_2 hch t_18 ht_18) (cwV 1 hts gv_k_X3_beginWithExternals_0 rfl rfl rfl (by decide +kernel) ⟨(Nat.le_of_ble_eq_true rfl), (Nat.le_of_ble_eq_true rfl)⟩) ⟨(wq_preS hP hD hK hE hS hA [0, 2] rfl (by decide) (As := .ref x1 :: [.int v1_2])).1, va_recv (q0 := 0) (ci := 8) hK hP rfl rfl, (wq_preS hP hD hK hE hS hA [0, 2] rfl (by decide) (As := .ref x1 :: [.int v1_2])).2⟩ rfl rfl hl.1 rfl (lv_room (Nat.le_of_ble_eq_true rfl)) dX3_beginWithExternals_18 ⟨(Nat.le_of_ble_eq_true rfl), (Nat.le_of_ble_eq_true rfl)⟩) hS hA hP hD [0, 2] [1, 3, 4, 5, 6, 7] rfl rfl (by decide) (by decide) (fun r u H locs hw hP hD hS => ?_)
        obtain ⟨hr0, rfl⟩ := hw
        subst r
        have hP : va_P D vwCl [(x6, .inl (ty 0, 6, .inl ea)), (x8, .inr (5, [.ref x1, .ref x9, .ref x10, .ref x12, .ref x14, .int hn, .ref x15, .ref x16, .ref x17, .int kn, .ref x18, .ref x19, .int on, .int cu, .int pu, .int gw])), (x10, .inr (3, [.ref x11])), (x11, .inl (ty 1, 6, .inr (.inl x11_f_2))), (x12, .inr (3, [.ref x13])), (x13, .inl (ty 1, 6, .inr (.inl x13_f_2))), (x1, .inr (8, [.ref x2, .int pn, .ref x3, .int rn, .ref x4, .ref x5, .int tn, .ref x6, .ref x7, .int en])), (x7, .inl (ty 2, 6, .inl es))] H := hP
        have hD : va_D A [(x6, .inl (ty 0, 6, .inl ea)), (x8, .inr (5, [.ref x1, .ref x9, .ref x10, .ref x12, .ref x14, .int hn, .ref x15, .ref x16, .ref x17, .int kn, .ref x18, .ref x19, .int on, .int cu, .int pu, .int gw])), (x10, .inr (3, [.ref x11])), (x11, .inl (ty 1, 6, .inr (.inl x11_f_2))), (x12, .inr (3, [.ref x13])), (x13, .inl (ty 1, 6, .inr (.inl x13_f_2))), (x1, .inr (8, [.ref x2, .int pn, .ref x3, .int rn, .ref x4, .ref x5, .int tn, .ref x6, .ref x7, .int en])), (x7, .inl (ty 2, 6, .inl es))] := hD
        refine W.widen (k := 0) (n := 0) (Nat.le_of_ble_eq_true rfl) (Nat.le_of_ble_eq_true rfl) ?_
        refine lv_istore_n (lv' := [(2, .int t_18), (0, .ref x8), (1, .int v1_2)]) hx hb dX3_beginWithExternals_21 rfl hl (by decide) rfl (fun ls hl => ?_)
        refine lv_iload_n hx hb dX3_beginWithExternals_22 rfl (lv_at hl 0 rfl) ?_
        refine lv_bipush (v := 116) hx hb dX3_beginWithExternals_23 (by decide) ?_
        have J_44 : ∀ (x11_f_44 : Nat → Int64), TT = m_k_X3_beginWithExternals_44 en ea (m_k_X3_beginWithExternals_2 en ea es n_2) t_18 v1_2 x13_f_2 x11_f_44 → ∀ (H : Heap) (locs : List Loc), va_P D vwCl [(x1, .inr (8, [.ref x2, .int pn, .ref x3, .int rn, .ref x4, .ref x5, .int tn, .ref x6, .ref x7, .int en])), (x6, .inl (ty 0, 6, .inl ea)), (x7, .inl (ty 2, 6, .inl es)), (x8, .inr (5, [.ref x1, .ref x9, .ref x10, .ref x12, .ref x14, .int hn, .ref x15, .ref x16, .ref x17, .int kn, .ref x18, .ref x19, .int on, .int cu, .int pu, .int gw])), (x10, .inr (3, [.ref x11])), (x11, .inl (ty 1, 6, .inr (.inl x11_f_44))), (x12, .inr (3, [.ref x13])), (x13, .inl (ty 1, 6, .inr (.inl x13_f_2)))] H → va_D A [(x1, .inr (8, [.ref x2, .int pn, .ref x3, .int rn, .ref x4, .ref x5, .int tn, .ref x6, .ref x7, .int en])), (x6, .inl (ty 0, 6, .inl ea)), (x7, .inl (ty 2, 6, .inl es)), (x8, .inr (5, [.ref x1, .ref x9, .ref x10, .ref x12, .ref x14, .int hn, .ref x15, .ref x16, .ref x17, .int kn, .ref x18, .ref x19, .int on, .int cu, .int pu, .int gw])), (x10, .inr (3, [.ref x11])), (x11, .inl (ty 1, 6, .inr (.inl x11_f_44))), (x12, .inr (3, [.ref x13])), (x13, .inl (ty 1, 6, .inr (.inl x13_f_2)))] → va_S A s.heap H locs → ∀ ls : Array Slot, lv_has ls 3 [(0, .ref x8), (1, .int v1_2), (2, .int t_18)] → W p l e (headSpec vs_k_X3_beginWithExternals { frames := 1, cells := 0, slots := 0, locals := 23 }).room s m ([.ref x8] : List Value).toArray below meth c H locs 0 0 (MQ below (va_Qv (fun u : va_W => ((u = [(x1, .inr (8, [.ref x2, .int pn, .ref x3, .int rn, .ref x4, .ref x5, .int tn, .ref x6, .ref x7, .int en])), (x6, .inl (ty 0, 6, .inl ea)), (x7, .inl (ty 2, 6, .inl es)), (x8, .inr (5, [.ref x1, .ref x9, .ref x10, .ref x12, .ref x14, .int hn, .ref x15, .ref x16, .ref x17, .int kn, .ref x18, .ref x19, .int on, .int cu, .int pu, .int gw])), (x10, .inr (3, [.ref x11])), (x11, .inl (ty 1, 6, .inr (.inl TT.1))), (x12, .inr (3, [.ref x13])), (x13, .inl (ty 1, 6, .inr (.inl TT.2)))]))) (wq_B D A) A) ([.ref x8] : List Value).toArray s 0 0 A) (F0 m 44 ls []) := by
          intro x11_f_44 hT  H locs hP hD hS ls hl
          rw [m_k_X3_beginWithExternals_44] at hT
          refine lv_iload_n hx hb dX3_beginWithExternals_44 rfl (lv_at hl 2 rfl) ?_
          refine lv_bipush (v := 116) hx hb dX3_beginWithExternals_45 (by decide) ?_
          have J_72 : ∀ (x13_f_72 : Nat → Int64), TT = m_k_X3_beginWithExternals_72 (m_k_X3_beginWithExternals_2 en ea es n_2) v1_2 x11_f_44 x13_f_72 → ∀ (H : Heap) (locs : List Loc), va_P D vwCl [(x1, .inr (8, [.ref x2, .int pn, .ref x3, .int rn, .ref x4, .ref x5, .int tn, .ref x6, .ref x7, .int en])), (x6, .inl (ty 0, 6, .inl ea)), (x7, .inl (ty 2, 6, .inl es)), (x8, .inr (5, [.ref x1, .ref x9, .ref x10, .ref x12, .ref x14, .int hn, .ref x15, .ref x16, .ref x17, .int kn, .ref x18, .ref x19, .int on, .int cu, .int pu, .int gw])), (x10, .inr (3, [.ref x11])), (x11, .inl (ty 1, 6, .inr (.inl x11_f_44))), (x12, .inr (3, [.ref x13])), (x13, .inl (ty 1, 6, .inr (.inl x13_f_72)))] H → va_D A [(x1, .inr (8, [.ref x2, .int pn, .ref x3, .int rn, .ref x4, .ref x5, .int tn, .ref x6, .ref x7, .int en])), (x6, .inl (ty 0, 6, .inl ea)), (x7, .inl (ty 2, 6, .inl es)), (x8, .inr (5, [.ref x1, .ref x9, .ref x10, .ref x12, .ref x14, .int hn, .ref x15, .ref x16, .ref x17, .int kn, .ref x18, .ref x19, .int on, .int cu, .int pu, .int gw])), (x10, .inr (3, [.ref x11])), (x11, .inl (ty 1, 6, .inr (.inl x11_f_44))), (x12, .inr (3, [.ref x13])), (x13, .inl (ty 1, 6, .inr (.inl x13_f_72)))] → va_S A s.heap H locs → ∀ ls : Array Slot, lv_has ls 3 [(0, .ref x8), (1, .int v1_2)] → W p l e (headSpec vs_k_X3_beginWithExternals { frames := 1, cells := 0, slots := 0, locals := 23 }).room s m ([.ref x8] : List Value).toArray below meth c H locs 0 0 (MQ below (va_Qv (fun u : va_W => ((u = [(x1, .inr (8, [.ref x2, .int pn, .ref x3, .int rn, .ref x4, .ref x5, .int tn, .ref x6, .ref x7, .int en])), (x6, .inl (ty 0, 6, .inl ea)), (x7, .inl (ty 2, 6, .inl es)), (x8, .inr (5, [.ref x1, .ref x9, .ref x10, .ref x12, .ref x14, .int hn, .ref x15, .ref x16, .ref x17, .int kn, .ref x18, .ref x19, .int on, .int cu, .int pu, .int gw])), (x10, .inr (3, [.ref x11])), (x11, .inl (ty 1, 6, .inr (.inl TT.1))), (x12, .inr (3, [.ref x13])), (x13, .inl (ty 1, 6, .inr (.inl TT.2)))]))) (wq_B D A) A) ([.ref x8] : List Value).toArray s 0 0 A) (F0 m 72 ls []) := by
            intro x13_f_72 hT  H locs hP hD hS ls hl
            rw [m_k_X3_beginWithExternals_72] at hT
            refine lv_iinc (v := v1_2 + 1) (lv' := [(1, .int (v1_2 + 1)), (0, .ref x8)]) hx hb dX3_beginWithExternals_72 hl (k := 1) rfl (by rfl) (by decide) rfl (fun ls hl => ?_)
            refine lv_goto (tgt := 2) hx hb dX3_beginWithExternals_75 (by decide) ?_
            exact ih_2 (v1_2 + 1) x11_f_44 x13_f_72 (wi_up hu_2 (Int32.not_le.mp c_1)) hT (wi_inc hn_2 (Int32.not_le.mp c_1)) _ _ hP hD hS _ (lv_sub hl [1, 0] rfl)
          have J_56 : ∀ (_ : Unit), TT = m_k_X3_beginWithExternals_56 en ea (m_k_X3_beginWithExternals_2 en ea es n_2) v1_2 x11_f_44 x13_f_2 → ∀ (H : Heap) (locs : List Loc), va_P D vwCl [(x1, .inr (8, [.ref x2, .int pn, .ref x3, .int rn, .ref x4, .ref x5, .int tn, .ref x6, .ref x7, .int en])), (x6, .inl (ty 0, 6, .inl ea)), (x7, .inl (ty 2, 6, .inl es)), (x8, .inr (5, [.ref x1, .ref x9, .ref x10, .ref x12, .ref x14, .int hn, .ref x15, .ref x16, .ref x17, .int kn, .ref x18, .ref x19, .int on, .int cu, .int pu, .int gw])), (x10, .inr (3, [.ref x11])), (x11, .inl (ty 1, 6, .inr (.inl x11_f_44))), (x12, .inr (3, [.ref x13])), (x13, .inl (ty 1, 6, .inr (.inl x13_f_2)))] H → va_D A [(x1, .inr (8, [.ref x2, .int pn, .ref x3, .int rn, .ref x4, .ref x5, .int tn, .ref x6, .ref x7, .int en])), (x6, .inl (ty 0, 6, .inl ea)), (x7, .inl (ty 2, 6, .inl es)), (x8, .inr (5, [.ref x1, .ref x9, .ref x10, .ref x12, .ref x14, .int hn, .ref x15, .ref x16, .ref x17, .int kn, .ref x18, .ref x19, .int on, .int cu, .int pu, .int gw])), (x10, .inr (3, [.ref x11])), (x11, .inl (ty 1, 6, .inr (.inl x11_f_44))), (x12, .inr (3, [.ref x13])), (x13, .inl (ty 1, 6, .inr (.inl x13_f_2)))] → va_S A s.heap H locs → ∀ ls : Array Slot, lv_has ls 3 [(0, .ref x8), (1, .int v1_2)] → W p l e (headSpec vs_k_X3_beginWithExternals { frames := 1, cells := 0, slots := 0, locals := 23 }).room s m ([.ref x8] : List Value).toArray below meth c H locs 0 0 (MQ below (va_Qv (fun u : va_W => ((u = [(x1, .inr (8, [.ref x2, .int pn, .ref x3, .int rn, .ref x4, .ref x5, .int tn, .ref x6, .ref x7, .int en])), (x6, .inl (ty 0, 6, .inl ea)), (x7, .inl (ty 2, 6, .inl es)), (x8, .inr (5, [.ref x1, .ref x9, .ref x10, .ref x12, .ref x14, .int hn, .ref x15, .ref x16, .ref x17, .int kn, .ref x18, .ref x19, .int on, .int cu, .int pu, .int gw])), (x10, .inr (3, [.ref x11])), (x11, .inl (ty 1, 6, .inr (.inl TT.1))), (x12, .inr (3, [.ref x13])), (x13, .inl (ty 1, 6, .inr (.inl TT.2)))]))) (wq_B D A) A) ([.ref x8] : List Value).toArray s 0 0 A) (F0 m 56 ls []) := by
            intro _ hT  H locs hP hD hS ls hl
            rw [m_k_X3_beginWithExternals_56] at hT
            refine lv_aload_n hx hb dX3_beginWithExternals_56 rfl (lv_at hl 0 rfl) ?_
            refine va_get (D := D) (ci := 5) (v := .ref x12) (C := RX3) (T := TX3) (N := 16) hx hb hts iv_k_X3_beginWithExternals_X3 hown hK hP 3 rfl rfl 3 (by decide) (hts (.fieldLink RX3 25 "AnswerFold$Grounding" "possible" "LAnswerFold$AtomSet;") (by decide +kernel)) (fun _ h9 => h9) rfl dX3_beginWithExternals_57 ?_
            refine lv_aload_n hx hb dX3_beginWithExternals_60 rfl (lv_at hl 0 rfl) ?_
            refine va_get (D := D) (ci := 5) (v := .ref x1) (C := RX3) (T := TX3) (N := 16) hx hb hts iv_k_X3_beginWithExternals_X3 hown hK hP 3 rfl rfl 0 (by decide) (hts (.fieldLink RX3 47 "AnswerFold$Grounding" "program" "LAnswerFold$Program;") (by decide +kernel)) (fun _ h9 => h9) rfl dX3_beginWithExternals_61 ?_
            refine lv_iload_n hx hb dX3_beginWithExternals_64 rfl (lv_at hl 1 rfl) ?_
            obtain ⟨t_65, ht_65⟩ : ∃ t, t = m_k_X6_externalAtom en ea v1_2 := ⟨_, rfl⟩
            rw [lE_eq ht_65] at hT
            refine wq_i (wc := [(x1, .inr (8, [.ref x2, .int pn, .ref x3, .int rn, .ref x4, .ref x5, .int tn, .ref x6, .ref x7, .int en])), (x6, .inl (ty 0, 6, .inl ea))]) (wr := [(x7, .inl (ty 2, 6, .inl es)), (x8, .inr (5, [.ref x1, .ref x9, .ref x10, .ref x12, .ref x14, .int hn, .ref x15, .ref x16, .ref x17, .int kn, .ref x18, .ref x19, .int on, .int cu, .int pu, .int gw])), (x10, .inr (3, [.ref x11])), (x11, .inl (ty 1, 6, .inr (.inl x11_f_44))), (x12, .inr (3, [.ref x13])), (x13, .inl (ty 1, 6, .inr (.inl x13_f_2)))]) (va_runV (As := [.int v1_2]) (rest := [.ref x12]) ⟨hx, hb, hml, hown, hts⟩ (k_X6_externalAtom l D ty td mi H.size x1 x2 pn x3 rn x4 x5 tn x6 x7 en ea v1_2 t_65 ht_65) (cwV 1 hts gv_k_X3_beginWithExternals_1 rfl rfl rfl (by decide +kernel) ⟨(Nat.le_of_ble_eq_true rfl), (Nat.le_of_ble_eq_true rfl)⟩) ⟨(wq_preS hP hD hK hE hS hA [0, 1] rfl (by decide) (As := .ref x1 :: [.int v1_2])).1, va_recv (q0 := 0) (ci := 8) hK hP rfl rfl, (wq_preS hP hD hK hE hS hA [0, 1] rfl (by decide) (As := .ref x1 :: [.int v1_2])).2⟩ rfl rfl hl.1 rfl (lv_room (Nat.le_of_ble_eq_true rfl)) dX3_beginWithExternals_65 ⟨(Nat.le_of_ble_eq_true rfl), (Nat.le_of_ble_eq_true rfl)⟩) hS hA hP hD [0, 1] [2, 3, 4, 5, 6, 7] rfl rfl (by decide) (by decide) (fun r u H locs hw hP hD hS => ?_)
            obtain ⟨hr0, rfl⟩ := hw
            subst r
            have hP : va_P D vwCl [(x7, .inl (ty 2, 6, .inl es)), (x8, .inr (5, [.ref x1, .ref x9, .ref x10, .ref x12, .ref x14, .int hn, .ref x15, .ref x16, .ref x17, .int kn, .ref x18, .ref x19, .int on, .int cu, .int pu, .int gw])), (x10, .inr (3, [.ref x11])), (x11, .inl (ty 1, 6, .inr (.inl x11_f_44))), (x12, .inr (3, [.ref x13])), (x13, .inl (ty 1, 6, .inr (.inl x13_f_2))), (x1, .inr (8, [.ref x2, .int pn, .ref x3, .int rn, .ref x4, .ref x5, .int tn, .ref x6, .ref x7, .int en])), (x6, .inl (ty 0, 6, .inl ea))] H := hP
            have hD : va_D A [(x7, .inl (ty 2, 6, .inl es)), (x8, .inr (5, [.ref x1, .ref x9, .ref x10, .ref x12, .ref x14, .int hn, .ref x15, .ref x16, .ref x17, .int kn, .ref x18, .ref x19, .int on, .int cu, .int pu, .int gw])), (x10, .inr (3, [.ref x11])), (x11, .inl (ty 1, 6, .inr (.inl x11_f_44))), (x12, .inr (3, [.ref x13])), (x13, .inl (ty 1, 6, .inr (.inl x13_f_2))), (x1, .inr (8, [.ref x2, .int pn, .ref x3, .int rn, .ref x4, .ref x5, .int tn, .ref x6, .ref x7, .int en])), (x6, .inl (ty 0, 6, .inl ea))] := hD
            refine W.widen (k := 0) (n := 0) (Nat.le_of_ble_eq_true rfl) (Nat.le_of_ble_eq_true rfl) ?_
            obtain ⟨t_68, ht_68⟩ : ∃ t, t = m_k_X1_add x13_f_2 t_65 := ⟨_, rfl⟩
            rw [lE_eq ht_68] at hT
            refine wq_i (wc := [(x12, .inr (3, [.ref x13])), (x13, .inl (ty 1, 6, .inr (.inl x13_f_2)))]) (wr := [(x7, .inl (ty 2, 6, .inl es)), (x8, .inr (5, [.ref x1, .ref x9, .ref x10, .ref x12, .ref x14, .int hn, .ref x15, .ref x16, .ref x17, .int kn, .ref x18, .ref x19, .int on, .int cu, .int pu, .int gw])), (x10, .inr (3, [.ref x11])), (x11, .inl (ty 1, 6, .inr (.inl x11_f_44))), (x1, .inr (8, [.ref x2, .int pn, .ref x3, .int rn, .ref x4, .ref x5, .int tn, .ref x6, .ref x7, .int en])), (x6, .inl (ty 0, 6, .inl ea))]) (va_runV (As := [.int t_65]) (rest := []) ⟨hx, hb, hml, hown, hts⟩ (k_X1_add l D ty td mi H.size x12 x13 x13_f_2 t_65 t_68 ht_68) (cwV 1 hts gv_k_X3_beginWithExternals_2 rfl rfl rfl (by decide +kernel) ⟨(Nat.le_of_ble_eq_true rfl), (Nat.le_of_ble_eq_true rfl)⟩) ⟨(wq_preS hP hD hK hE hS hA [4, 5] rfl (by decide) (As := .ref x12 :: [.int t_65])).1, va_recv (q0 := 4) (ci := 3) hK hP rfl rfl, (wq_preS hP hD hK hE hS hA [4, 5] rfl (by decide) (As := .ref x12 :: [.int t_65])).2⟩ rfl rfl hl.1 rfl (lv_room (Nat.le_of_ble_eq_true rfl)) dX3_beginWithExternals_68 ⟨(Nat.le_of_ble_eq_true rfl), (Nat.le_of_ble_eq_true rfl)⟩) hS hA hP hD [4, 5] [0, 1, 2, 3, 6, 7] rfl rfl (by decide) (by decide) (fun r u H locs hw hP hD hS => ?_)
            obtain ⟨rfl, c_8, rfl⟩ := hw
            have hP : va_P D vwCl [(x7, .inl (ty 2, 6, .inl es)), (x8, .inr (5, [.ref x1, .ref x9, .ref x10, .ref x12, .ref x14, .int hn, .ref x15, .ref x16, .ref x17, .int kn, .ref x18, .ref x19, .int on, .int cu, .int pu, .int gw])), (x10, .inr (3, [.ref x11])), (x11, .inl (ty 1, 6, .inr (.inl x11_f_44))), (x1, .inr (8, [.ref x2, .int pn, .ref x3, .int rn, .ref x4, .ref x5, .int tn, .ref x6, .ref x7, .int en])), (x6, .inl (ty 0, 6, .inl ea)), (x12, .inr (3, [.ref x13])), (x13, .inl (ty 1, 6, .inr (.inl t_68.2)))] H := hP
            have hD : va_D A [(x7, .inl (ty 2, 6, .inl es)), (x8, .inr (5, [.ref x1, .ref x9, .ref x10, .ref x12, .ref x14, .int hn, .ref x15, .ref x16, .ref x17, .int kn, .ref x18, .ref x19, .int on, .int cu, .int pu, .int gw])), (x10, .inr (3, [.ref x11])), (x11, .inl (ty 1, 6, .inr (.inl x11_f_44))), (x1, .inr (8, [.ref x2, .int pn, .ref x3, .int rn, .ref x4, .ref x5, .int tn, .ref x6, .ref x7, .int en])), (x6, .inl (ty 0, 6, .inl ea)), (x12, .inr (3, [.ref x13])), (x13, .inl (ty 1, 6, .inr (.inl t_68.2)))] := hD
            refine W.widen (k := 0) (n := 0) (Nat.le_of_ble_eq_true rfl) (Nat.le_of_ble_eq_true rfl) ?_
            refine lv_pop hx hb dX3_beginWithExternals_71 rfl ?_
            exact J_72 t_68.2 hT _ _ (hP.sub [4, 5, 0, 1, 2, 3, 6, 7] rfl) (hD.sub [4, 5, 0, 1, 2, 3, 6, 7] (by decide) rfl) hS _ (lv_sub hl [0, 1] rfl)
          refine lv_icmp_eq (tgt := 56) hx hb dX3_beginWithExternals_47 (by decide) (fun c_9 => ?_) (fun c_9 => ?_)
          · rw [if_pos c_9] at hT
            exact J_56 () hT _ _ hP hD hS _ (lv_sub hl [0, 1] rfl)
          · rw [if_neg c_9] at hT
            refine lv_iload_n hx hb dX3_beginWithExternals_50 rfl (lv_at hl 2 rfl) ?_
            refine lv_bipush (v := 117) hx hb dX3_beginWithExternals_51 (by decide) ?_
            refine lv_icmp_ne (tgt := 72) hx hb dX3_beginWithExternals_53 (by decide) (fun c_10 => ?_) (fun c_10 => ?_)
            · rw [if_neg c_10] at hT
              exact J_72 x13_f_2 hT _ _ hP hD hS _ (lv_sub hl [0, 1] rfl)
            · rw [if_pos c_10] at hT
              exact J_56 () hT _ _ hP hD hS _ (lv_sub hl [0, 1] rfl)
        refine lv_icmp_ne (tgt := 44) hx hb dX3_beginWithExternals_25 (by decide) (fun c_11 => ?_) (fun c_11 => ?_)
        · rw [if_neg c_11] at hT
          exact J_44 x11_f_2 hT _ _ (hP.sub [6, 0, 7, 1, 2, 3, 4, 5] rfl) (hD.sub [6, 0, 7, 1, 2, 3, 4, 5] (by decide) rfl) hS _ (lv_sub hl [1, 2, 0] rfl)
        · rw [if_pos c_11] at hT
          refine lv_aload_n hx hb dX3_beginWithExternals_28 rfl (lv_at hl 1 rfl) ?_
          refine va_get (D := D) (ci := 5) (v := .ref x10) (C := RX3) (T := TX3) (N := 16) hx hb hts iv_k_X3_beginWithExternals_X3 hown hK hP 1 rfl rfl 2 (by decide) (hts (.fieldLink RX3 21 "AnswerFold$Grounding" "sure" "LAnswerFold$AtomSet;") (by decide +kernel)) (fun _ h9 => h9) rfl dX3_beginWithExternals_29 ?_
          refine lv_aload_n hx hb dX3_beginWithExternals_32 rfl (lv_at hl 1 rfl) ?_
          refine va_get (D := D) (ci := 5) (v := .ref x1) (C := RX3) (T := TX3) (N := 16) hx hb hts iv_k_X3_beginWithExternals_X3 hown hK hP 1 rfl rfl 0 (by decide) (hts (.fieldLink RX3 47 "AnswerFold$Grounding" "program" "LAnswerFold$Program;") (by decide +kernel)) (fun _ h9 => h9) rfl dX3_beginWithExternals_33 ?_
          refine lv_iload_n hx hb dX3_beginWithExternals_36 rfl (lv_at hl 2 rfl) ?_
          obtain ⟨t_37, ht_37⟩ : ∃ t, t = m_k_X6_externalAtom en ea v1_2 := ⟨_, rfl⟩
          rw [lE_eq ht_37] at hT
          refine wq_i (wc := [(x1, .inr (8, [.ref x2, .int pn, .ref x3, .int rn, .ref x4, .ref x5, .int tn, .ref x6, .ref x7, .int en])), (x6, .inl (ty 0, 6, .inl ea))]) (wr := [(x8, .inr (5, [.ref x1, .ref x9, .ref x10, .ref x12, .ref x14, .int hn, .ref x15, .ref x16, .ref x17, .int kn, .ref x18, .ref x19, .int on, .int cu, .int pu, .int gw])), (x10, .inr (3, [.ref x11])), (x11, .inl (ty 1, 6, .inr (.inl x11_f_2))), (x12, .inr (3, [.ref x13])), (x13, .inl (ty 1, 6, .inr (.inl x13_f_2))), (x7, .inl (ty 2, 6, .inl es))]) (va_runV (As := [.int v1_2]) (rest := [.ref x10]) ⟨hx, hb, hml, hown, hts⟩ (k_X6_externalAtom l D ty td mi H.size x1 x2 pn x3 rn x4 x5 tn x6 x7 en ea v1_2 t_37 ht_37) (cwV 1 hts gv_k_X3_beginWithExternals_3 rfl rfl rfl (by decide +kernel) ⟨(Nat.le_of_ble_eq_true rfl), (Nat.le_of_ble_eq_true rfl)⟩) ⟨(wq_preS hP hD hK hE hS hA [6, 0] rfl (by decide) (As := .ref x1 :: [.int v1_2])).1, va_recv (q0 := 6) (ci := 8) hK hP rfl rfl, (wq_preS hP hD hK hE hS hA [6, 0] rfl (by decide) (As := .ref x1 :: [.int v1_2])).2⟩ rfl rfl hl.1 rfl (lv_room (Nat.le_of_ble_eq_true rfl)) dX3_beginWithExternals_37 ⟨(Nat.le_of_ble_eq_true rfl), (Nat.le_of_ble_eq_true rfl)⟩) hS hA hP hD [6, 0] [1, 2, 3, 4, 5, 7] rfl rfl (by decide) (by decide) (fun r u H locs hw hP hD hS => ?_)
          obtain ⟨hr0, rfl⟩ := hw
          subst r
          have hP : va_P D vwCl [(x8, .inr (5, [.ref x1, .ref x9, .ref x10, .ref x12, .ref x14, .int hn, .ref x15, .ref x16, .ref x17, .int kn, .ref x18, .ref x19, .int on, .int cu, .int pu, .int gw])), (x10, .inr (3, [.ref x11])), (x11, .inl (ty 1, 6, .inr (.inl x11_f_2))), (x12, .inr (3, [.ref x13])), (x13, .inl (ty 1, 6, .inr (.inl x13_f_2))), (x7, .inl (ty 2, 6, .inl es)), (x1, .inr (8, [.ref x2, .int pn, .ref x3, .int rn, .ref x4, .ref x5, .int tn, .ref x6, .ref x7, .int en])), (x6, .inl (ty 0, 6, .inl ea))] H := hP
          have hD : va_D A [(x8, .inr (5, [.ref x1, .ref x9, .ref x10, .ref x12, .ref x14, .int hn, .ref x15, .ref x16, .ref x17, .int kn, .ref x18, .ref x19, .int on, .int cu, .int pu, .int gw])), (x10, .inr (3, [.ref x11])), (x11, .inl (ty 1, 6, .inr (.inl x11_f_2))), (x12, .inr (3, [.ref x13])), (x13, .inl (ty 1, 6, .inr (.inl x13_f_2))), (x7, .inl (ty 2, 6, .inl es)), (x1, .inr (8, [.ref x2, .int pn, .ref x3, .int rn, .ref x4, .ref x5, .int tn, .ref x6, .ref x7, .int en])), (x6, .inl (ty 0, 6, .inl ea))] := hD
          refine W.widen (k := 0) (n := 0) (Nat.le_of_ble_eq_true rfl) (Nat.le_of_ble_eq_true rfl) ?_
          obtain ⟨t_40, ht_40⟩ : ∃ t, t = m_k_X1_add x11_f_2 t_37 := ⟨_, rfl⟩
          rw [lE_eq ht_40] at hT
          refine wq_i (wc := [(x10, .inr (3, [.ref x11])), (x11, .inl (ty 1, 6, .inr (.inl x11_f_2)))]) (wr := [(x8, .inr (5, [.ref x1, .ref x9, .ref x10, .ref x12, .ref x14, .int hn, .ref x15, .ref x16, .ref x17, .int kn, .ref x18, .ref x19, .int on, .int cu, .int pu, .int gw])), (x12, .inr (3, [.ref x13])), (x13, .inl (ty 1, 6, .inr (.inl x13_f_2))), (x7, .inl (ty 2, 6, .inl es)), (x1, .inr (8, [.ref x2, .int pn, .ref x3, .int rn, .ref x4, .ref x5, .int tn, .ref x6, .ref x7, .int en])), (x6, .inl (ty 0, 6, .inl ea))]) (va_runV (As := [.int t_37]) (rest := []) ⟨hx, hb, hml, hown, hts⟩ (k_X1_add l D ty td mi H.size x10 x11 x11_f_2 t_37 t_40 ht_40) (cwV 1 hts gv_k_X3_beginWithExternals_4 rfl rfl rfl (by decide +kernel) ⟨(Nat.le_of_ble_eq_true rfl), (Nat.le_of_ble_eq_true rfl)⟩) ⟨(wq_preS hP hD hK hE hS hA [1, 2] rfl (by decide) (As := .ref x10 :: [.int t_37])).1, va_recv (q0 := 1) (ci := 3) hK hP rfl rfl, (wq_preS hP hD hK hE hS hA [1, 2] rfl (by decide) (As := .ref x10 :: [.int t_37])).2⟩ rfl rfl hl.1 rfl (lv_room (Nat.le_of_ble_eq_true rfl)) dX3_beginWithExternals_40 ⟨(Nat.le_of_ble_eq_true rfl), (Nat.le_of_ble_eq_true rfl)⟩) hS hA hP hD [1, 2] [0, 3, 4, 5, 6, 7] rfl rfl (by decide) (by decide) (fun r u H locs hw hP hD hS => ?_)
          obtain ⟨rfl, c_16, rfl⟩ := hw
          have hP : va_P D vwCl [(x8, .inr (5, [.ref x1, .ref x9, .ref x10, .ref x12, .ref x14, .int hn, .ref x15, .ref x16, .ref x17, .int kn, .ref x18, .ref x19, .int on, .int cu, .int pu, .int gw])), (x12, .inr (3, [.ref x13])), (x13, .inl (ty 1, 6, .inr (.inl x13_f_2))), (x7, .inl (ty 2, 6, .inl es)), (x1, .inr (8, [.ref x2, .int pn, .ref x3, .int rn, .ref x4, .ref x5, .int tn, .ref x6, .ref x7, .int en])), (x6, .inl (ty 0, 6, .inl ea)), (x10, .inr (3, [.ref x11])), (x11, .inl (ty 1, 6, .inr (.inl t_40.2)))] H := hP
          have hD : va_D A [(x8, .inr (5, [.ref x1, .ref x9, .ref x10, .ref x12, .ref x14, .int hn, .ref x15, .ref x16, .ref x17, .int kn, .ref x18, .ref x19, .int on, .int cu, .int pu, .int gw])), (x12, .inr (3, [.ref x13])), (x13, .inl (ty 1, 6, .inr (.inl x13_f_2))), (x7, .inl (ty 2, 6, .inl es)), (x1, .inr (8, [.ref x2, .int pn, .ref x3, .int rn, .ref x4, .ref x5, .int tn, .ref x6, .ref x7, .int en])), (x6, .inl (ty 0, 6, .inl ea)), (x10, .inr (3, [.ref x11])), (x11, .inl (ty 1, 6, .inr (.inl t_40.2)))] := hD
          refine W.widen (k := 0) (n := 0) (Nat.le_of_ble_eq_true rfl) (Nat.le_of_ble_eq_true rfl) ?_
          refine lv_pop hx hb dX3_beginWithExternals_43 rfl ?_
          exact J_44 t_40.2 hT _ _ (hP.sub [4, 5, 3, 0, 6, 7, 1, 2] rfl) (hD.sub [4, 5, 3, 0, 6, 7, 1, 2] (by decide) rfl) hS _ (lv_sub hl [1, 2, 0] rfl)
  exact L_2 wF 0 su po (wF_up 0) hT (by decide) _ _ hP hD hS _ (lv_sub hl [1, 0] rfl)
theorem dX3_numberOpenAtoms_0 : decode cX3_numberOpenAtoms 0 = .ok (.aload_n 0, 1) := by decide +kernel
theorem dX3_numberOpenAtoms_1 : decode cX3_numberOpenAtoms 1 = .ok (.iconst 0, 1) := by decide +kernel
theorem dX3_numberOpenAtoms_2 : decode cX3_numberOpenAtoms 2 = .ok (.putfield 216, 3) := by decide +kernel
theorem dX3_numberOpenAtoms_5 : decode cX3_numberOpenAtoms 5 = .ok (.iconst 0, 1) := by decide +kernel
theorem dX3_numberOpenAtoms_6 : decode cX3_numberOpenAtoms 6 = .ok (.istore_n 1, 1) := by decide +kernel
theorem dX3_numberOpenAtoms_7 : decode cX3_numberOpenAtoms 7 = .ok (.iload_n 1, 1) := by decide +kernel
theorem dX3_numberOpenAtoms_8 : decode cX3_numberOpenAtoms 8 = .ok (.sipush 384, 3) := by decide +kernel
theorem dX3_numberOpenAtoms_11 : decode cX3_numberOpenAtoms 11 = .ok (.if_icmp .ge 78, 3) := by decide +kernel
theorem dX3_numberOpenAtoms_14 : decode cX3_numberOpenAtoms 14 = .ok (.aload_n 0, 1) := by decide +kernel
theorem dX3_numberOpenAtoms_15 : decode cX3_numberOpenAtoms 15 = .ok (.getfield 44, 3) := by decide +kernel
theorem dX3_numberOpenAtoms_18 : decode cX3_numberOpenAtoms 18 = .ok (.iload_n 1, 1) := by decide +kernel
theorem dX3_numberOpenAtoms_19 : decode cX3_numberOpenAtoms 19 = .ok (.iconst (-1), 1) := by decide +kernel
theorem dX3_numberOpenAtoms_20 : decode cX3_numberOpenAtoms 20 = .ok (.iastore, 1) := by decide +kernel
theorem dX3_numberOpenAtoms_21 : decode cX3_numberOpenAtoms 21 = .ok (.aload_n 0, 1) := by decide +kernel
theorem dX3_numberOpenAtoms_22 : decode cX3_numberOpenAtoms 22 = .ok (.getfield 25, 3) := by decide +kernel
theorem dX3_numberOpenAtoms_25 : decode cX3_numberOpenAtoms 25 = .ok (.iload_n 1, 1) := by decide +kernel
theorem dX3_numberOpenAtoms_26 : decode cX3_numberOpenAtoms 26 = .ok (.invokevirtual 179, 3) := by decide +kernel
theorem dX3_numberOpenAtoms_29 : decode cX3_numberOpenAtoms 29 = .ok (.ifCond .eq 54, 3) := by decide +kernel
theorem dX3_numberOpenAtoms_32 : decode cX3_numberOpenAtoms 32 = .ok (.aload_n 0, 1) := by decide +kernel
theorem dX3_numberOpenAtoms_33 : decode cX3_numberOpenAtoms 33 = .ok (.getfield 21, 3) := by decide +kernel
theorem dX3_numberOpenAtoms_36 : decode cX3_numberOpenAtoms 36 = .ok (.iload_n 1, 1) := by decide +kernel
theorem dX3_numberOpenAtoms_37 : decode cX3_numberOpenAtoms 37 = .ok (.invokevirtual 179, 3) := by decide +kernel
theorem dX3_numberOpenAtoms_40 : decode cX3_numberOpenAtoms 40 = .ok (.ifCond .ne 43, 3) := by decide +kernel
theorem dX3_numberOpenAtoms_43 : decode cX3_numberOpenAtoms 43 = .ok (.aload_n 0, 1) := by decide +kernel
theorem dX3_numberOpenAtoms_44 : decode cX3_numberOpenAtoms 44 = .ok (.getfield 216, 3) := by decide +kernel
theorem dX3_numberOpenAtoms_47 : decode cX3_numberOpenAtoms 47 = .ok (.sipush 384, 3) := by decide +kernel
theorem dX3_numberOpenAtoms_50 : decode cX3_numberOpenAtoms 50 = .ok (.if_icmp .ge 33, 3) := by decide +kernel
theorem dX3_numberOpenAtoms_53 : decode cX3_numberOpenAtoms 53 = .ok (.aload_n 0, 1) := by decide +kernel
theorem dX3_numberOpenAtoms_54 : decode cX3_numberOpenAtoms 54 = .ok (.getfield 44, 3) := by decide +kernel
theorem dX3_numberOpenAtoms_57 : decode cX3_numberOpenAtoms 57 = .ok (.iload_n 1, 1) := by decide +kernel
theorem dX3_numberOpenAtoms_58 : decode cX3_numberOpenAtoms 58 = .ok (.aload_n 0, 1) := by decide +kernel
theorem dX3_numberOpenAtoms_59 : decode cX3_numberOpenAtoms 59 = .ok (.getfield 216, 3) := by decide +kernel
theorem dX3_numberOpenAtoms_62 : decode cX3_numberOpenAtoms 62 = .ok (.iastore, 1) := by decide +kernel
theorem dX3_numberOpenAtoms_63 : decode cX3_numberOpenAtoms 63 = .ok (.aload_n 0, 1) := by decide +kernel
theorem dX3_numberOpenAtoms_64 : decode cX3_numberOpenAtoms 64 = .ok (.getfield 41, 3) := by decide +kernel
theorem dX3_numberOpenAtoms_67 : decode cX3_numberOpenAtoms 67 = .ok (.aload_n 0, 1) := by decide +kernel
theorem dX3_numberOpenAtoms_68 : decode cX3_numberOpenAtoms 68 = .ok (.getfield 216, 3) := by decide +kernel
theorem dX3_numberOpenAtoms_71 : decode cX3_numberOpenAtoms 71 = .ok (.iload_n 1, 1) := by decide +kernel
theorem dX3_numberOpenAtoms_72 : decode cX3_numberOpenAtoms 72 = .ok (.iastore, 1) := by decide +kernel
theorem dX3_numberOpenAtoms_73 : decode cX3_numberOpenAtoms 73 = .ok (.aload_n 0, 1) := by decide +kernel
theorem dX3_numberOpenAtoms_74 : decode cX3_numberOpenAtoms 74 = .ok (.dup, 1) := by decide +kernel
theorem dX3_numberOpenAtoms_75 : decode cX3_numberOpenAtoms 75 = .ok (.getfield 216, 3) := by decide +kernel
theorem dX3_numberOpenAtoms_78 : decode cX3_numberOpenAtoms 78 = .ok (.iconst 1, 1) := by decide +kernel
theorem dX3_numberOpenAtoms_79 : decode cX3_numberOpenAtoms 79 = .ok (.iadd, 1) := by decide +kernel
theorem dX3_numberOpenAtoms_80 : decode cX3_numberOpenAtoms 80 = .ok (.putfield 216, 3) := by decide +kernel
theorem dX3_numberOpenAtoms_83 : decode cX3_numberOpenAtoms 83 = .ok (.iinc 1 1, 3) := by decide +kernel
theorem dX3_numberOpenAtoms_86 : decode cX3_numberOpenAtoms 86 = .ok (.goto (-79), 3) := by decide +kernel
theorem dX3_numberOpenAtoms_89 : decode cX3_numberOpenAtoms 89 = .ok (.return_, 1) := by decide +kernel
abbrev r_k_X3_numberOpenAtoms : Type := (Nat → Int32) × (Nat → Int32) × Int32
def m_k_X3_numberOpenAtoms_83 (rec_7 : Int32 → (Nat → Int32) → (Nat → Int32) → Int32 → r_k_X3_numberOpenAtoms) (v1_7 : Int32) (x18_f_83 : Nat → Int32) (x19_f_83 : Nat → Int32) (x8_12_83 : Int32) : r_k_X3_numberOpenAtoms :=
  rec_7 (v1_7 + 1) x18_f_83 x19_f_83 x8_12_83
def m_k_X3_numberOpenAtoms_7s (su : Nat → Int64) (po : Nat → Int64) (rec_7 : Int32 → (Nat → Int32) → (Nat → Int32) → Int32 → r_k_X3_numberOpenAtoms) (v1_7 : Int32) (x18_f_7 : Nat → Int32) (x19_f_7 : Nat → Int32) (x8_12_7 : Int32) : r_k_X3_numberOpenAtoms :=
  if 384 ≤ v1_7 then
    (x18_f_7, x19_f_7, x8_12_7)
  else
    lE (m_k_X1_contains po v1_7) (fun t_26 =>
      if t_26 = 0 then
        m_k_X3_numberOpenAtoms_83 rec_7 v1_7 x18_f_7 (upd x19_f_7 v1_7.toNatClampNeg (-1)) x8_12_7
      else
        lE (m_k_X1_contains su v1_7) (fun t_37 =>
          if t_37 = 0 then
            if 384 ≤ x8_12_7 then
              m_k_X3_numberOpenAtoms_83 rec_7 v1_7 x18_f_7 (upd x19_f_7 v1_7.toNatClampNeg (-1)) x8_12_7
            else
              m_k_X3_numberOpenAtoms_83 rec_7 v1_7 (upd x18_f_7 x8_12_7.toNatClampNeg v1_7) (upd (upd x19_f_7 v1_7.toNatClampNeg (-1)) v1_7.toNatClampNeg x8_12_7) (x8_12_7 + 1)
          else
            m_k_X3_numberOpenAtoms_83 rec_7 v1_7 x18_f_7 (upd x19_f_7 v1_7.toNatClampNeg (-1)) x8_12_7))
def m_k_X3_numberOpenAtoms_7 (su : Nat → Int64) (po : Nat → Int64) : Nat → Int32 → (Nat → Int32) → (Nat → Int32) → Int32 → r_k_X3_numberOpenAtoms
  | 0, _, _, _, _ => ((fun _ => 0), (fun _ => 0), 0)
  | n + 1, v1_7, x18_f_7, x19_f_7, x8_12_7 => m_k_X3_numberOpenAtoms_7s su po (fun v1_7 x18_f_7 x19_f_7 x8_12_7 => m_k_X3_numberOpenAtoms_7 su po n v1_7 x18_f_7 x19_f_7 x8_12_7) v1_7 x18_f_7 x19_f_7 x8_12_7
theorem m_k_X3_numberOpenAtoms_7_succ (su : Nat → Int64) (po : Nat → Int64) (n : Nat) (v1_7 : Int32) (x18_f_7 : Nat → Int32) (x19_f_7 : Nat → Int32) (x8_12_7 : Int32) : m_k_X3_numberOpenAtoms_7 su po (n + 1) v1_7 x18_f_7 x19_f_7 x8_12_7 = m_k_X3_numberOpenAtoms_7s su po (m_k_X3_numberOpenAtoms_7 su po n) v1_7 x18_f_7 x19_f_7 x8_12_7 := rfl
def m_k_X3_numberOpenAtoms (su : Nat → Int64) (po : Nat → Int64) (oa : Nat → Int32) (ob : Nat → Int32) : r_k_X3_numberOpenAtoms :=
  m_k_X3_numberOpenAtoms_7 su po wF 0 oa ob 0
def vs_k_X3_numberOpenAtoms : List Cond := .code yX3_numberOpenAtoms cX3_numberOpenAtoms 2 none :: ([.fieldLink RX3 216 "AnswerFold$Grounding" "openCount" "I", .fieldLink RX3 44 "AnswerFold$Grounding" "openNumbers" "[I", .fieldLink RX3 25 "AnswerFold$Grounding" "possible" "LAnswerFold$AtomSet;", .methodLink RX3 179 yX1_contains, .instanceMethod yX1_contains, .selects RX1 yX1_contains yX1_contains, .initialized RX1, .fieldLink RX3 21 "AnswerFold$Grounding" "sure" "LAnswerFold$AtomSet;", .fieldLink RX3 41 "AnswerFold$Grounding" "openAtoms" "[I"] ++ (u_ws RX3 TX3 16 ++ (vs_k_X1_contains)))
theorem iv_k_X3_numberOpenAtoms_X3 : ∀ w ∈ u_ws RX3 TX3 16, w ∈ vs_k_X3_numberOpenAtoms := (fun _ h => List.mem_cons_of_mem _ (List.mem_append_right _ (List.mem_append_left _ h)))
set_option maxRecDepth 20000 in
theorem gv_k_X3_numberOpenAtoms_0 : GoodIn vs_k_X3_numberOpenAtoms (wsV RX3 179 RX1 yX1_contains vs_k_X1_contains) := goodIn_app (goodIn_sub (by decide +kernel) (by decide +kernel)) (goodIn_sub (fun _ h => List.mem_cons_of_mem _ (List.mem_append_right _ (List.mem_append_right _ (h)))) (by decide +kernel))
set_option maxRecDepth 20000 in
theorem gv_k_X3_numberOpenAtoms_1 : GoodIn vs_k_X3_numberOpenAtoms (wsV RX3 179 RX1 yX1_contains vs_k_X1_contains) := goodIn_app (goodIn_sub (by decide +kernel) (by decide +kernel)) (goodIn_sub (fun _ h => List.mem_cons_of_mem _ (List.mem_append_right _ (List.mem_append_right _ (h)))) (by decide +kernel))
theorem om_k_X3_numberOpenAtoms_0 (x8_12_83 : Int32) (v1_7 : Int32) (x8_12_7 : Int32) (hn_7 : 0 ≤ v1_7.toInt) (hw0_7 : 0 ≤ (x8_12_7 : Int32).toInt) (c_1 : ¬ (384 ≤ v1_7)) (hw0_83 : 0 ≤ (x8_12_83 : Int32).toInt) : 0 ≤ (x8_12_83 : Int32).toInt := by
  have f_0 := hn_7
  have f_1 := hw0_7
  have f_2 := Int32.lt_iff_toInt_lt.mp (Int32.not_le.mp c_1)
  have f_3 := hw0_83
  have nl_384 : (384 : Int32).toInt = 384 := rfl
  have r_x8_12_83 := wi_rng x8_12_83
  omega
theorem om_k_X3_numberOpenAtoms_1 (x8_12_7 : Int32) (v1_7 : Int32) (t_26 : r_k_X1_contains) (hn_7 : 0 ≤ v1_7.toInt) (hw0_7 : 0 ≤ (x8_12_7 : Int32).toInt) (c_1 : ¬ (384 ≤ v1_7)) (c_5 : t_26 = 0) : 0 ≤ (x8_12_7 : Int32).toInt := by
  have f_0 := hn_7
  have f_1 := hw0_7
  have f_2 := Int32.lt_iff_toInt_lt.mp (Int32.not_le.mp c_1)
  have f_3 := congrArg Int32.toInt c_5
  have nl_0 : (0 : Int32).toInt = 0 := rfl
  have nl_384 : (384 : Int32).toInt = 384 := rfl
  have r_x8_12_7 := wi_rng x8_12_7
  omega
theorem om_k_X3_numberOpenAtoms_2 (x8_12_7 : Int32) (v1_7 : Int32) (t_26 : r_k_X1_contains) (t_37 : r_k_X1_contains) (hn_7 : 0 ≤ v1_7.toInt) (hw0_7 : 0 ≤ (x8_12_7 : Int32).toInt) (c_1 : ¬ (384 ≤ v1_7)) (c_5 : ¬ (t_26 = 0)) (c_9 : ¬ (t_37 = 0)) : 0 ≤ (x8_12_7 : Int32).toInt := by
  have f_0 := hn_7
  have f_1 := hw0_7
  have f_2 := Int32.lt_iff_toInt_lt.mp (Int32.not_le.mp c_1)
  have f_3 : ¬ (t_26 : Int32).toInt = (0 : Int32).toInt := fun h => c_5 (Int32.toInt_inj.mp h)
  have f_4 : ¬ (t_37 : Int32).toInt = (0 : Int32).toInt := fun h => c_9 (Int32.toInt_inj.mp h)
  have nl_0 : (0 : Int32).toInt = 0 := rfl
  have nl_384 : (384 : Int32).toInt = 384 := rfl
  have r_x8_12_7 := wi_rng x8_12_7
  omega
theorem om_k_X3_numberOpenAtoms_3 (x8_12_7 : Int32) (v1_7 : Int32) (t_26 : r_k_X1_contains) (t_37 : r_k_X1_contains) (hn_7 : 0 ≤ v1_7.toInt) (hw0_7 : 0 ≤ (x8_12_7 : Int32).toInt) (c_1 : ¬ (384 ≤ v1_7)) (c_5 : ¬ (t_26 = 0)) (c_9 : t_37 = 0) (c_10 : 384 ≤ x8_12_7) : 0 ≤ (x8_12_7 : Int32).toInt := by
  have f_0 := hn_7
  have f_1 := hw0_7
  have f_2 := Int32.lt_iff_toInt_lt.mp (Int32.not_le.mp c_1)
  have f_3 : ¬ (t_26 : Int32).toInt = (0 : Int32).toInt := fun h => c_5 (Int32.toInt_inj.mp h)
  have f_4 := congrArg Int32.toInt c_9
  have f_5 := Int32.le_iff_toInt_le.mp (c_10)
  have nl_0 : (0 : Int32).toInt = 0 := rfl
  have nl_384 : (384 : Int32).toInt = 384 := rfl
  have r_x8_12_7 := wi_rng x8_12_7
  omega
theorem om_k_X3_numberOpenAtoms_4 (x8_12_7 : Int32) (v1_7 : Int32) (t_26 : r_k_X1_contains) (t_37 : r_k_X1_contains) (hn_7 : 0 ≤ v1_7.toInt) (hw0_7 : 0 ≤ (x8_12_7 : Int32).toInt) (c_1 : ¬ (384 ≤ v1_7)) (c_5 : ¬ (t_26 = 0)) (c_9 : t_37 = 0) (c_10 : ¬ (384 ≤ x8_12_7)) : vp_in (x8_12_7) 384 := by
  have f_0 := hn_7
  have f_1 := hw0_7
  have f_2 := Int32.lt_iff_toInt_lt.mp (Int32.not_le.mp c_1)
  have f_3 : ¬ (t_26 : Int32).toInt = (0 : Int32).toInt := fun h => c_5 (Int32.toInt_inj.mp h)
  have f_4 := congrArg Int32.toInt c_9
  have f_5 := Int32.lt_iff_toInt_lt.mp (Int32.not_le.mp c_10)
  have nl_0 : (0 : Int32).toInt = 0 := rfl
  have nl_384 : (384 : Int32).toInt = 384 := rfl
  have r_x8_12_7 := wi_rng x8_12_7
  exact wi_in (by omega) (by omega)
theorem om_k_X3_numberOpenAtoms_5 (x8_12_7 : Int32) (v1_7 : Int32) (t_26 : r_k_X1_contains) (t_37 : r_k_X1_contains) (hn_7 : 0 ≤ v1_7.toInt) (hw0_7 : 0 ≤ (x8_12_7 : Int32).toInt) (c_1 : ¬ (384 ≤ v1_7)) (c_5 : ¬ (t_26 = 0)) (c_9 : t_37 = 0) (c_10 : ¬ (384 ≤ x8_12_7)) : 0 ≤ (x8_12_7 + 1 : Int32).toInt := by
  have f_0 := hn_7
  have f_1 := hw0_7
  have f_2 := Int32.lt_iff_toInt_lt.mp (Int32.not_le.mp c_1)
  have f_3 : ¬ (t_26 : Int32).toInt = (0 : Int32).toInt := fun h => c_5 (Int32.toInt_inj.mp h)
  have f_4 := congrArg Int32.toInt c_9
  have f_5 := Int32.lt_iff_toInt_lt.mp (Int32.not_le.mp c_10)
  have nl_0 : (0 : Int32).toInt = 0 := rfl
  have nl_1 : (1 : Int32).toInt = 1 := rfl
  have nl_384 : (384 : Int32).toInt = 384 := rfl
  have r_x8_12_7 := wi_rng x8_12_7
  have q_1 : (x8_12_7 + 1).toInt = (x8_12_7 : Int32).toInt + (1 : Int32).toInt := wi_add (by omega) (by omega)
  omega
theorem om_k_X3_numberOpenAtoms_6 : 0 ≤ (0 : Int32).toInt := by
  have nl_0 : (0 : Int32).toInt = 0 := rfl
  omega
set_option maxHeartbeats 4000000 in
set_option maxRecDepth 100000 in
theorem k_X3_numberOpenAtoms (l : Launch) (D : va_G) (ty : Nat → ClassId) (td mi sz : Nat) (x8 : Nat) (x1 : Nat) (x9 : Nat) (x10 : Nat) (x12 : Nat) (x14 : Nat) (hn : Int32) (x15 : Nat) (x16 : Nat) (x17 : Nat) (kn : Int32) (x18 : Nat) (x19 : Nat) (on : Int32) (cu : Int32) (pu : Int32) (gw : Int32) (x11 : Nat) (su : Nat → Int64) (x13 : Nat) (po : Nat → Int64) (oa : Nat → Int32) (ob : Nat → Int32) (TT : r_k_X3_numberOpenAtoms) (hTT : TT = m_k_X3_numberOpenAtoms su po oa ob) : Met l yX3_numberOpenAtoms vs_k_X3_numberOpenAtoms { frames := 1, cells := 0, slots := 0, locals := 21 } (va_Pc [.ref x8] (wq_P D ty td mi [(x8, .inr (5, [.ref x1, .ref x9, .ref x10, .ref x12, .ref x14, .int hn, .ref x15, .ref x16, .ref x17, .int kn, .ref x18, .ref x19, .int on, .int cu, .int pu, .int gw])), (x10, .inr (3, [.ref x11])), (x11, .inl (ty 1, 6, .inr (.inl su))), (x12, .inr (3, [.ref x13])), (x13, .inl (ty 1, 6, .inr (.inl po))), (x18, .inl (ty 0, 384, .inl oa)), (x19, .inl (ty 0, 384, .inl ob))] sz)) (va_Qv (fun u : va_W => ((u = [(x8, .inr (5, [.ref x1, .ref x9, .ref x10, .ref x12, .ref x14, .int hn, .ref x15, .ref x16, .ref x17, .int kn, .ref x18, .ref x19, .int TT.2.2, .int cu, .int pu, .int gw])), (x10, .inr (3, [.ref x11])), (x11, .inl (ty 1, 6, .inr (.inl su))), (x12, .inr (3, [.ref x13])), (x13, .inl (ty 1, 6, .inr (.inl po))), (x18, .inl (ty 0, 384, .inl TT.1)), (x19, .inl (ty 0, 384, .inl TT.2.1))]))) (wq_B D (va_A [(x8, .inr (5, [.ref x1, .ref x9, .ref x10, .ref x12, .ref x14, .int hn, .ref x15, .ref x16, .ref x17, .int kn, .ref x18, .ref x19, .int on, .int cu, .int pu, .int gw])), (x10, .inr (3, [.ref x11])), (x11, .inl (ty 1, 6, .inr (.inl su))), (x12, .inr (3, [.ref x13])), (x13, .inl (ty 1, 6, .inr (.inl po))), (x18, .inl (ty 0, 384, .inl oa)), (x19, .inl (ty 0, 384, .inl ob))] sz)) (va_A [(x8, .inr (5, [.ref x1, .ref x9, .ref x10, .ref x12, .ref x14, .int hn, .ref x15, .ref x16, .ref x17, .int kn, .ref x18, .ref x19, .int on, .int cu, .int pu, .int gw])), (x10, .inr (3, [.ref x11])), (x11, .inl (ty 1, 6, .inr (.inl su))), (x12, .inr (3, [.ref x13])), (x13, .inl (ty 1, 6, .inr (.inl po))), (x18, .inl (ty 0, 384, .inl oa)), (x19, .inl (ty 0, 384, .inl ob))] sz)) 0 0 (va_A [(x8, .inr (5, [.ref x1, .ref x9, .ref x10, .ref x12, .ref x14, .int hn, .ref x15, .ref x16, .ref x17, .int kn, .ref x18, .ref x19, .int on, .int cu, .int pu, .int gw])), (x10, .inr (3, [.ref x11])), (x11, .inl (ty 1, 6, .inr (.inl su))), (x12, .inr (3, [.ref x13])), (x13, .inl (ty 1, 6, .inr (.inl po))), (x18, .inl (ty 0, 384, .inl oa)), (x19, .inl (ty 0, 384, .inl ob))] sz) := by
  refine Met.ofW (cc := cX3_numberOpenAtoms) (maxL := 2) (ret := none) (by decide) rfl ?_
  intro p e s m args below meth c s₁ B hml hv
  obtain ⟨rfl, hsz, hP, hK, hD0, hE⟩ := hv
  have hx := B.exec
  have hb := B.bytes
  have hr := B.returns
  have hts := atoms_spec (ws := vs_k_X3_numberOpenAtoms) B.pre
  have hown : s.vm.findClass RX3 = some m.cls := findClass_of_methodNamed B.named
  have hlocks := B.notSynchronized
  subst hsz
  have hD := hD0.self (sz := s.heap.size)
  generalize hAe : va_A [(x8, .inr (5, [.ref x1, .ref x9, .ref x10, .ref x12, .ref x14, .int hn, .ref x15, .ref x16, .ref x17, .int kn, .ref x18, .ref x19, .int on, .int cu, .int pu, .int gw])), (x10, .inr (3, [.ref x11])), (x11, .inl (ty 1, 6, .inr (.inl su))), (x12, .inr (3, [.ref x13])), (x13, .inl (ty 1, 6, .inr (.inl po))), (x18, .inl (ty 0, 384, .inl oa)), (x19, .inl (ty 0, 384, .inl ob))] s.heap.size = A at hD hE ⊢
  have hA : ∀ q : Nat, s.heap.size ≤ q → A q := fun q h => by rw [← hAe]; exact Or.inr h
  have hS : va_S A s.heap s.heap [] := va_S.rf
  have hP : va_P D vwCl [(x8, .inr (5, [.ref x1, .ref x9, .ref x10, .ref x12, .ref x14, .int hn, .ref x15, .ref x16, .ref x17, .int kn, .ref x18, .ref x19, .int on, .int cu, .int pu, .int gw])), (x10, .inr (3, [.ref x11])), (x11, .inl (ty 1, 6, .inr (.inl su))), (x12, .inr (3, [.ref x13])), (x13, .inl (ty 1, 6, .inr (.inl po))), (x18, .inl (ty 0, 384, .inl oa)), (x19, .inl (ty 0, 384, .inl ob))] s.heap := hP
  have hl := lv_entry ([.ref x8]) (n := 2) (Nat.le_of_ble_eq_true rfl)
  rw [lg_entry_eq]
  generalize (lg_sl ([.ref x8]) ++ List.replicate (2 - (lg_sl ([.ref x8])).length) Slot.unset).toArray = ls at hl ⊢
  have hl : lv_has ls 2 [(0, .ref x8)] := hl
  have END : ∀ (e0 : Nat → Int32) (e1 : Nat → Int32) (e2 : Int32), TT = (e0, e1, e2) → ∀ (H : Heap) (locs : List Loc), va_P D vwCl [(x8, .inr (5, [.ref x1, .ref x9, .ref x10, .ref x12, .ref x14, .int hn, .ref x15, .ref x16, .ref x17, .int kn, .ref x18, .ref x19, .int e2, .int cu, .int pu, .int gw])), (x10, .inr (3, [.ref x11])), (x11, .inl (ty 1, 6, .inr (.inl su))), (x12, .inr (3, [.ref x13])), (x13, .inl (ty 1, 6, .inr (.inl po))), (x18, .inl (ty 0, 384, .inl e0)), (x19, .inl (ty 0, 384, .inl e1))] H → va_D A [(x8, .inr (5, [.ref x1, .ref x9, .ref x10, .ref x12, .ref x14, .int hn, .ref x15, .ref x16, .ref x17, .int kn, .ref x18, .ref x19, .int e2, .int cu, .int pu, .int gw])), (x10, .inr (3, [.ref x11])), (x11, .inl (ty 1, 6, .inr (.inl su))), (x12, .inr (3, [.ref x13])), (x13, .inl (ty 1, 6, .inr (.inl po))), (x18, .inl (ty 0, 384, .inl e0)), (x19, .inl (ty 0, 384, .inl e1))] → va_S A s.heap H locs → ∀ (ls : Array Slot) (pc : Nat), decode cX3_numberOpenAtoms pc = .ok (.return_, 1) → W p l e (headSpec vs_k_X3_numberOpenAtoms { frames := 1, cells := 0, slots := 0, locals := 21 }).room s m ([.ref x8] : List Value).toArray below meth c H locs 0 0 (MQ below (va_Qv (fun u : va_W => ((u = [(x8, .inr (5, [.ref x1, .ref x9, .ref x10, .ref x12, .ref x14, .int hn, .ref x15, .ref x16, .ref x17, .int kn, .ref x18, .ref x19, .int TT.2.2, .int cu, .int pu, .int gw])), (x10, .inr (3, [.ref x11])), (x11, .inl (ty 1, 6, .inr (.inl su))), (x12, .inr (3, [.ref x13])), (x13, .inl (ty 1, 6, .inr (.inl po))), (x18, .inl (ty 0, 384, .inl TT.1)), (x19, .inl (ty 0, 384, .inl TT.2.1))]))) (wq_B D A) A) ([.ref x8] : List Value).toArray s 0 0 A) (F0 m pc ls []) := by
    intro e0 e1 e2 hT H locs hP hD hS ls pc hd
    have hM : TT = (e0, e1, e2) := hT
    exact W.vret hx hb hr (fun t ht hW => ⟨⟨[(x8, .inr (5, [.ref x1, .ref x9, .ref x10, .ref x12, .ref x14, .int hn, .ref x15, .ref x16, .ref x17, .int kn, .ref x18, .ref x19, .int e2, .int cu, .int pu, .int gw])), (x10, .inr (3, [.ref x11])), (x11, .inl (ty 1, 6, .inr (.inl su))), (x12, .inr (3, [.ref x13])), (x13, .inl (ty 1, 6, .inr (.inl po))), (x18, .inl (ty 0, 384, .inl e0)), (x19, .inl (ty 0, 384, .inl e1))], rfl, (by rw [hM]), wq_B.of ht hP hD⟩, hS.F ht⟩) hS.2.2 hd
  have hT := hTT
  rw [m_k_X3_numberOpenAtoms] at hT
  refine lv_aload_n hx hb dX3_numberOpenAtoms_0 rfl (lv_at hl 0 rfl) ?_
  refine lv_iconst (v := 0) hx hb dX3_numberOpenAtoms_1 (by decide) ?_
  refine va_put (D := D) (ci := 5) (v := .int 0) (ty := tyX3 12) (C := RX3) (T := TX3) (N := 16) hx hb hts iv_k_X3_numberOpenAtoms_X3 tyX3 tyX3_ok nmX3 hown hK hP hD hS 0 rfl rfl 12 (by decide) (hts (.fieldLink RX3 216 "AnswerFold$Grounding" "openCount" "I") (by decide +kernel)) (fun _ h9 => h9) rfl (by decide +kernel) rfl rfl (Nat.le_of_ble_eq_true rfl) dX3_numberOpenAtoms_2 (fun H locs hP hD hS => ?_)
  have hP : va_P D vwCl [(x8, .inr (5, [.ref x1, .ref x9, .ref x10, .ref x12, .ref x14, .int hn, .ref x15, .ref x16, .ref x17, .int kn, .ref x18, .ref x19, .int 0, .int cu, .int pu, .int gw])), (x10, .inr (3, [.ref x11])), (x11, .inl (ty 1, 6, .inr (.inl su))), (x12, .inr (3, [.ref x13])), (x13, .inl (ty 1, 6, .inr (.inl po))), (x18, .inl (ty 0, 384, .inl oa)), (x19, .inl (ty 0, 384, .inl ob))] H := hP
  have hD : va_D A [(x8, .inr (5, [.ref x1, .ref x9, .ref x10, .ref x12, .ref x14, .int hn, .ref x15, .ref x16, .ref x17, .int kn, .ref x18, .ref x19, .int 0, .int cu, .int pu, .int gw])), (x10, .inr (3, [.ref x11])), (x11, .inl (ty 1, 6, .inr (.inl su))), (x12, .inr (3, [.ref x13])), (x13, .inl (ty 1, 6, .inr (.inl po))), (x18, .inl (ty 0, 384, .inl oa)), (x19, .inl (ty 0, 384, .inl ob))] := hD
  refine lv_iconst (v := 0) hx hb dX3_numberOpenAtoms_5 (by decide) ?_
  refine lv_istore_n (lv' := [(1, .int 0), (0, .ref x8)]) hx hb dX3_numberOpenAtoms_6 rfl hl (by decide) rfl (fun ls hl => ?_)
  have L_7 : ∀ (n_7 : Nat) (v1_7 : Int32) (x18_f_7 : Nat → Int32) (x19_f_7 : Nat → Int32) (x8_12_7 : Int32), (2147483648 - v1_7.toInt).toNat < n_7 → TT = m_k_X3_numberOpenAtoms_7 su po n_7 v1_7 x18_f_7 x19_f_7 x8_12_7 → 0 ≤ v1_7.toInt → 0 ≤ (x8_12_7 : Int32).toInt → ∀ (H : Heap) (locs : List Loc), va_P D vwCl [(x8, .inr (5, [.ref x1, .ref x9, .ref x10, .ref x12, .ref x14, .int hn, .ref x15, .ref x16, .ref x17, .int kn, .ref x18, .ref x19, .int x8_12_7, .int cu, .int pu, .int gw])), (x10, .inr (3, [.ref x11])), (x11, .inl (ty 1, 6, .inr (.inl su))), (x12, .inr (3, [.ref x13])), (x13, .inl (ty 1, 6, .inr (.inl po))), (x18, .inl (ty 0, 384, .inl x18_f_7)), (x19, .inl (ty 0, 384, .inl x19_f_7))] H → va_D A [(x8, .inr (5, [.ref x1, .ref x9, .ref x10, .ref x12, .ref x14, .int hn, .ref x15, .ref x16, .ref x17, .int kn, .ref x18, .ref x19, .int x8_12_7, .int cu, .int pu, .int gw])), (x10, .inr (3, [.ref x11])), (x11, .inl (ty 1, 6, .inr (.inl su))), (x12, .inr (3, [.ref x13])), (x13, .inl (ty 1, 6, .inr (.inl po))), (x18, .inl (ty 0, 384, .inl x18_f_7)), (x19, .inl (ty 0, 384, .inl x19_f_7))] → va_S A s.heap H locs → ∀ ls : Array Slot, lv_has ls 2 [(0, .ref x8), (1, .int v1_7)] → W p l e (headSpec vs_k_X3_numberOpenAtoms { frames := 1, cells := 0, slots := 0, locals := 21 }).room s m ([.ref x8] : List Value).toArray below meth c H locs 0 0 (MQ below (va_Qv (fun u : va_W => ((u = [(x8, .inr (5, [.ref x1, .ref x9, .ref x10, .ref x12, .ref x14, .int hn, .ref x15, .ref x16, .ref x17, .int kn, .ref x18, .ref x19, .int TT.2.2, .int cu, .int pu, .int gw])), (x10, .inr (3, [.ref x11])), (x11, .inl (ty 1, 6, .inr (.inl su))), (x12, .inr (3, [.ref x13])), (x13, .inl (ty 1, 6, .inr (.inl po))), (x18, .inl (ty 0, 384, .inl TT.1)), (x19, .inl (ty 0, 384, .inl TT.2.1))]))) (wq_B D A) A) ([.ref x8] : List Value).toArray s 0 0 A) (F0 m 7 ls []) := by
    intro n_7
    induction n_7 with
    | zero => intro v1_7 x18_f_7 x19_f_7 x8_12_7 hu; exact absurd hu (Nat.not_lt_zero _)
    | succ n_7 ih_7 =>
      intro v1_7 x18_f_7 x19_f_7 x8_12_7 hu_7 hT hn_7 hw0_7 H locs hP hD hS ls hl
      rw [m_k_X3_numberOpenAtoms_7_succ, m_k_X3_numberOpenAtoms_7s] at hT
      refine lv_iload_n hx hb dX3_numberOpenAtoms_7 rfl (lv_at hl 1 rfl) ?_
      refine lv_sipush (v := 384) hx hb dX3_numberOpenAtoms_8 (by decide) ?_
      refine lv_icmp_ge (tgt := 89) hx hb dX3_numberOpenAtoms_11 (by decide) (fun c_1 => ?_) (fun c_1 => ?_)
      · rw [if_pos c_1] at hT
        exact END x18_f_7 x19_f_7 x8_12_7 hT _ _ hP hD hS _ _ dX3_numberOpenAtoms_89
      · rw [if_neg c_1] at hT
        refine lv_aload_n hx hb dX3_numberOpenAtoms_14 rfl (lv_at hl 0 rfl) ?_
        refine va_get (D := D) (ci := 5) (v := .ref x19) (C := RX3) (T := TX3) (N := 16) hx hb hts iv_k_X3_numberOpenAtoms_X3 hown hK hP 0 rfl rfl 11 (by decide) (hts (.fieldLink RX3 44 "AnswerFold$Grounding" "openNumbers" "[I") (by decide +kernel)) (fun _ h9 => h9) rfl dX3_numberOpenAtoms_15 ?_
        refine lv_iload_n hx hb dX3_numberOpenAtoms_18 rfl (lv_at hl 1 rfl) ?_
        refine lv_iconst (v := (-1)) hx hb dX3_numberOpenAtoms_19 (by decide) ?_
        refine va_iast (D := D) hx hb hK hP hD hS 6 0 rfl rfl (wi_in hn_7 (wi_hi c_1 (by decide))) dX3_numberOpenAtoms_20 (fun H locs hP hD hS => ?_)
        have hP : va_P D vwCl [(x8, .inr (5, [.ref x1, .ref x9, .ref x10, .ref x12, .ref x14, .int hn, .ref x15, .ref x16, .ref x17, .int kn, .ref x18, .ref x19, .int x8_12_7, .int cu, .int pu, .int gw])), (x10, .inr (3, [.ref x11])), (x11, .inl (ty 1, 6, .inr (.inl su))), (x12, .inr (3, [.ref x13])), (x13, .inl (ty 1, 6, .inr (.inl po))), (x18, .inl (ty 0, 384, .inl x18_f_7)), (x19, .inl (ty 0, 384, .inl (upd x19_f_7 v1_7.toNatClampNeg (-1))))] H := hP
        have hD : va_D A [(x8, .inr (5, [.ref x1, .ref x9, .ref x10, .ref x12, .ref x14, .int hn, .ref x15, .ref x16, .ref x17, .int kn, .ref x18, .ref x19, .int x8_12_7, .int cu, .int pu, .int gw])), (x10, .inr (3, [.ref x11])), (x11, .inl (ty 1, 6, .inr (.inl su))), (x12, .inr (3, [.ref x13])), (x13, .inl (ty 1, 6, .inr (.inl po))), (x18, .inl (ty 0, 384, .inl x18_f_7)), (x19, .inl (ty 0, 384, .inl (upd x19_f_7 v1_7.toNatClampNeg (-1))))] := hD
        refine lv_aload_n hx hb dX3_numberOpenAtoms_21 rfl (lv_at hl 0 rfl) ?_
        refine va_get (D := D) (ci := 5) (v := .ref x12) (C := RX3) (T := TX3) (N := 16) hx hb hts iv_k_X3_numberOpenAtoms_X3 hown hK hP 0 rfl rfl 3 (by decide) (hts (.fieldLink RX3 25 "AnswerFold$Grounding" "possible" "LAnswerFold$AtomSet;") (by decide +kernel)) (fun _ h9 => h9) rfl dX3_numberOpenAtoms_22 ?_
        refine lv_iload_n hx hb dX3_numberOpenAtoms_25 rfl (lv_at hl 1 rfl) ?_
        obtain ⟨t_26, ht_26⟩ : ∃ t, t = m_k_X1_contains po v1_7 := ⟨_, rfl⟩
        rw [lE_eq ht_26] at hT
        refine wq_i (wc := [(x12, .inr (3, [.ref x13])), (x13, .inl (ty 1, 6, .inr (.inl po)))]) (wr := [(x8, .inr (5, [.ref x1, .ref x9, .ref x10, .ref x12, .ref x14, .int hn, .ref x15, .ref x16, .ref x17, .int kn, .ref x18, .ref x19, .int x8_12_7, .int cu, .int pu, .int gw])), (x10, .inr (3, [.ref x11])), (x11, .inl (ty 1, 6, .inr (.inl su))), (x18, .inl (ty 0, 384, .inl x18_f_7)), (x19, .inl (ty 0, 384, .inl (upd x19_f_7 v1_7.toNatClampNeg (-1))))]) (va_runV (As := [.int v1_7]) (rest := []) ⟨hx, hb, hml, hown, hts⟩ (k_X1_contains l D ty td mi H.size x12 x13 po v1_7 t_26 ht_26) (cwV 1 hts gv_k_X3_numberOpenAtoms_0 rfl rfl rfl (by decide +kernel) ⟨(Nat.le_of_ble_eq_true rfl), (Nat.le_of_ble_eq_true rfl)⟩) ⟨(wq_preS hP hD hK hE hS hA [3, 4] rfl (by decide) (As := .ref x12 :: [.int v1_7])).1, va_recv (q0 := 3) (ci := 3) hK hP rfl rfl, (wq_preS hP hD hK hE hS hA [3, 4] rfl (by decide) (As := .ref x12 :: [.int v1_7])).2⟩ rfl rfl hl.1 rfl (lv_room (Nat.le_of_ble_eq_true rfl)) dX3_numberOpenAtoms_26 ⟨(Nat.le_of_ble_eq_true rfl), (Nat.le_of_ble_eq_true rfl)⟩) hS hA hP hD [3, 4] [0, 1, 2, 5, 6] rfl rfl (by decide) (by decide) (fun r u H locs hw hP hD hS => ?_)
        obtain ⟨hr0, c_4, rfl⟩ := hw
        subst r
        have hP : va_P D vwCl [(x8, .inr (5, [.ref x1, .ref x9, .ref x10, .ref x12, .ref x14, .int hn, .ref x15, .ref x16, .ref x17, .int kn, .ref x18, .ref x19, .int x8_12_7, .int cu, .int pu, .int gw])), (x10, .inr (3, [.ref x11])), (x11, .inl (ty 1, 6, .inr (.inl su))), (x18, .inl (ty 0, 384, .inl x18_f_7)), (x19, .inl (ty 0, 384, .inl (upd x19_f_7 v1_7.toNatClampNeg (-1)))), (x12, .inr (3, [.ref x13])), (x13, .inl (ty 1, 6, .inr (.inl po)))] H := hP
        have hD : va_D A [(x8, .inr (5, [.ref x1, .ref x9, .ref x10, .ref x12, .ref x14, .int hn, .ref x15, .ref x16, .ref x17, .int kn, .ref x18, .ref x19, .int x8_12_7, .int cu, .int pu, .int gw])), (x10, .inr (3, [.ref x11])), (x11, .inl (ty 1, 6, .inr (.inl su))), (x18, .inl (ty 0, 384, .inl x18_f_7)), (x19, .inl (ty 0, 384, .inl (upd x19_f_7 v1_7.toNatClampNeg (-1)))), (x12, .inr (3, [.ref x13])), (x13, .inl (ty 1, 6, .inr (.inl po)))] := hD
        refine W.widen (k := 0) (n := 0) (Nat.le_of_ble_eq_true rfl) (Nat.le_of_ble_eq_true rfl) ?_
        have J_83 : ∀ (x18_f_83 : Nat → Int32) (x19_f_83 : Nat → Int32) (x8_12_83 : Int32), TT = m_k_X3_numberOpenAtoms_83 (m_k_X3_numberOpenAtoms_7 su po n_7) v1_7 x18_f_83 x19_f_83 x8_12_83 → 0 ≤ (x8_12_83 : Int32).toInt → ∀ (H : Heap) (locs : List Loc), va_P D vwCl [(x8, .inr (5, [.ref x1, .ref x9, .ref x10, .ref x12, .ref x14, .int hn, .ref x15, .ref x16, .ref x17, .int kn, .ref x18, .ref x19, .int x8_12_83, .int cu, .int pu, .int gw])), (x10, .inr (3, [.ref x11])), (x11, .inl (ty 1, 6, .inr (.inl su))), (x12, .inr (3, [.ref x13])), (x13, .inl (ty 1, 6, .inr (.inl po))), (x18, .inl (ty 0, 384, .inl x18_f_83)), (x19, .inl (ty 0, 384, .inl x19_f_83))] H → va_D A [(x8, .inr (5, [.ref x1, .ref x9, .ref x10, .ref x12, .ref x14, .int hn, .ref x15, .ref x16, .ref x17, .int kn, .ref x18, .ref x19, .int x8_12_83, .int cu, .int pu, .int gw])), (x10, .inr (3, [.ref x11])), (x11, .inl (ty 1, 6, .inr (.inl su))), (x12, .inr (3, [.ref x13])), (x13, .inl (ty 1, 6, .inr (.inl po))), (x18, .inl (ty 0, 384, .inl x18_f_83)), (x19, .inl (ty 0, 384, .inl x19_f_83))] → va_S A s.heap H locs → ∀ ls : Array Slot, lv_has ls 2 [(0, .ref x8), (1, .int v1_7)] → W p l e (headSpec vs_k_X3_numberOpenAtoms { frames := 1, cells := 0, slots := 0, locals := 21 }).room s m ([.ref x8] : List Value).toArray below meth c H locs 0 0 (MQ below (va_Qv (fun u : va_W => ((u = [(x8, .inr (5, [.ref x1, .ref x9, .ref x10, .ref x12, .ref x14, .int hn, .ref x15, .ref x16, .ref x17, .int kn, .ref x18, .ref x19, .int TT.2.2, .int cu, .int pu, .int gw])), (x10, .inr (3, [.ref x11])), (x11, .inl (ty 1, 6, .inr (.inl su))), (x12, .inr (3, [.ref x13])), (x13, .inl (ty 1, 6, .inr (.inl po))), (x18, .inl (ty 0, 384, .inl TT.1)), (x19, .inl (ty 0, 384, .inl TT.2.1))]))) (wq_B D A) A) ([.ref x8] : List Value).toArray s 0 0 A) (F0 m 83 ls []) := by
          intro x18_f_83 x19_f_83 x8_12_83 hT hw0_83 H locs hP hD hS ls hl
          rw [m_k_X3_numberOpenAtoms_83] at hT
          refine lv_iinc (v := v1_7 + 1) (lv' := [(1, .int (v1_7 + 1)), (0, .ref x8)]) hx hb dX3_numberOpenAtoms_83 hl (k := 1) rfl (by rfl) (by decide) rfl (fun ls hl => ?_)
          refine lv_goto (tgt := 7) hx hb dX3_numberOpenAtoms_86 (by decide) ?_
          exact ih_7 (v1_7 + 1) x18_f_83 x19_f_83 x8_12_83 (wi_up hu_7 (Int32.not_le.mp c_1)) hT (wi_inc hn_7 (Int32.not_le.mp c_1)) (om_k_X3_numberOpenAtoms_0 x8_12_83 v1_7 x8_12_7 hn_7 hw0_7 c_1 hw0_83) _ _ hP hD hS _ (lv_sub hl [1, 0] rfl)
        refine lv_if_eq (tgt := 83) hx hb dX3_numberOpenAtoms_29 (by decide) (fun c_5 => ?_) (fun c_5 => ?_)
        · rw [if_pos c_5] at hT
          exact J_83 x18_f_7 (upd x19_f_7 v1_7.toNatClampNeg (-1)) x8_12_7 hT (om_k_X3_numberOpenAtoms_1 x8_12_7 v1_7 t_26 hn_7 hw0_7 c_1 c_5) _ _ (hP.sub [0, 1, 2, 5, 6, 3, 4] rfl) (hD.sub [0, 1, 2, 5, 6, 3, 4] (by decide) rfl) hS _ (lv_sub hl [0, 1] rfl)
        · rw [if_neg c_5] at hT
          refine lv_aload_n hx hb dX3_numberOpenAtoms_32 rfl (lv_at hl 0 rfl) ?_
          refine va_get (D := D) (ci := 5) (v := .ref x10) (C := RX3) (T := TX3) (N := 16) hx hb hts iv_k_X3_numberOpenAtoms_X3 hown hK hP 0 rfl rfl 2 (by decide) (hts (.fieldLink RX3 21 "AnswerFold$Grounding" "sure" "LAnswerFold$AtomSet;") (by decide +kernel)) (fun _ h9 => h9) rfl dX3_numberOpenAtoms_33 ?_
          refine lv_iload_n hx hb dX3_numberOpenAtoms_36 rfl (lv_at hl 1 rfl) ?_
          obtain ⟨t_37, ht_37⟩ : ∃ t, t = m_k_X1_contains su v1_7 := ⟨_, rfl⟩
          rw [lE_eq ht_37] at hT
          refine wq_i (wc := [(x10, .inr (3, [.ref x11])), (x11, .inl (ty 1, 6, .inr (.inl su)))]) (wr := [(x8, .inr (5, [.ref x1, .ref x9, .ref x10, .ref x12, .ref x14, .int hn, .ref x15, .ref x16, .ref x17, .int kn, .ref x18, .ref x19, .int x8_12_7, .int cu, .int pu, .int gw])), (x18, .inl (ty 0, 384, .inl x18_f_7)), (x19, .inl (ty 0, 384, .inl (upd x19_f_7 v1_7.toNatClampNeg (-1)))), (x12, .inr (3, [.ref x13])), (x13, .inl (ty 1, 6, .inr (.inl po)))]) (va_runV (As := [.int v1_7]) (rest := []) ⟨hx, hb, hml, hown, hts⟩ (k_X1_contains l D ty td mi H.size x10 x11 su v1_7 t_37 ht_37) (cwV 1 hts gv_k_X3_numberOpenAtoms_1 rfl rfl rfl (by decide +kernel) ⟨(Nat.le_of_ble_eq_true rfl), (Nat.le_of_ble_eq_true rfl)⟩) ⟨(wq_preS hP hD hK hE hS hA [1, 2] rfl (by decide) (As := .ref x10 :: [.int v1_7])).1, va_recv (q0 := 1) (ci := 3) hK hP rfl rfl, (wq_preS hP hD hK hE hS hA [1, 2] rfl (by decide) (As := .ref x10 :: [.int v1_7])).2⟩ rfl rfl hl.1 rfl (lv_room (Nat.le_of_ble_eq_true rfl)) dX3_numberOpenAtoms_37 ⟨(Nat.le_of_ble_eq_true rfl), (Nat.le_of_ble_eq_true rfl)⟩) hS hA hP hD [1, 2] [0, 3, 4, 5, 6] rfl rfl (by decide) (by decide) (fun r u H locs hw hP hD hS => ?_)
          obtain ⟨hr0, c_8, rfl⟩ := hw
          subst r
          have hP : va_P D vwCl [(x8, .inr (5, [.ref x1, .ref x9, .ref x10, .ref x12, .ref x14, .int hn, .ref x15, .ref x16, .ref x17, .int kn, .ref x18, .ref x19, .int x8_12_7, .int cu, .int pu, .int gw])), (x18, .inl (ty 0, 384, .inl x18_f_7)), (x19, .inl (ty 0, 384, .inl (upd x19_f_7 v1_7.toNatClampNeg (-1)))), (x12, .inr (3, [.ref x13])), (x13, .inl (ty 1, 6, .inr (.inl po))), (x10, .inr (3, [.ref x11])), (x11, .inl (ty 1, 6, .inr (.inl su)))] H := hP
          have hD : va_D A [(x8, .inr (5, [.ref x1, .ref x9, .ref x10, .ref x12, .ref x14, .int hn, .ref x15, .ref x16, .ref x17, .int kn, .ref x18, .ref x19, .int x8_12_7, .int cu, .int pu, .int gw])), (x18, .inl (ty 0, 384, .inl x18_f_7)), (x19, .inl (ty 0, 384, .inl (upd x19_f_7 v1_7.toNatClampNeg (-1)))), (x12, .inr (3, [.ref x13])), (x13, .inl (ty 1, 6, .inr (.inl po))), (x10, .inr (3, [.ref x11])), (x11, .inl (ty 1, 6, .inr (.inl su)))] := hD
          refine W.widen (k := 0) (n := 0) (Nat.le_of_ble_eq_true rfl) (Nat.le_of_ble_eq_true rfl) ?_
          refine lv_if_ne (tgt := 83) hx hb dX3_numberOpenAtoms_40 (by decide) (fun c_9 => ?_) (fun c_9 => ?_)
          · rw [if_neg c_9] at hT
            exact J_83 x18_f_7 (upd x19_f_7 v1_7.toNatClampNeg (-1)) x8_12_7 hT (om_k_X3_numberOpenAtoms_2 x8_12_7 v1_7 t_26 t_37 hn_7 hw0_7 c_1 c_5 c_9) _ _ (hP.sub [0, 5, 6, 3, 4, 1, 2] rfl) (hD.sub [0, 5, 6, 3, 4, 1, 2] (by decide) rfl) hS _ (lv_sub hl [0, 1] rfl)
          · rw [if_pos c_9] at hT
            refine lv_aload_n hx hb dX3_numberOpenAtoms_43 rfl (lv_at hl 0 rfl) ?_
            refine va_get (D := D) (ci := 5) (v := .int x8_12_7) (C := RX3) (T := TX3) (N := 16) hx hb hts iv_k_X3_numberOpenAtoms_X3 hown hK hP 0 rfl rfl 12 (by decide) (hts (.fieldLink RX3 216 "AnswerFold$Grounding" "openCount" "I") (by decide +kernel)) (fun _ h9 => h9) rfl dX3_numberOpenAtoms_44 ?_
            refine lv_sipush (v := 384) hx hb dX3_numberOpenAtoms_47 (by decide) ?_
            refine lv_icmp_ge (tgt := 83) hx hb dX3_numberOpenAtoms_50 (by decide) (fun c_10 => ?_) (fun c_10 => ?_)
            · rw [if_pos c_10] at hT
              exact J_83 x18_f_7 (upd x19_f_7 v1_7.toNatClampNeg (-1)) x8_12_7 hT (om_k_X3_numberOpenAtoms_3 x8_12_7 v1_7 t_26 t_37 hn_7 hw0_7 c_1 c_5 c_9 c_10) _ _ (hP.sub [0, 5, 6, 3, 4, 1, 2] rfl) (hD.sub [0, 5, 6, 3, 4, 1, 2] (by decide) rfl) hS _ (lv_sub hl [0, 1] rfl)
            · rw [if_neg c_10] at hT
              refine lv_aload_n hx hb dX3_numberOpenAtoms_53 rfl (lv_at hl 0 rfl) ?_
              refine va_get (D := D) (ci := 5) (v := .ref x19) (C := RX3) (T := TX3) (N := 16) hx hb hts iv_k_X3_numberOpenAtoms_X3 hown hK hP 0 rfl rfl 11 (by decide) (hts (.fieldLink RX3 44 "AnswerFold$Grounding" "openNumbers" "[I") (by decide +kernel)) (fun _ h9 => h9) rfl dX3_numberOpenAtoms_54 ?_
              refine lv_iload_n hx hb dX3_numberOpenAtoms_57 rfl (lv_at hl 1 rfl) ?_
              refine lv_aload_n hx hb dX3_numberOpenAtoms_58 rfl (lv_at hl 0 rfl) ?_
              refine va_get (D := D) (ci := 5) (v := .int x8_12_7) (C := RX3) (T := TX3) (N := 16) hx hb hts iv_k_X3_numberOpenAtoms_X3 hown hK hP 0 rfl rfl 12 (by decide) (hts (.fieldLink RX3 216 "AnswerFold$Grounding" "openCount" "I") (by decide +kernel)) (fun _ h9 => h9) rfl dX3_numberOpenAtoms_59 ?_
              refine va_iast (D := D) hx hb hK hP hD hS 2 0 rfl rfl (wi_in hn_7 (wi_hi c_1 (by decide))) dX3_numberOpenAtoms_62 (fun H locs hP hD hS => ?_)
              have hP : va_P D vwCl [(x8, .inr (5, [.ref x1, .ref x9, .ref x10, .ref x12, .ref x14, .int hn, .ref x15, .ref x16, .ref x17, .int kn, .ref x18, .ref x19, .int x8_12_7, .int cu, .int pu, .int gw])), (x18, .inl (ty 0, 384, .inl x18_f_7)), (x19, .inl (ty 0, 384, .inl (upd (upd x19_f_7 v1_7.toNatClampNeg (-1)) v1_7.toNatClampNeg x8_12_7))), (x12, .inr (3, [.ref x13])), (x13, .inl (ty 1, 6, .inr (.inl po))), (x10, .inr (3, [.ref x11])), (x11, .inl (ty 1, 6, .inr (.inl su)))] H := hP
              have hD : va_D A [(x8, .inr (5, [.ref x1, .ref x9, .ref x10, .ref x12, .ref x14, .int hn, .ref x15, .ref x16, .ref x17, .int kn, .ref x18, .ref x19, .int x8_12_7, .int cu, .int pu, .int gw])), (x18, .inl (ty 0, 384, .inl x18_f_7)), (x19, .inl (ty 0, 384, .inl (upd (upd x19_f_7 v1_7.toNatClampNeg (-1)) v1_7.toNatClampNeg x8_12_7))), (x12, .inr (3, [.ref x13])), (x13, .inl (ty 1, 6, .inr (.inl po))), (x10, .inr (3, [.ref x11])), (x11, .inl (ty 1, 6, .inr (.inl su)))] := hD
              refine lv_aload_n hx hb dX3_numberOpenAtoms_63 rfl (lv_at hl 0 rfl) ?_
              refine va_get (D := D) (ci := 5) (v := .ref x18) (C := RX3) (T := TX3) (N := 16) hx hb hts iv_k_X3_numberOpenAtoms_X3 hown hK hP 0 rfl rfl 10 (by decide) (hts (.fieldLink RX3 41 "AnswerFold$Grounding" "openAtoms" "[I") (by decide +kernel)) (fun _ h9 => h9) rfl dX3_numberOpenAtoms_64 ?_
              refine lv_aload_n hx hb dX3_numberOpenAtoms_67 rfl (lv_at hl 0 rfl) ?_
              refine va_get (D := D) (ci := 5) (v := .int x8_12_7) (C := RX3) (T := TX3) (N := 16) hx hb hts iv_k_X3_numberOpenAtoms_X3 hown hK hP 0 rfl rfl 12 (by decide) (hts (.fieldLink RX3 216 "AnswerFold$Grounding" "openCount" "I") (by decide +kernel)) (fun _ h9 => h9) rfl dX3_numberOpenAtoms_68 ?_
              refine lv_iload_n hx hb dX3_numberOpenAtoms_71 rfl (lv_at hl 1 rfl) ?_
              refine va_iast (D := D) hx hb hK hP hD hS 1 0 rfl rfl (om_k_X3_numberOpenAtoms_4 x8_12_7 v1_7 t_26 t_37 hn_7 hw0_7 c_1 c_5 c_9 c_10) dX3_numberOpenAtoms_72 (fun H locs hP hD hS => ?_)
              have hP : va_P D vwCl [(x8, .inr (5, [.ref x1, .ref x9, .ref x10, .ref x12, .ref x14, .int hn, .ref x15, .ref x16, .ref x17, .int kn, .ref x18, .ref x19, .int x8_12_7, .int cu, .int pu, .int gw])), (x18, .inl (ty 0, 384, .inl (upd x18_f_7 x8_12_7.toNatClampNeg v1_7))), (x19, .inl (ty 0, 384, .inl (upd (upd x19_f_7 v1_7.toNatClampNeg (-1)) v1_7.toNatClampNeg x8_12_7))), (x12, .inr (3, [.ref x13])), (x13, .inl (ty 1, 6, .inr (.inl po))), (x10, .inr (3, [.ref x11])), (x11, .inl (ty 1, 6, .inr (.inl su)))] H := hP
              have hD : va_D A [(x8, .inr (5, [.ref x1, .ref x9, .ref x10, .ref x12, .ref x14, .int hn, .ref x15, .ref x16, .ref x17, .int kn, .ref x18, .ref x19, .int x8_12_7, .int cu, .int pu, .int gw])), (x18, .inl (ty 0, 384, .inl (upd x18_f_7 x8_12_7.toNatClampNeg v1_7))), (x19, .inl (ty 0, 384, .inl (upd (upd x19_f_7 v1_7.toNatClampNeg (-1)) v1_7.toNatClampNeg x8_12_7))), (x12, .inr (3, [.ref x13])), (x13, .inl (ty 1, 6, .inr (.inl po))), (x10, .inr (3, [.ref x11])), (x11, .inl (ty 1, 6, .inr (.inl su)))] := hD
              refine lv_aload_n hx hb dX3_numberOpenAtoms_73 rfl (lv_at hl 0 rfl) ?_
              refine lv_dup hx hb dX3_numberOpenAtoms_74 rfl ?_
              refine va_get (D := D) (ci := 5) (v := .int x8_12_7) (C := RX3) (T := TX3) (N := 16) hx hb hts iv_k_X3_numberOpenAtoms_X3 hown hK hP 0 rfl rfl 12 (by decide) (hts (.fieldLink RX3 216 "AnswerFold$Grounding" "openCount" "I") (by decide +kernel)) (fun _ h9 => h9) rfl dX3_numberOpenAtoms_75 ?_
              refine lv_iconst (v := 1) hx hb dX3_numberOpenAtoms_78 (by decide) ?_
              refine lv_iadd hx hb dX3_numberOpenAtoms_79 ?_
              refine va_put (D := D) (ci := 5) (v := .int (x8_12_7 + 1)) (ty := tyX3 12) (C := RX3) (T := TX3) (N := 16) hx hb hts iv_k_X3_numberOpenAtoms_X3 tyX3 tyX3_ok nmX3 hown hK hP hD hS 0 rfl rfl 12 (by decide) (hts (.fieldLink RX3 216 "AnswerFold$Grounding" "openCount" "I") (by decide +kernel)) (fun _ h9 => h9) rfl (by decide +kernel) rfl rfl (Nat.le_of_ble_eq_true rfl) dX3_numberOpenAtoms_80 (fun H locs hP hD hS => ?_)
              have hP : va_P D vwCl [(x8, .inr (5, [.ref x1, .ref x9, .ref x10, .ref x12, .ref x14, .int hn, .ref x15, .ref x16, .ref x17, .int kn, .ref x18, .ref x19, .int (x8_12_7 + 1), .int cu, .int pu, .int gw])), (x18, .inl (ty 0, 384, .inl (upd x18_f_7 x8_12_7.toNatClampNeg v1_7))), (x19, .inl (ty 0, 384, .inl (upd (upd x19_f_7 v1_7.toNatClampNeg (-1)) v1_7.toNatClampNeg x8_12_7))), (x12, .inr (3, [.ref x13])), (x13, .inl (ty 1, 6, .inr (.inl po))), (x10, .inr (3, [.ref x11])), (x11, .inl (ty 1, 6, .inr (.inl su)))] H := hP
              have hD : va_D A [(x8, .inr (5, [.ref x1, .ref x9, .ref x10, .ref x12, .ref x14, .int hn, .ref x15, .ref x16, .ref x17, .int kn, .ref x18, .ref x19, .int (x8_12_7 + 1), .int cu, .int pu, .int gw])), (x18, .inl (ty 0, 384, .inl (upd x18_f_7 x8_12_7.toNatClampNeg v1_7))), (x19, .inl (ty 0, 384, .inl (upd (upd x19_f_7 v1_7.toNatClampNeg (-1)) v1_7.toNatClampNeg x8_12_7))), (x12, .inr (3, [.ref x13])), (x13, .inl (ty 1, 6, .inr (.inl po))), (x10, .inr (3, [.ref x11])), (x11, .inl (ty 1, 6, .inr (.inl su)))] := hD
              exact J_83 (upd x18_f_7 x8_12_7.toNatClampNeg v1_7) (upd (upd x19_f_7 v1_7.toNatClampNeg (-1)) v1_7.toNatClampNeg x8_12_7) (x8_12_7 + 1) hT (om_k_X3_numberOpenAtoms_5 x8_12_7 v1_7 t_26 t_37 hn_7 hw0_7 c_1 c_5 c_9 c_10) _ _ (hP.sub [0, 5, 6, 3, 4, 1, 2] rfl) (hD.sub [0, 5, 6, 3, 4, 1, 2] (by decide) rfl) hS _ (lv_sub hl [0, 1] rfl)
  exact L_7 wF 0 oa ob 0 (wF_up 0) hT (by decide) (om_k_X3_numberOpenAtoms_6) _ _ hP hD hS _ (lv_sub hl [1, 0] rfl)
