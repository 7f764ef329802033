def wW_k_L_asked_9 (ty : Nat → ClassId) (X : Nat → Nat) (z9_0 : Int32) (z9_1 : Int32) (z9_2 : Int32) (z9_3 : Int32) (z9_4 : Int32) (z9_5 : Int32) (z9_6 : Int32) (z9_7 : Int32) (z9_8 : Int32) (z9_9 : Int32) (z9_10 : Int32) (z9_11 : Int32) (z9_12 : Int32) (z9_13 : Nat → Int32) (z9_14 : Int32) (z9_15 : Int32) (z9_16 : Nat → Int32) : va_W := [((X 0), .inr (12, [.ref (X 1), .ref (X 8), .ref (X 20), .ref (X 39), .ref (X 41), .ref (X 43), .ref (X 45)])), ((X 1), .inr (8, [.ref (X 2), .int z9_0, .ref (X 3), .int z9_1, .ref (X 4), .ref (X 5), .int z9_2, .ref (X 6), .ref (X 7), .int z9_3])), ((X 20), .inr (11, [.ref (X 1), .ref (X 8), .ref (X 21), .ref (X 28), .ref (X 35), .int z9_4, .ref (X 36), .ref (X 37), .ref (X 38), .int z9_5, .int z9_6, .int z9_7, .int z9_8, .int z9_9, .int z9_10, .int z9_11, .int z9_12])), ((X 36), .inl (ty 0, 6, .inl z9_13)), ((X 45), .inr (2, [.ref (X 46), .ref (X 47), .int z9_14, .int z9_15])), ((X 46), .inl (ty 0, 64, .inl z9_16))]
def vs_k_L_asked_9 : List Cond := .code yL_asked cL_asked 6 (some .int) :: ([.methodLink RL 114 yX10_projected, .instanceMethod yX10_projected, .selects RX10 yX10_projected yX10_projected, .initialized RX10] ++ (vs_k_X10_projected))
set_option maxRecDepth 20000 in
theorem gv_k_L_asked_9_0 : GoodIn vs_k_L_asked_9 (wsV RL 114 RX10 yX10_projected vs_k_X10_projected) := goodIn_app (goodIn_sub (by decide +kernel) (by decide +kernel)) (goodIn_sub (fun _ h => List.mem_cons_of_mem _ (List.mem_append_right _ (h))) (by decide +kernel))
set_option maxHeartbeats 4000000 in
set_option maxRecDepth 100000 in
theorem k_L_asked_9 (l : Launch) (hl9 : l.stackTraces = false) (D : va_G) (ty : Nat → ClassId) (td mi sz : Nat) (X : Nat → Nat) (pn : Int32) (rn : Int32) (tn : Int32) (en : Int32) (an : Int32) (ch : Int32) (cg : Int32) (fb : Int32) (mh : Int32) (ml : Int32) (ih : Int32) (lb : Int32) (ic : Int32) (obi : Nat → Int32) (nn : Int32) (kp : Int32) (se : Nat → Int32) (a1 : Int32) (a2 : Int32) (a3 : Int32) (a4 : Int32) (TT : r_k_L_asked_9) (hTT : TT = m_k_L_asked_9 pn obi nn kp se a1) : vx_Met l yL_asked vs_k_L_asked_9 { frames := 8, cells := 2, slots := 12, locals := 123 } (va_Pc [.ref (X 0), .int 9, .int a1, .int a2, .int a3, .int a4] (wq_P D ty td mi (wW_k_L_asked_9 ty X pn rn tn en an ch cg fb mh ml ih lb ic obi nn kp se) sz)) (va_Qi (fun (r : Int32) (u : va_W) => (TT.1 = 0 ∧ r = TT.2 ∧ (u = (wW_k_L_asked_9 ty X pn rn tn en an ch cg fb mh ml ih lb ic obi nn kp se)))) (wq_B D (va_A (wW_k_L_asked_9 ty X pn rn tn en an ch cg fb mh ml ih lb ic obi nn kp se) sz)) (va_A (wW_k_L_asked_9 ty X pn rn tn en an ch cg fb mh ml ih lb ic obi nn kp se) sz)) (vx_X (fun u : String × va_W => (TT.1 = 1 ∧ u = ("java/lang/IndexOutOfBoundsException", (wW_k_L_asked_9 ty X pn rn tn en an ch cg fb mh ml ih lb ic obi nn kp se))) ∨ (TT.1 = 3 ∧ u = ("java/lang/IllegalStateException", (wW_k_L_asked_9 ty X pn rn tn en an ch cg fb mh ml ih lb ic obi nn kp se)))) (wq_BX D (va_A (wW_k_L_asked_9 ty X pn rn tn en an ch cg fb mh ml ih lb ic obi nn kp se) sz)) (va_A (wW_k_L_asked_9 ty X pn rn tn en an ch cg fb mh ml ih lb ic obi nn kp se) sz)) 2 12 (va_A (wW_k_L_asked_9 ty X pn rn tn en an ch cg fb mh ml ih lb ic obi nn kp se) sz) := by
  refine vx_ofW (cc := cL_asked) (maxL := 6) (ret := (some .int)) (by decide) rfl ?_
  intro p e s m args below meth c s₁ B hml hEx hv
  obtain ⟨rfl, hsz, hP, hK, hD0, hE⟩ := hv
  have hx := B.exec
  have hb := B.bytes
  have hr := B.returns
  have hts := atoms_spec (ws := vs_k_L_asked_9) B.pre
  have hown : s.vm.findClass RL = some m.cls := findClass_of_methodNamed B.named
  have hlocks := B.notSynchronized
  subst hsz
  have hD := hD0.self (sz := s.heap.size)
  generalize hAe : va_A (wW_k_L_asked_9 ty X pn rn tn en an ch cg fb mh ml ih lb ic obi nn kp se) s.heap.size = A at hD hE ⊢
  have hA : ∀ q : Nat, s.heap.size ≤ q → A q := fun q h => by rw [← hAe]; exact Or.inr h
  have hS : va_S A s.heap s.heap [] := va_S.rf
  have hP : va_P D vwCl (wW_k_L_asked_9 ty X pn rn tn en an ch cg fb mh ml ih lb ic obi nn kp se) s.heap := hP
  have hl := lv_entry ([.ref (X 0), .int 9, .int a1, .int a2, .int a3, .int a4]) (n := 6) (Nat.le_of_ble_eq_true rfl)
  rw [lg_entry_eq]
  generalize (lg_sl ([.ref (X 0), .int 9, .int a1, .int a2, .int a3, .int a4]) ++ List.replicate (6 - (lg_sl ([.ref (X 0), .int 9, .int a1, .int a2, .int a3, .int a4])).length) Slot.unset).toArray = ls at hl ⊢
  have hl : lv_has ls 6 [(0, .ref (X 0)), (1, .int 9), (2, .int a1), (3, .int a2), (4, .int a3), (5, .int a4)] := hl
  have END : ∀ (r : Int32), TT = (0, r) → ∀ (H : Heap) (locs : List Loc), va_P D vwCl (wW_k_L_asked_9 ty X pn rn tn en an ch cg fb mh ml ih lb ic obi nn kp se) H → va_D A (wW_k_L_asked_9 ty X pn rn tn en an ch cg fb mh ml ih lb ic obi nn kp se) → va_S A s.heap H locs → ∀ (ls : Array Slot) (pc : Nat), decode cL_asked pc = .ok (.ireturn, 1) → W p l e (headSpec vs_k_L_asked_9 { frames := 8, cells := 2, slots := 12, locals := 123 }).room s m ([.ref (X 0), .int 9, .int a1, .int a2, .int a3, .int a4] : List Value).toArray below meth c H locs 2 12 (vx_MQ below (va_Qi (fun (r : Int32) (u : va_W) => (TT.1 = 0 ∧ r = TT.2 ∧ (u = (wW_k_L_asked_9 ty X pn rn tn en an ch cg fb mh ml ih lb ic obi nn kp se)))) (wq_B D A) A) (vx_X (fun u : String × va_W => (TT.1 = 1 ∧ u = ("java/lang/IndexOutOfBoundsException", (wW_k_L_asked_9 ty X pn rn tn en an ch cg fb mh ml ih lb ic obi nn kp se))) ∨ (TT.1 = 3 ∧ u = ("java/lang/IllegalStateException", (wW_k_L_asked_9 ty X pn rn tn en an ch cg fb mh ml ih lb ic obi nn kp se)))) (wq_BX D A) A) ([.ref (X 0), .int 9, .int a1, .int a2, .int a3, .int a4] : List Value).toArray s 2 12 A) (F0 m pc ls [.int r]) := by
    intro r hT H locs hP hD hS ls pc hd
    have hM : TT = (0, r) := hT
    refine vx_ret ?_
    exact W.iret (v := r) hx hb hr (fun t ht hW => ⟨⟨r, (wW_k_L_asked_9 ty X pn rn tn en an ch cg fb mh ml ih lb ic obi nn kp se), rfl, ⟨(by rw [hM]), (by rw [hM]), rfl⟩, wq_B.of ht hP hD⟩, hS.F ht⟩) hS.2.2 hd
  have hT := hTT
  rw [m_k_L_asked_9] at hT
  refine lv_iload_n hx hb dL_asked_0 rfl (lv_at hl 1 rfl) ?_
  refine lv_tableIn (off := 126) (tgt := 127) hx hb dL_asked_1 (by decide) (by decide) rfl (by decide) ?_
  refine lv_aload_n hx hb dL_asked_127 rfl (lv_at hl 0 rfl) ?_
  refine lv_iload_n hx hb dL_asked_128 rfl (lv_at hl 2 rfl) ?_
  obtain ⟨t_129, ht_129⟩ : ∃ t, t = m_k_X10_projected pn obi nn kp se a1 := ⟨_, rfl⟩
  rw [lE_eq ht_129] at hT
  refine wq_xiW (wc := (wW_k_X10_projected ty X pn rn tn en an ch cg fb mh ml ih lb ic obi nn kp se)) (vx_runV (As := [.int a1]) (rest := []) ⟨hx, hb, hml, hown, hts⟩ (k_X10_projected l hl9 D ty td mi s.heap.size X pn rn tn en an ch cg fb mh ml ih lb ic obi nn kp se a1 t_129 ht_129) (cwV 1 hts gv_k_L_asked_9_0 rfl rfl rfl (by decide +kernel) ⟨(Nat.le_of_ble_eq_true rfl), (Nat.le_of_ble_eq_true rfl)⟩) (wm_V (wm_preS hP hD hK hE hS hA [true, true, true, true, true, true] rfl) (va_recv (q0 := 0) (ci := 12) hK hP rfl rfl)) rfl rfl hl.1 rfl (lv_room (Nat.le_of_ble_eq_true rfl)) dL_asked_129 ⟨(Nat.le_of_ble_eq_true rfl), (Nat.le_of_ble_eq_true rfl)⟩) hS hA hP hD [true, true, true, true, true, true] rfl (fun _ _ h => by rcases h with ⟨-, -, rfl⟩; rfl) (fun _ _ h => by rcases h with ⟨-, h⟩ | ⟨-, h⟩ <;> (cases h; rfl)) (fun E9 u H locs q9 ce hw hP hD hS hce hcv hcl => ?_) (fun r u H locs hw hP hD hS => ?_)
  · rcases hw with ⟨c_1, hEq⟩ | ⟨c_2, hEq⟩
    · cases hEq
      rw [if_neg (show ¬ t_129.1 = 0 by rw [c_1]; decide)] at hT
      rw [if_pos c_1] at hT
      have hP : va_P D vwCl (wW_k_L_asked_9 ty X pn rn tn en an ch cg fb mh ml ih lb ic obi nn kp se) H := hP
      have hD : va_D A (wW_k_L_asked_9 ty X pn rn tn en an ch cg fb mh ml ih lb ic obi nn kp se) := hD
      refine vx_widen (k := 2) (n := 12) (Nat.le_of_ble_eq_true rfl) (Nat.le_of_ble_eq_true rfl) ?_
      exact vx_out (E := "java/lang/IndexOutOfBoundsException") (fun x hx => (hEx x hx).elim) hlocks hce hcv hcl (fun t ht ha => wq_thrW0 (W := (wW_k_L_asked_9 ty X pn rn tn en an ch cg fb mh ml ih lb ic obi nn kp se)) hS hP hD (by exact (Or.inl ⟨(by rw [hT]), (by first | rw [hT] | rfl)⟩)) ht) hS.2.2 (Nat.le_refl _) (Nat.le_refl _)
    · cases hEq
      rw [if_neg (show ¬ t_129.1 = 0 by rw [c_2]; decide)] at hT
      rw [if_neg (show ¬ t_129.1 = 1 by rw [c_2]; decide)] at hT
      have hP : va_P D vwCl (wW_k_L_asked_9 ty X pn rn tn en an ch cg fb mh ml ih lb ic obi nn kp se) H := hP
      have hD : va_D A (wW_k_L_asked_9 ty X pn rn tn en an ch cg fb mh ml ih lb ic obi nn kp se) := hD
      refine vx_widen (k := 2) (n := 12) (Nat.le_of_ble_eq_true rfl) (Nat.le_of_ble_eq_true rfl) ?_
      exact vx_out (E := "java/lang/IllegalStateException") (fun x hx => (hEx x hx).elim) hlocks hce hcv hcl (fun t ht ha => wq_thrW0 (W := (wW_k_L_asked_9 ty X pn rn tn en an ch cg fb mh ml ih lb ic obi nn kp se)) hS hP hD (by exact (Or.inr ⟨(by rw [hT]), (by first | rw [hT] | rfl)⟩)) ht) hS.2.2 (Nat.le_refl _) (Nat.le_refl _)
  · obtain ⟨c_3, rfl, rfl⟩ := hw
    rw [if_pos c_3] at hT
    have hP : va_P D vwCl (wW_k_L_asked_9 ty X pn rn tn en an ch cg fb mh ml ih lb ic obi nn kp se) H := hP
    have hD : va_D A (wW_k_L_asked_9 ty X pn rn tn en an ch cg fb mh ml ih lb ic obi nn kp se) := hD
    refine W.widen (k := 2) (n := 12) (Nat.le_of_ble_eq_true rfl) (Nat.le_of_ble_eq_true rfl) ?_
    exact END t_129.2 hT _ _ hP hD hS _ _ dL_asked_132
def wW_k_L_ask_9 (ty : Nat → ClassId) (X : Nat → Nat) (z9_0 : Int32) (z9_1 : Int32) (z9_2 : Int32) (z9_3 : Int32) (z9_4 : Int32) (z9_5 : Int32) (z9_6 : Int32) (z9_7 : Int32) (z9_8 : Int32) (z9_9 : Int32) (z9_10 : Int32) (z9_11 : Int32) (z9_12 : Int32) (z9_13 : Nat → Int32) (z9_14 : Int32) (z9_15 : Int32) (z9_16 : Nat → Int32) : va_W := [((X 0), .inr (12, [.ref (X 1), .ref (X 8), .ref (X 20), .ref (X 39), .ref (X 41), .ref (X 43), .ref (X 45)])), ((X 1), .inr (8, [.ref (X 2), .int z9_0, .ref (X 3), .int z9_1, .ref (X 4), .ref (X 5), .int z9_2, .ref (X 6), .ref (X 7), .int z9_3])), ((X 20), .inr (11, [.ref (X 1), .ref (X 8), .ref (X 21), .ref (X 28), .ref (X 35), .int z9_4, .ref (X 36), .ref (X 37), .ref (X 38), .int z9_5, .int z9_6, .int z9_7, .int z9_8, .int z9_9, .int z9_10, .int z9_11, .int z9_12])), ((X 36), .inl (ty 0, 6, .inl z9_13)), ((X 45), .inr (2, [.ref (X 46), .ref (X 47), .int z9_14, .int z9_15])), ((X 46), .inl (ty 0, 64, .inl z9_16))]
def vs_k_L_ask_9 : List Cond := .codeWith yL_ask cL_ask 7 (some .int) [(0, 11, 12, 72), (0, 11, 18, 74), (0, 11, 24, 76), (0, 11, 30, 78), (0, 11, 36, 130)] :: ([.methodLink RL 126 yL_asked, .static yL_asked, .initialized RL, .classLink RL 72 "java/lang/IndexOutOfBoundsException", .classLink RL 74 "java/lang/IllegalArgumentException", .classLink RL 76 "java/lang/IllegalStateException"] ++ (vs_k_L_asked_9))
set_option maxRecDepth 20000 in
theorem gv_k_L_ask_9_0 : GoodIn vs_k_L_ask_9 (va_wsS RL 126 yL_asked vs_k_L_asked_9) := goodIn_app (goodIn_sub (by decide +kernel) (by decide +kernel)) (goodIn_sub (fun _ h => List.mem_cons_of_mem _ (List.mem_append_right _ (h))) (by decide +kernel))
set_option maxHeartbeats 4000000 in
set_option maxRecDepth 100000 in
theorem k_L_ask_9 (l : Launch) (hl9 : l.stackTraces = false) (D : va_G) (ty : Nat → ClassId) (td mi sz : Nat) (X : Nat → Nat) (pn : Int32) (rn : Int32) (tn : Int32) (en : Int32) (an : Int32) (ch : Int32) (cg : Int32) (fb : Int32) (mh : Int32) (ml : Int32) (ih : Int32) (lb : Int32) (ic : Int32) (obi : Nat → Int32) (nn : Int32) (kp : Int32) (se : Nat → Int32) (a1 : Int32) (a2 : Int32) (a3 : Int32) (a4 : Int32) (TT : r_k_L_ask_9) (hTT : TT = m_k_L_ask_9 pn obi nn kp se a1) : vx_Met l yL_ask vs_k_L_ask_9 { frames := 9, cells := 2, slots := 12, locals := 148 } (va_Pc [.ref (X 0), .int 9, .int a1, .int a2, .int a3, .int a4] (wq_P D ty td mi (wW_k_L_ask_9 ty X pn rn tn en an ch cg fb mh ml ih lb ic obi nn kp se) sz)) (va_Qi (fun (r : Int32) (u : va_W) => (r = TT ∧ (u = (wW_k_L_ask_9 ty X pn rn tn en an ch cg fb mh ml ih lb ic obi nn kp se)))) (wq_B D (va_A (wW_k_L_ask_9 ty X pn rn tn en an ch cg fb mh ml ih lb ic obi nn kp se) sz)) (va_A (wW_k_L_ask_9 ty X pn rn tn en an ch cg fb mh ml ih lb ic obi nn kp se) sz)) (vx_X (fun u : String × va_W => False) (wq_BX D (va_A (wW_k_L_ask_9 ty X pn rn tn en an ch cg fb mh ml ih lb ic obi nn kp se) sz)) (va_A (wW_k_L_ask_9 ty X pn rn tn en an ch cg fb mh ml ih lb ic obi nn kp se) sz)) 2 12 (va_A (wW_k_L_ask_9 ty X pn rn tn en an ch cg fb mh ml ih lb ic obi nn kp se) sz) := by
  refine vx_ofWH (cc := cL_ask) (maxL := 7) (ret := (some .int)) (hh := [(0, 11, 12, 72), (0, 11, 18, 74), (0, 11, 24, 76), (0, 11, 30, 78), (0, 11, 36, 130)]) (by decide) rfl ?_
  intro p e s m args below meth c s₁ B hml hv
  obtain ⟨rfl, hsz, hP, hK, hD0, hE⟩ := hv
  have hx := B.exec
  have hb := B.bytes
  have hr := B.returns
  have hts := atoms_spec (ws := vs_k_L_ask_9) B.pre
  have hown : s.vm.findClass RL = some m.cls := findClass_of_methodNamed B.named
  have hlocks := B.notSynchronized
  have hTab := vx_table (x := yL_ask) B (hts _ List.mem_cons_self)
  subst hsz
  have hD := hD0.self (sz := s.heap.size)
  generalize hAe : va_A (wW_k_L_ask_9 ty X pn rn tn en an ch cg fb mh ml ih lb ic obi nn kp se) s.heap.size = A at hD hE ⊢
  have hA : ∀ q : Nat, s.heap.size ≤ q → A q := fun q h => by rw [← hAe]; exact Or.inr h
  have hS : va_S A s.heap s.heap [] := va_S.rf
  have hP : va_P D vwCl (wW_k_L_ask_9 ty X pn rn tn en an ch cg fb mh ml ih lb ic obi nn kp se) s.heap := hP
  have hl := lv_entry ([.ref (X 0), .int 9, .int a1, .int a2, .int a3, .int a4]) (n := 7) (Nat.le_of_ble_eq_true rfl)
  rw [lg_entry_eq]
  generalize (lg_sl ([.ref (X 0), .int 9, .int a1, .int a2, .int a3, .int a4]) ++ List.replicate (7 - (lg_sl ([.ref (X 0), .int 9, .int a1, .int a2, .int a3, .int a4])).length) Slot.unset).toArray = ls at hl ⊢
  have hl : lv_has ls 7 [(0, .ref (X 0)), (1, .int 9), (2, .int a1), (3, .int a2), (4, .int a3), (5, .int a4)] := hl
  have END : ∀ (r : Int32), TT = r → ∀ (H : Heap) (locs : List Loc), va_P D vwCl (wW_k_L_ask_9 ty X pn rn tn en an ch cg fb mh ml ih lb ic obi nn kp se) H → va_D A (wW_k_L_ask_9 ty X pn rn tn en an ch cg fb mh ml ih lb ic obi nn kp se) → va_S A s.heap H locs → ∀ (ls : Array Slot) (pc : Nat), decode cL_ask pc = .ok (.ireturn, 1) → W p l e (headSpec vs_k_L_ask_9 { frames := 9, cells := 2, slots := 12, locals := 148 }).room s m ([.ref (X 0), .int 9, .int a1, .int a2, .int a3, .int a4] : List Value).toArray below meth c H locs 2 12 (vx_MQ below (va_Qi (fun (r : Int32) (u : va_W) => (r = TT ∧ (u = (wW_k_L_ask_9 ty X pn rn tn en an ch cg fb mh ml ih lb ic obi nn kp se)))) (wq_B D A) A) (vx_X (fun u : String × va_W => False) (wq_BX D A) A) ([.ref (X 0), .int 9, .int a1, .int a2, .int a3, .int a4] : List Value).toArray s 2 12 A) (F0 m pc ls [.int r]) := by
    intro r hT H locs hP hD hS ls pc hd
    have hM : TT = r := hT
    refine vx_ret ?_
    exact W.iret (v := r) hx hb hr (fun t ht hW => ⟨⟨r, (wW_k_L_ask_9 ty X pn rn tn en an ch cg fb mh ml ih lb ic obi nn kp se), rfl, ⟨(by rw [hM]), rfl⟩, wq_B.of ht hP hD⟩, hS.F ht⟩) hS.2.2 hd
  have hT := hTT
  rw [m_k_L_ask_9] at hT
  refine lv_aload_n hx hb dL_ask_0 rfl (lv_at hl 0 rfl) ?_
  refine lv_iload_n hx hb dL_ask_1 rfl (lv_at hl 1 rfl) ?_
  refine lv_iload_n hx hb dL_ask_2 rfl (lv_at hl 2 rfl) ?_
  refine lv_iload_n hx hb dL_ask_3 rfl (lv_at hl 3 rfl) ?_
  refine lv_iload hx hb dL_ask_4 (lv_at hl 4 rfl) ?_
  refine lv_iload hx hb dL_ask_6 (lv_at hl 5 rfl) ?_
  obtain ⟨t_8, ht_8⟩ : ∃ t, t = m_k_L_asked_9 pn obi nn kp se a1 := ⟨_, rfl⟩
  rw [lE_eq ht_8] at hT
  refine wq_xiW (wc := (wW_k_L_asked_9 ty X pn rn tn en an ch cg fb mh ml ih lb ic obi nn kp se)) (vx_runS (As := [.ref (X 0), .int 9, .int a1, .int a2, .int a3, .int a4]) (rest := []) ⟨hx, hb, hml, hown, hts⟩ (k_L_asked_9 l hl9 D ty td mi s.heap.size X pn rn tn en an ch cg fb mh ml ih lb ic obi nn kp se a1 a2 a3 a4 t_8 ht_8) (va_cwS 6 hts gv_k_L_ask_9_0 rfl rfl rfl (by decide +kernel) ⟨(Nat.le_of_ble_eq_true rfl), (Nat.le_of_ble_eq_true rfl)⟩) (wm_preS hP hD hK hE hS hA [true, true, true, true, true, true] rfl) rfl rfl hl.1 rfl (lv_room (Nat.le_of_ble_eq_true rfl)) dL_ask_8 ⟨(Nat.le_of_ble_eq_true rfl), (Nat.le_of_ble_eq_true rfl)⟩) hS hA hP hD [true, true, true, true, true, true] rfl (fun _ _ h => by rcases h with ⟨-, -, rfl⟩; rfl) (fun _ _ h => by rcases h with ⟨-, h⟩ | ⟨-, h⟩ <;> (cases h; rfl)) (fun E9 u H locs q9 ce hw hP hD hS hce hcv hcl => ?_) (fun r u H locs hw hP hD hS => ?_)
  · rcases hw with ⟨c_1, hEq⟩ | ⟨c_2, hEq⟩
    · cases hEq
      rw [if_neg (show ¬ t_8.1 = 0 by rw [c_1]; decide)] at hT
      rw [if_pos c_1] at hT
      have hP : va_P D vwCl (wW_k_L_ask_9 ty X pn rn tn en an ch cg fb mh ml ih lb ic obi nn kp se) H := hP
      have hD : va_D A (wW_k_L_ask_9 ty X pn rn tn en an ch cg fb mh ml ih lb ic obi nn kp se) := hD
      refine vx_widen (k := 2) (n := 12) (Nat.le_of_ble_eq_true rfl) (Nat.le_of_ble_eq_true rfl) ?_
      refine vx_catch (own := RL) (name := "java/lang/IndexOutOfBoundsException") (E := "java/lang/IndexOutOfBoundsException") hown [] ⟨0, 11, 12, 72⟩ [⟨0, 11, 18, 74⟩, ⟨0, 11, 24, 76⟩, ⟨0, 11, 30, 78⟩, ⟨0, 11, 36, 130⟩] (by rw [hTab]; rfl) (fun z hz => nomatch hz) (by decide) (by decide) (hts (.classLink RL 72 "java/lang/IndexOutOfBoundsException") (by decide +kernel)) (va_Nw.use rfl (hE.ca "java/lang/IndexOutOfBoundsException" "java/lang/IndexOutOfBoundsException" (by decide +kernel))) hce hcv hcl ?_
      refine lv_astore (lv' := [(6, .ref q9), (0, .ref (X 0)), (1, .int 9), (2, .int a1), (3, .int a2), (4, .int a3), (5, .int a4)]) hx hb dL_ask_12 hl (by decide) rfl (fun ls hl => ?_)
      refine lv_sipush (v := (-2001)) hx hb dL_ask_14 (by decide) ?_
      exact END (-2001) hT _ _ hP hD hS _ _ dL_ask_17
    · cases hEq
      rw [if_neg (show ¬ t_8.1 = 0 by rw [c_2]; decide)] at hT
      rw [if_neg (show ¬ t_8.1 = 1 by rw [c_2]; decide)] at hT
      have hP : va_P D vwCl (wW_k_L_ask_9 ty X pn rn tn en an ch cg fb mh ml ih lb ic obi nn kp se) H := hP
      have hD : va_D A (wW_k_L_ask_9 ty X pn rn tn en an ch cg fb mh ml ih lb ic obi nn kp se) := hD
      refine vx_widen (k := 2) (n := 12) (Nat.le_of_ble_eq_true rfl) (Nat.le_of_ble_eq_true rfl) ?_
      refine vx_catch (own := RL) (name := "java/lang/IllegalStateException") (E := "java/lang/IllegalStateException") hown [⟨0, 11, 12, 72⟩, ⟨0, 11, 18, 74⟩] ⟨0, 11, 24, 76⟩ [⟨0, 11, 30, 78⟩, ⟨0, 11, 36, 130⟩] (by rw [hTab]; rfl) (by
          intro z hz
          rcases List.mem_cons.mp hz with rfl | hz
          · exact Or.inr ⟨by decide, "java/lang/IndexOutOfBoundsException", (hts (.classLink RL 72 "java/lang/IndexOutOfBoundsException") (by decide +kernel)), hE.nc "java/lang/IllegalStateException" "java/lang/IndexOutOfBoundsException" (by decide +kernel)⟩
          rcases List.mem_cons.mp hz with rfl | hz
          · exact Or.inr ⟨by decide, "java/lang/IllegalArgumentException", (hts (.classLink RL 74 "java/lang/IllegalArgumentException") (by decide +kernel)), hE.nc "java/lang/IllegalStateException" "java/lang/IllegalArgumentException" (by decide +kernel)⟩
          cases hz) (by decide) (by decide) (hts (.classLink RL 76 "java/lang/IllegalStateException") (by decide +kernel)) (va_Nw.use rfl (hE.ca "java/lang/IllegalStateException" "java/lang/IllegalStateException" (by decide +kernel))) hce hcv hcl ?_
      refine lv_astore (lv' := [(6, .ref q9), (0, .ref (X 0)), (1, .int 9), (2, .int a1), (3, .int a2), (4, .int a3), (5, .int a4)]) hx hb dL_ask_24 hl (by decide) rfl (fun ls hl => ?_)
      refine lv_sipush (v := (-2003)) hx hb dL_ask_26 (by decide) ?_
      exact END (-2003) hT _ _ hP hD hS _ _ dL_ask_29
  · obtain ⟨c_3, rfl, rfl⟩ := hw
    rw [if_pos c_3] at hT
    have hP : va_P D vwCl (wW_k_L_ask_9 ty X pn rn tn en an ch cg fb mh ml ih lb ic obi nn kp se) H := hP
    have hD : va_D A (wW_k_L_ask_9 ty X pn rn tn en an ch cg fb mh ml ih lb ic obi nn kp se) := hD
    refine W.widen (k := 2) (n := 12) (Nat.le_of_ble_eq_true rfl) (Nat.le_of_ble_eq_true rfl) ?_
    exact END t_8.2 hT _ _ hP hD hS _ _ dL_ask_11
def wW_k_L_asked_10 (ty : Nat → ClassId) (X : Nat → Nat) (z9_0 : Int32) (z9_1 : Int32) (z9_2 : Int32) (z9_3 : Int32) (z9_4 : Nat → Int32) (z9_5 : Int32) (z9_6 : Int32) (z9_7 : Int32) (z9_8 : Int32) (z9_9 : Int32) (z9_10 : Int32) (z9_11 : Nat → Int64) (z9_12 : Nat → Int32) (z9_13 : Int32) (z9_14 : Int32) (z9_15 : Int32) (z9_16 : Int32) (z9_17 : Int32) (z9_18 : Int32) (z9_19 : Int32) (z9_20 : Int32) (z9_21 : Int32) (z9_22 : Int32) (z9_23 : Int32) (z9_24 : Nat → Int32) : va_W := [((X 0), .inr (12, [.ref (X 1), .ref (X 8), .ref (X 20), .ref (X 39), .ref (X 41), .ref (X 43), .ref (X 45)])), ((X 1), .inr (8, [.ref (X 2), .int z9_0, .ref (X 3), .int z9_1, .ref (X 4), .ref (X 5), .int z9_2, .ref (X 6), .ref (X 7), .int z9_3])), ((X 2), .inl (ty 0, 6, .inl z9_4)), ((X 8), .inr (5, [.ref (X 1), .ref (X 9), .ref (X 10), .ref (X 12), .ref (X 14), .int z9_5, .ref (X 15), .ref (X 16), .ref (X 17), .int z9_6, .ref (X 18), .ref (X 19), .int z9_7, .int z9_8, .int z9_9, .int z9_10])), ((X 10), .inr (3, [.ref (X 11)])), ((X 11), .inl (ty 1, 6, .inr (.inl z9_11))), ((X 19), .inl (ty 0, 384, .inl z9_12)), ((X 20), .inr (11, [.ref (X 1), .ref (X 8), .ref (X 21), .ref (X 28), .ref (X 35), .int z9_13, .ref (X 36), .ref (X 37), .ref (X 38), .int z9_14, .int z9_15, .int z9_16, .int z9_17, .int z9_18, .int z9_19, .int z9_20, .int z9_21])), ((X 45), .inr (2, [.ref (X 46), .ref (X 47), .int z9_22, .int z9_23])), ((X 46), .inl (ty 0, 64, .inl z9_24))]
def vs_k_L_asked_10 : List Cond := .code yL_asked cL_asked 6 (some .int) :: ([.methodLink RL 117 yX10_holds, .instanceMethod yX10_holds, .selects RX10 yX10_holds yX10_holds, .initialized RX10] ++ (vs_k_X10_holds))
set_option maxRecDepth 20000 in
theorem gv_k_L_asked_10_0 : GoodIn vs_k_L_asked_10 (wsV RL 117 RX10 yX10_holds vs_k_X10_holds) := goodIn_app (goodIn_sub (by decide +kernel) (by decide +kernel)) (goodIn_sub (fun _ h => List.mem_cons_of_mem _ (List.mem_append_right _ (h))) (by decide +kernel))
set_option maxHeartbeats 4000000 in
set_option maxRecDepth 100000 in
theorem k_L_asked_10 (l : Launch) (hl9 : l.stackTraces = false) (D : va_G) (ty : Nat → ClassId) (td mi sz : Nat) (X : Nat → Nat) (pn : Int32) (rn : Int32) (tn : Int32) (en : Int32) (pl : Nat → Int32) (hn : Int32) (kn : Int32) (on : Int32) (cu : Int32) (pu : Int32) (gw : Int32) (su : Nat → Int64) (ob : Nat → Int32) (an : Int32) (ch : Int32) (cg : Int32) (fb : Int32) (mh : Int32) (ml : Int32) (ih : Int32) (lb : Int32) (ic : Int32) (nn : Int32) (kp : Int32) (se : Nat → Int32) (a1 : Int32) (a2 : Int32) (a3 : Int32) (a4 : Int32) (TT : r_k_L_asked_10) (hTT : TT = m_k_L_asked_10 pn pl on su ob nn kp se a1 a2 a3) : vx_Met l yL_asked vs_k_L_asked_10 { frames := 8, cells := 2, slots := 12, locals := 130 } (va_Pc [.ref (X 0), .int 10, .int a1, .int a2, .int a3, .int a4] (wq_P D ty td mi (wW_k_L_asked_10 ty X pn rn tn en pl hn kn on cu pu gw su ob an ch cg fb mh ml ih lb ic nn kp se) sz)) (va_Qi (fun (r : Int32) (u : va_W) => (TT.1 = 0 ∧ r = TT.2 ∧ (u = (wW_k_L_asked_10 ty X pn rn tn en pl hn kn on cu pu gw su ob an ch cg fb mh ml ih lb ic nn kp se)))) (wq_B D (va_A (wW_k_L_asked_10 ty X pn rn tn en pl hn kn on cu pu gw su ob an ch cg fb mh ml ih lb ic nn kp se) sz)) (va_A (wW_k_L_asked_10 ty X pn rn tn en pl hn kn on cu pu gw su ob an ch cg fb mh ml ih lb ic nn kp se) sz)) (vx_X (fun u : String × va_W => (TT.1 = 1 ∧ u = ("java/lang/IndexOutOfBoundsException", (wW_k_L_asked_10 ty X pn rn tn en pl hn kn on cu pu gw su ob an ch cg fb mh ml ih lb ic nn kp se))) ∨ (TT.1 = 2 ∧ u = ("java/lang/IllegalArgumentException", (wW_k_L_asked_10 ty X pn rn tn en pl hn kn on cu pu gw su ob an ch cg fb mh ml ih lb ic nn kp se))) ∨ (TT.1 = 3 ∧ u = ("java/lang/IllegalStateException", (wW_k_L_asked_10 ty X pn rn tn en pl hn kn on cu pu gw su ob an ch cg fb mh ml ih lb ic nn kp se)))) (wq_BX D (va_A (wW_k_L_asked_10 ty X pn rn tn en pl hn kn on cu pu gw su ob an ch cg fb mh ml ih lb ic nn kp se) sz)) (va_A (wW_k_L_asked_10 ty X pn rn tn en pl hn kn on cu pu gw su ob an ch cg fb mh ml ih lb ic nn kp se) sz)) 2 12 (va_A (wW_k_L_asked_10 ty X pn rn tn en pl hn kn on cu pu gw su ob an ch cg fb mh ml ih lb ic nn kp se) sz) := by
  refine vx_ofW (cc := cL_asked) (maxL := 6) (ret := (some .int)) (by decide) rfl ?_
  intro p e s m args below meth c s₁ B hml hEx hv
  obtain ⟨rfl, hsz, hP, hK, hD0, hE⟩ := hv
  have hx := B.exec
  have hb := B.bytes
  have hr := B.returns
  have hts := atoms_spec (ws := vs_k_L_asked_10) B.pre
  have hown : s.vm.findClass RL = some m.cls := findClass_of_methodNamed B.named
  have hlocks := B.notSynchronized
  subst hsz
  have hD := hD0.self (sz := s.heap.size)
  generalize hAe : va_A (wW_k_L_asked_10 ty X pn rn tn en pl hn kn on cu pu gw su ob an ch cg fb mh ml ih lb ic nn kp se) s.heap.size = A at hD hE ⊢
  have hA : ∀ q : Nat, s.heap.size ≤ q → A q := fun q h => by rw [← hAe]; exact Or.inr h
  have hS : va_S A s.heap s.heap [] := va_S.rf
  have hP : va_P D vwCl (wW_k_L_asked_10 ty X pn rn tn en pl hn kn on cu pu gw su ob an ch cg fb mh ml ih lb ic nn kp se) s.heap := hP
  have hl := lv_entry ([.ref (X 0), .int 10, .int a1, .int a2, .int a3, .int a4]) (n := 6) (Nat.le_of_ble_eq_true rfl)
  rw [lg_entry_eq]
  generalize (lg_sl ([.ref (X 0), .int 10, .int a1, .int a2, .int a3, .int a4]) ++ List.replicate (6 - (lg_sl ([.ref (X 0), .int 10, .int a1, .int a2, .int a3, .int a4])).length) Slot.unset).toArray = ls at hl ⊢
  have hl : lv_has ls 6 [(0, .ref (X 0)), (1, .int 10), (2, .int a1), (3, .int a2), (4, .int a3), (5, .int a4)] := hl
  have END : ∀ (r : Int32), TT = (0, r) → ∀ (H : Heap) (locs : List Loc), va_P D vwCl (wW_k_L_asked_10 ty X pn rn tn en pl hn kn on cu pu gw su ob an ch cg fb mh ml ih lb ic nn kp se) H → va_D A (wW_k_L_asked_10 ty X pn rn tn en pl hn kn on cu pu gw su ob an ch cg fb mh ml ih lb ic nn kp se) → va_S A s.heap H locs → ∀ (ls : Array Slot) (pc : Nat), decode cL_asked pc = .ok (.ireturn, 1) → W p l e (headSpec vs_k_L_asked_10 { frames := 8, cells := 2, slots := 12, locals := 130 }).room s m ([.ref (X 0), .int 10, .int a1, .int a2, .int a3, .int a4] : List Value).toArray below meth c H locs 2 12 (vx_MQ below (va_Qi (fun (r : Int32) (u : va_W) => (TT.1 = 0 ∧ r = TT.2 ∧ (u = (wW_k_L_asked_10 ty X pn rn tn en pl hn kn on cu pu gw su ob an ch cg fb mh ml ih lb ic nn kp se)))) (wq_B D A) A) (vx_X (fun u : String × va_W => (TT.1 = 1 ∧ u = ("java/lang/IndexOutOfBoundsException", (wW_k_L_asked_10 ty X pn rn tn en pl hn kn on cu pu gw su ob an ch cg fb mh ml ih lb ic nn kp se))) ∨ (TT.1 = 2 ∧ u = ("java/lang/IllegalArgumentException", (wW_k_L_asked_10 ty X pn rn tn en pl hn kn on cu pu gw su ob an ch cg fb mh ml ih lb ic nn kp se))) ∨ (TT.1 = 3 ∧ u = ("java/lang/IllegalStateException", (wW_k_L_asked_10 ty X pn rn tn en pl hn kn on cu pu gw su ob an ch cg fb mh ml ih lb ic nn kp se)))) (wq_BX D A) A) ([.ref (X 0), .int 10, .int a1, .int a2, .int a3, .int a4] : List Value).toArray s 2 12 A) (F0 m pc ls [.int r]) := by
    intro r hT H locs hP hD hS ls pc hd
    have hM : TT = (0, r) := hT
    refine vx_ret ?_
    exact W.iret (v := r) hx hb hr (fun t ht hW => ⟨⟨r, (wW_k_L_asked_10 ty X pn rn tn en pl hn kn on cu pu gw su ob an ch cg fb mh ml ih lb ic nn kp se), rfl, ⟨(by rw [hM]), (by rw [hM]), rfl⟩, wq_B.of ht hP hD⟩, hS.F ht⟩) hS.2.2 hd
  have hT := hTT
  rw [m_k_L_asked_10] at hT
  refine lv_iload_n hx hb dL_asked_0 rfl (lv_at hl 1 rfl) ?_
  refine lv_tableIn (off := 132) (tgt := 133) hx hb dL_asked_1 (by decide) (by decide) rfl (by decide) ?_
  refine lv_aload_n hx hb dL_asked_133 rfl (lv_at hl 0 rfl) ?_
  refine lv_iload_n hx hb dL_asked_134 rfl (lv_at hl 2 rfl) ?_
  refine lv_iload_n hx hb dL_asked_135 rfl (lv_at hl 3 rfl) ?_
  refine lv_iload hx hb dL_asked_136 (lv_at hl 4 rfl) ?_
  obtain ⟨t_138, ht_138⟩ : ∃ t, t = m_k_X10_holds pn pl on su ob nn kp se a1 a2 a3 := ⟨_, rfl⟩
  rw [lE_eq ht_138] at hT
  refine wq_xiW (wc := (wW_k_X10_holds ty X pn rn tn en pl hn kn on cu pu gw su ob an ch cg fb mh ml ih lb ic nn kp se)) (vx_runV (As := [.int a1, .int a2, .int a3]) (rest := []) ⟨hx, hb, hml, hown, hts⟩ (k_X10_holds l hl9 D ty td mi s.heap.size X pn rn tn en pl hn kn on cu pu gw su ob an ch cg fb mh ml ih lb ic nn kp se a1 a2 a3 t_138 ht_138) (cwV 3 hts gv_k_L_asked_10_0 rfl rfl rfl (by decide +kernel) ⟨(Nat.le_of_ble_eq_true rfl), (Nat.le_of_ble_eq_true rfl)⟩) (wm_V (wm_preS hP hD hK hE hS hA [true, true, true, true, true, true, true, true, true, true] rfl) (va_recv (q0 := 0) (ci := 12) hK hP rfl rfl)) rfl rfl hl.1 rfl (lv_room (Nat.le_of_ble_eq_true rfl)) dL_asked_138 ⟨(Nat.le_of_ble_eq_true rfl), (Nat.le_of_ble_eq_true rfl)⟩) hS hA hP hD [true, true, true, true, true, true, true, true, true, true] rfl (fun _ _ h => by rcases h with ⟨-, -, rfl⟩; rfl) (fun _ _ h => by rcases h with ⟨-, h⟩ | ⟨-, h⟩ | ⟨-, h⟩ <;> (cases h; rfl)) (fun E9 u H locs q9 ce hw hP hD hS hce hcv hcl => ?_) (fun r u H locs hw hP hD hS => ?_)
  · rcases hw with ⟨c_1, hEq⟩ | ⟨c_2, hEq⟩ | ⟨c_3, hEq⟩
    · cases hEq
      rw [if_neg (show ¬ t_138.1 = 0 by rw [c_1]; decide)] at hT
      rw [if_pos c_1] at hT
      have hP : va_P D vwCl (wW_k_L_asked_10 ty X pn rn tn en pl hn kn on cu pu gw su ob an ch cg fb mh ml ih lb ic nn kp se) H := hP
      have hD : va_D A (wW_k_L_asked_10 ty X pn rn tn en pl hn kn on cu pu gw su ob an ch cg fb mh ml ih lb ic nn kp se) := hD
      refine vx_widen (k := 2) (n := 12) (Nat.le_of_ble_eq_true rfl) (Nat.le_of_ble_eq_true rfl) ?_
      exact vx_out (E := "java/lang/IndexOutOfBoundsException") (fun x hx => (hEx x hx).elim) hlocks hce hcv hcl (fun t ht ha => wq_thrW0 (W := (wW_k_L_asked_10 ty X pn rn tn en pl hn kn on cu pu gw su ob an ch cg fb mh ml ih lb ic nn kp se)) hS hP hD (by exact (Or.inl ⟨(by rw [hT]), (by first | rw [hT] | rfl)⟩)) ht) hS.2.2 (Nat.le_refl _) (Nat.le_refl _)
    · cases hEq
      rw [if_neg (show ¬ t_138.1 = 0 by rw [c_2]; decide)] at hT
      rw [if_neg (show ¬ t_138.1 = 1 by rw [c_2]; decide)] at hT
      rw [if_pos c_2] at hT
      have hP : va_P D vwCl (wW_k_L_asked_10 ty X pn rn tn en pl hn kn on cu pu gw su ob an ch cg fb mh ml ih lb ic nn kp se) H := hP
      have hD : va_D A (wW_k_L_asked_10 ty X pn rn tn en pl hn kn on cu pu gw su ob an ch cg fb mh ml ih lb ic nn kp se) := hD
      refine vx_widen (k := 2) (n := 12) (Nat.le_of_ble_eq_true rfl) (Nat.le_of_ble_eq_true rfl) ?_
      exact vx_out (E := "java/lang/IllegalArgumentException") (fun x hx => (hEx x hx).elim) hlocks hce hcv hcl (fun t ht ha => wq_thrW0 (W := (wW_k_L_asked_10 ty X pn rn tn en pl hn kn on cu pu gw su ob an ch cg fb mh ml ih lb ic nn kp se)) hS hP hD (by exact (Or.inr (Or.inl ⟨(by rw [hT]), (by first | rw [hT] | rfl)⟩))) ht) hS.2.2 (Nat.le_refl _) (Nat.le_refl _)
    · cases hEq
      rw [if_neg (show ¬ t_138.1 = 0 by rw [c_3]; decide)] at hT
      rw [if_neg (show ¬ t_138.1 = 1 by rw [c_3]; decide)] at hT
      rw [if_neg (show ¬ t_138.1 = 2 by rw [c_3]; decide)] at hT
      have hP : va_P D vwCl (wW_k_L_asked_10 ty X pn rn tn en pl hn kn on cu pu gw su ob an ch cg fb mh ml ih lb ic nn kp se) H := hP
      have hD : va_D A (wW_k_L_asked_10 ty X pn rn tn en pl hn kn on cu pu gw su ob an ch cg fb mh ml ih lb ic nn kp se) := hD
      refine vx_widen (k := 2) (n := 12) (Nat.le_of_ble_eq_true rfl) (Nat.le_of_ble_eq_true rfl) ?_
      exact vx_out (E := "java/lang/IllegalStateException") (fun x hx => (hEx x hx).elim) hlocks hce hcv hcl (fun t ht ha => wq_thrW0 (W := (wW_k_L_asked_10 ty X pn rn tn en pl hn kn on cu pu gw su ob an ch cg fb mh ml ih lb ic nn kp se)) hS hP hD (by exact (Or.inr (Or.inr ⟨(by rw [hT]), (by first | rw [hT] | rfl)⟩))) ht) hS.2.2 (Nat.le_refl _) (Nat.le_refl _)
  · obtain ⟨c_4, rfl, rfl⟩ := hw
    rw [if_pos c_4] at hT
    have hP : va_P D vwCl (wW_k_L_asked_10 ty X pn rn tn en pl hn kn on cu pu gw su ob an ch cg fb mh ml ih lb ic nn kp se) H := hP
    have hD : va_D A (wW_k_L_asked_10 ty X pn rn tn en pl hn kn on cu pu gw su ob an ch cg fb mh ml ih lb ic nn kp se) := hD
    refine W.widen (k := 2) (n := 12) (Nat.le_of_ble_eq_true rfl) (Nat.le_of_ble_eq_true rfl) ?_
    exact END t_138.2 hT _ _ hP hD hS _ _ dL_asked_141
def wW_k_L_ask_10 (ty : Nat → ClassId) (X : Nat → Nat) (z9_0 : Int32) (z9_1 : Int32) (z9_2 : Int32) (z9_3 : Int32) (z9_4 : Nat → Int32) (z9_5 : Int32) (z9_6 : Int32) (z9_7 : Int32) (z9_8 : Int32) (z9_9 : Int32) (z9_10 : Int32) (z9_11 : Nat → Int64) (z9_12 : Nat → Int32) (z9_13 : Int32) (z9_14 : Int32) (z9_15 : Int32) (z9_16 : Int32) (z9_17 : Int32) (z9_18 : Int32) (z9_19 : Int32) (z9_20 : Int32) (z9_21 : Int32) (z9_22 : Int32) (z9_23 : Int32) (z9_24 : Nat → Int32) : va_W := [((X 0), .inr (12, [.ref (X 1), .ref (X 8), .ref (X 20), .ref (X 39), .ref (X 41), .ref (X 43), .ref (X 45)])), ((X 1), .inr (8, [.ref (X 2), .int z9_0, .ref (X 3), .int z9_1, .ref (X 4), .ref (X 5), .int z9_2, .ref (X 6), .ref (X 7), .int z9_3])), ((X 2), .inl (ty 0, 6, .inl z9_4)), ((X 8), .inr (5, [.ref (X 1), .ref (X 9), .ref (X 10), .ref (X 12), .ref (X 14), .int z9_5, .ref (X 15), .ref (X 16), .ref (X 17), .int z9_6, .ref (X 18), .ref (X 19), .int z9_7, .int z9_8, .int z9_9, .int z9_10])), ((X 10), .inr (3, [.ref (X 11)])), ((X 11), .inl (ty 1, 6, .inr (.inl z9_11))), ((X 19), .inl (ty 0, 384, .inl z9_12)), ((X 20), .inr (11, [.ref (X 1), .ref (X 8), .ref (X 21), .ref (X 28), .ref (X 35), .int z9_13, .ref (X 36), .ref (X 37), .ref (X 38), .int z9_14, .int z9_15, .int z9_16, .int z9_17, .int z9_18, .int z9_19, .int z9_20, .int z9_21])), ((X 45), .inr (2, [.ref (X 46), .ref (X 47), .int z9_22, .int z9_23])), ((X 46), .inl (ty 0, 64, .inl z9_24))]
def vs_k_L_ask_10 : List Cond := .codeWith yL_ask cL_ask 7 (some .int) [(0, 11, 12, 72), (0, 11, 18, 74), (0, 11, 24, 76), (0, 11, 30, 78), (0, 11, 36, 130)] :: ([.methodLink RL 126 yL_asked, .static yL_asked, .initialized RL, .classLink RL 72 "java/lang/IndexOutOfBoundsException", .classLink RL 74 "java/lang/IllegalArgumentException", .classLink RL 76 "java/lang/IllegalStateException"] ++ (vs_k_L_asked_10))
set_option maxRecDepth 20000 in
theorem gv_k_L_ask_10_0 : GoodIn vs_k_L_ask_10 (va_wsS RL 126 yL_asked vs_k_L_asked_10) := goodIn_app (goodIn_sub (by decide +kernel) (by decide +kernel)) (goodIn_sub (fun _ h => List.mem_cons_of_mem _ (List.mem_append_right _ (h))) (by decide +kernel))
set_option maxHeartbeats 4000000 in
set_option maxRecDepth 100000 in
theorem k_L_ask_10 (l : Launch) (hl9 : l.stackTraces = false) (D : va_G) (ty : Nat → ClassId) (td mi sz : Nat) (X : Nat → Nat) (pn : Int32) (rn : Int32) (tn : Int32) (en : Int32) (pl : Nat → Int32) (hn : Int32) (kn : Int32) (on : Int32) (cu : Int32) (pu : Int32) (gw : Int32) (su : Nat → Int64) (ob : Nat → Int32) (an : Int32) (ch : Int32) (cg : Int32) (fb : Int32) (mh : Int32) (ml : Int32) (ih : Int32) (lb : Int32) (ic : Int32) (nn : Int32) (kp : Int32) (se : Nat → Int32) (a1 : Int32) (a2 : Int32) (a3 : Int32) (a4 : Int32) (TT : r_k_L_ask_10) (hTT : TT = m_k_L_ask_10 pn pl on su ob nn kp se a1 a2 a3) : vx_Met l yL_ask vs_k_L_ask_10 { frames := 9, cells := 2, slots := 12, locals := 155 } (va_Pc [.ref (X 0), .int 10, .int a1, .int a2, .int a3, .int a4] (wq_P D ty td mi (wW_k_L_ask_10 ty X pn rn tn en pl hn kn on cu pu gw su ob an ch cg fb mh ml ih lb ic nn kp se) sz)) (va_Qi (fun (r : Int32) (u : va_W) => (r = TT ∧ (u = (wW_k_L_ask_10 ty X pn rn tn en pl hn kn on cu pu gw su ob an ch cg fb mh ml ih lb ic nn kp se)))) (wq_B D (va_A (wW_k_L_ask_10 ty X pn rn tn en pl hn kn on cu pu gw su ob an ch cg fb mh ml ih lb ic nn kp se) sz)) (va_A (wW_k_L_ask_10 ty X pn rn tn en pl hn kn on cu pu gw su ob an ch cg fb mh ml ih lb ic nn kp se) sz)) (vx_X (fun u : String × va_W => False) (wq_BX D (va_A (wW_k_L_ask_10 ty X pn rn tn en pl hn kn on cu pu gw su ob an ch cg fb mh ml ih lb ic nn kp se) sz)) (va_A (wW_k_L_ask_10 ty X pn rn tn en pl hn kn on cu pu gw su ob an ch cg fb mh ml ih lb ic nn kp se) sz)) 2 12 (va_A (wW_k_L_ask_10 ty X pn rn tn en pl hn kn on cu pu gw su ob an ch cg fb mh ml ih lb ic nn kp se) sz) := by
  refine vx_ofWH (cc := cL_ask) (maxL := 7) (ret := (some .int)) (hh := [(0, 11, 12, 72), (0, 11, 18, 74), (0, 11, 24, 76), (0, 11, 30, 78), (0, 11, 36, 130)]) (by decide) rfl ?_
  intro p e s m args below meth c s₁ B hml hv
  obtain ⟨rfl, hsz, hP, hK, hD0, hE⟩ := hv
  have hx := B.exec
  have hb := B.bytes
  have hr := B.returns
  have hts := atoms_spec (ws := vs_k_L_ask_10) B.pre
  have hown : s.vm.findClass RL = some m.cls := findClass_of_methodNamed B.named
  have hlocks := B.notSynchronized
  have hTab := vx_table (x := yL_ask) B (hts _ List.mem_cons_self)
  subst hsz
  have hD := hD0.self (sz := s.heap.size)
  generalize hAe : va_A (wW_k_L_ask_10 ty X pn rn tn en pl hn kn on cu pu gw su ob an ch cg fb mh ml ih lb ic nn kp se) s.heap.size = A at hD hE ⊢
  have hA : ∀ q : Nat, s.heap.size ≤ q → A q := fun q h => by rw [← hAe]; exact Or.inr h
  have hS : va_S A s.heap s.heap [] := va_S.rf
  have hP : va_P D vwCl (wW_k_L_ask_10 ty X pn rn tn en pl hn kn on cu pu gw su ob an ch cg fb mh ml ih lb ic nn kp se) s.heap := hP
  have hl := lv_entry ([.ref (X 0), .int 10, .int a1, .int a2, .int a3, .int a4]) (n := 7) (Nat.le_of_ble_eq_true rfl)
  rw [lg_entry_eq]
  generalize (lg_sl ([.ref (X 0), .int 10, .int a1, .int a2, .int a3, .int a4]) ++ List.replicate (7 - (lg_sl ([.ref (X 0), .int 10, .int a1, .int a2, .int a3, .int a4])).length) Slot.unset).toArray = ls at hl ⊢
  have hl : lv_has ls 7 [(0, .ref (X 0)), (1, .int 10), (2, .int a1), (3, .int a2), (4, .int a3), (5, .int a4)] := hl
  have END : ∀ (r : Int32), TT = r → ∀ (H : Heap) (locs : List Loc), va_P D vwCl (wW_k_L_ask_10 ty X pn rn tn en pl hn kn on cu pu gw su ob an ch cg fb mh ml ih lb ic nn kp se) H → va_D A (wW_k_L_ask_10 ty X pn rn tn en pl hn kn on cu pu gw su ob an ch cg fb mh ml ih lb ic nn kp se) → va_S A s.heap H locs → ∀ (ls : Array Slot) (pc : Nat), decode cL_ask pc = .ok (.ireturn, 1) → W p l e (headSpec vs_k_L_ask_10 { frames := 9, cells := 2, slots := 12, locals := 155 }).room s m ([.ref (X 0), .int 10, .int a1, .int a2, .int a3, .int a4] : List Value).toArray below meth c H locs 2 12 (vx_MQ below (va_Qi (fun (r : Int32) (u : va_W) => (r = TT ∧ (u = (wW_k_L_ask_10 ty X pn rn tn en pl hn kn on cu pu gw su ob an ch cg fb mh ml ih lb ic nn kp se)))) (wq_B D A) A) (vx_X (fun u : String × va_W => False) (wq_BX D A) A) ([.ref (X 0), .int 10, .int a1, .int a2, .int a3, .int a4] : List Value).toArray s 2 12 A) (F0 m pc ls [.int r]) := by
    intro r hT H locs hP hD hS ls pc hd
    have hM : TT = r := hT
    refine vx_ret ?_
    exact W.iret (v := r) hx hb hr (fun t ht hW => ⟨⟨r, (wW_k_L_ask_10 ty X pn rn tn en pl hn kn on cu pu gw su ob an ch cg fb mh ml ih lb ic nn kp se), rfl, ⟨(by rw [hM]), rfl⟩, wq_B.of ht hP hD⟩, hS.F ht⟩) hS.2.2 hd
  have hT := hTT
  rw [m_k_L_ask_10] at hT
  refine lv_aload_n hx hb dL_ask_0 rfl (lv_at hl 0 rfl) ?_
  refine lv_iload_n hx hb dL_ask_1 rfl (lv_at hl 1 rfl) ?_
  refine lv_iload_n hx hb dL_ask_2 rfl (lv_at hl 2 rfl) ?_
  refine lv_iload_n hx hb dL_ask_3 rfl (lv_at hl 3 rfl) ?_
  refine lv_iload hx hb dL_ask_4 (lv_at hl 4 rfl) ?_
  refine lv_iload hx hb dL_ask_6 (lv_at hl 5 rfl) ?_
  obtain ⟨t_8, ht_8⟩ : ∃ t, t = m_k_L_asked_10 pn pl on su ob nn kp se a1 a2 a3 := ⟨_, rfl⟩
  rw [lE_eq ht_8] at hT
  refine wq_xiW (wc := (wW_k_L_asked_10 ty X pn rn tn en pl hn kn on cu pu gw su ob an ch cg fb mh ml ih lb ic nn kp se)) (vx_runS (As := [.ref (X 0), .int 10, .int a1, .int a2, .int a3, .int a4]) (rest := []) ⟨hx, hb, hml, hown, hts⟩ (k_L_asked_10 l hl9 D ty td mi s.heap.size X pn rn tn en pl hn kn on cu pu gw su ob an ch cg fb mh ml ih lb ic nn kp se a1 a2 a3 a4 t_8 ht_8) (va_cwS 6 hts gv_k_L_ask_10_0 rfl rfl rfl (by decide +kernel) ⟨(Nat.le_of_ble_eq_true rfl), (Nat.le_of_ble_eq_true rfl)⟩) (wm_preS hP hD hK hE hS hA [true, true, true, true, true, true, true, true, true, true] rfl) rfl rfl hl.1 rfl (lv_room (Nat.le_of_ble_eq_true rfl)) dL_ask_8 ⟨(Nat.le_of_ble_eq_true rfl), (Nat.le_of_ble_eq_true rfl)⟩) hS hA hP hD [true, true, true, true, true, true, true, true, true, true] rfl (fun _ _ h => by rcases h with ⟨-, -, rfl⟩; rfl) (fun _ _ h => by rcases h with ⟨-, h⟩ | ⟨-, h⟩ | ⟨-, h⟩ <;> (cases h; rfl)) (fun E9 u H locs q9 ce hw hP hD hS hce hcv hcl => ?_) (fun r u H locs hw hP hD hS => ?_)
  · rcases hw with ⟨c_1, hEq⟩ | ⟨c_2, hEq⟩ | ⟨c_3, hEq⟩
    · cases hEq
      rw [if_neg (show ¬ t_8.1 = 0 by rw [c_1]; decide)] at hT
      rw [if_pos c_1] at hT
      have hP : va_P D vwCl (wW_k_L_ask_10 ty X pn rn tn en pl hn kn on cu pu gw su ob an ch cg fb mh ml ih lb ic nn kp se) H := hP
      have hD : va_D A (wW_k_L_ask_10 ty X pn rn tn en pl hn kn on cu pu gw su ob an ch cg fb mh ml ih lb ic nn kp se) := hD
      refine vx_widen (k := 2) (n := 12) (Nat.le_of_ble_eq_true rfl) (Nat.le_of_ble_eq_true rfl) ?_
      refine vx_catch (own := RL) (name := "java/lang/IndexOutOfBoundsException") (E := "java/lang/IndexOutOfBoundsException") hown [] ⟨0, 11, 12, 72⟩ [⟨0, 11, 18, 74⟩, ⟨0, 11, 24, 76⟩, ⟨0, 11, 30, 78⟩, ⟨0, 11, 36, 130⟩] (by rw [hTab]; rfl) (fun z hz => nomatch hz) (by decide) (by decide) (hts (.classLink RL 72 "java/lang/IndexOutOfBoundsException") (by decide +kernel)) (va_Nw.use rfl (hE.ca "java/lang/IndexOutOfBoundsException" "java/lang/IndexOutOfBoundsException" (by decide +kernel))) hce hcv hcl ?_
      refine lv_astore (lv' := [(6, .ref q9), (0, .ref (X 0)), (1, .int 10), (2, .int a1), (3, .int a2), (4, .int a3), (5, .int a4)]) hx hb dL_ask_12 hl (by decide) rfl (fun ls hl => ?_)
      refine lv_sipush (v := (-2001)) hx hb dL_ask_14 (by decide) ?_
      exact END (-2001) hT _ _ hP hD hS _ _ dL_ask_17
    · cases hEq
      rw [if_neg (show ¬ t_8.1 = 0 by rw [c_2]; decide)] at hT
      rw [if_neg (show ¬ t_8.1 = 1 by rw [c_2]; decide)] at hT
      rw [if_pos c_2] at hT
      have hP : va_P D vwCl (wW_k_L_ask_10 ty X pn rn tn en pl hn kn on cu pu gw su ob an ch cg fb mh ml ih lb ic nn kp se) H := hP
      have hD : va_D A (wW_k_L_ask_10 ty X pn rn tn en pl hn kn on cu pu gw su ob an ch cg fb mh ml ih lb ic nn kp se) := hD
      refine vx_widen (k := 2) (n := 12) (Nat.le_of_ble_eq_true rfl) (Nat.le_of_ble_eq_true rfl) ?_
      refine vx_catch (own := RL) (name := "java/lang/IllegalArgumentException") (E := "java/lang/IllegalArgumentException") hown [⟨0, 11, 12, 72⟩] ⟨0, 11, 18, 74⟩ [⟨0, 11, 24, 76⟩, ⟨0, 11, 30, 78⟩, ⟨0, 11, 36, 130⟩] (by rw [hTab]; rfl) (by
          intro z hz
          rcases List.mem_cons.mp hz with rfl | hz
          · exact Or.inr ⟨by decide, "java/lang/IndexOutOfBoundsException", (hts (.classLink RL 72 "java/lang/IndexOutOfBoundsException") (by decide +kernel)), hE.nc "java/lang/IllegalArgumentException" "java/lang/IndexOutOfBoundsException" (by decide +kernel)⟩
          cases hz) (by decide) (by decide) (hts (.classLink RL 74 "java/lang/IllegalArgumentException") (by decide +kernel)) (va_Nw.use rfl (hE.ca "java/lang/IllegalArgumentException" "java/lang/IllegalArgumentException" (by decide +kernel))) hce hcv hcl ?_
      refine lv_astore (lv' := [(6, .ref q9), (0, .ref (X 0)), (1, .int 10), (2, .int a1), (3, .int a2), (4, .int a3), (5, .int a4)]) hx hb dL_ask_18 hl (by decide) rfl (fun ls hl => ?_)
      refine lv_sipush (v := (-2002)) hx hb dL_ask_20 (by decide) ?_
      exact END (-2002) hT _ _ hP hD hS _ _ dL_ask_23
    · cases hEq
      rw [if_neg (show ¬ t_8.1 = 0 by rw [c_3]; decide)] at hT
      rw [if_neg (show ¬ t_8.1 = 1 by rw [c_3]; decide)] at hT
      rw [if_neg (show ¬ t_8.1 = 2 by rw [c_3]; decide)] at hT
      have hP : va_P D vwCl (wW_k_L_ask_10 ty X pn rn tn en pl hn kn on cu pu gw su ob an ch cg fb mh ml ih lb ic nn kp se) H := hP
      have hD : va_D A (wW_k_L_ask_10 ty X pn rn tn en pl hn kn on cu pu gw su ob an ch cg fb mh ml ih lb ic nn kp se) := hD
      refine vx_widen (k := 2) (n := 12) (Nat.le_of_ble_eq_true rfl) (Nat.le_of_ble_eq_true rfl) ?_
      refine vx_catch (own := RL) (name := "java/lang/IllegalStateException") (E := "java/lang/IllegalStateException") hown [⟨0, 11, 12, 72⟩, ⟨0, 11, 18, 74⟩] ⟨0, 11, 24, 76⟩ [⟨0, 11, 30, 78⟩, ⟨0, 11, 36, 130⟩] (by rw [hTab]; rfl) (by
          intro z hz
          rcases List.mem_cons.mp hz with rfl | hz
          · exact Or.inr ⟨by decide, "java/lang/IndexOutOfBoundsException", (hts (.classLink RL 72 "java/lang/IndexOutOfBoundsException") (by decide +kernel)), hE.nc "java/lang/IllegalStateException" "java/lang/IndexOutOfBoundsException" (by decide +kernel)⟩
          rcases List.mem_cons.mp hz with rfl | hz
          · exact Or.inr ⟨by decide, "java/lang/IllegalArgumentException", (hts (.classLink RL 74 "java/lang/IllegalArgumentException") (by decide +kernel)), hE.nc "java/lang/IllegalStateException" "java/lang/IllegalArgumentException" (by decide +kernel)⟩
          cases hz) (by decide) (by decide) (hts (.classLink RL 76 "java/lang/IllegalStateException") (by decide +kernel)) (va_Nw.use rfl (hE.ca "java/lang/IllegalStateException" "java/lang/IllegalStateException" (by decide +kernel))) hce hcv hcl ?_
      refine lv_astore (lv' := [(6, .ref q9), (0, .ref (X 0)), (1, .int 10), (2, .int a1), (3, .int a2), (4, .int a3), (5, .int a4)]) hx hb dL_ask_24 hl (by decide) rfl (fun ls hl => ?_)
      refine lv_sipush (v := (-2003)) hx hb dL_ask_26 (by decide) ?_
      exact END (-2003) hT _ _ hP hD hS _ _ dL_ask_29
  · obtain ⟨c_4, rfl, rfl⟩ := hw
    rw [if_pos c_4] at hT
    have hP : va_P D vwCl (wW_k_L_ask_10 ty X pn rn tn en pl hn kn on cu pu gw su ob an ch cg fb mh ml ih lb ic nn kp se) H := hP
    have hD : va_D A (wW_k_L_ask_10 ty X pn rn tn en pl hn kn on cu pu gw su ob an ch cg fb mh ml ih lb ic nn kp se) := hD
    refine W.widen (k := 2) (n := 12) (Nat.le_of_ble_eq_true rfl) (Nat.le_of_ble_eq_true rfl) ?_
    exact END t_8.2 hT _ _ hP hD hS _ _ dL_ask_11
def wW_k_L_asked_11 (ty : Nat → ClassId) (X : Nat → Nat) (z9_0 : Int32) (z9_1 : Int32) (z9_2 : Int32) (z9_3 : Int32) (z9_4 : Nat → Int32) (z9_5 : Nat → Option Nat) (z9_6 : Nat → Int32) (z9_7 : Nat → Int32) (z9_8 : Int32) (z9_9 : Int32) (z9_10 : Int32) (z9_11 : Int32) (z9_12 : Int32) (z9_13 : Int32) (z9_14 : Int32) (z9_15 : Int32) (z9_16 : Int32) (z9_17 : Int32) (z9_18 : Nat → Int64) (z9_19 : Nat → Int32) (z9_20 : Nat → Int32) (z9_21 : Nat → Int32) (z9_22 : Nat → Int32) (z9_23 : Int32) (z9_24 : Int32) (z9_25 : Int32) (z9_26 : Int32) (z9_27 : Int32) (z9_28 : Int32) (z9_29 : Int32) (z9_30 : Int32) (z9_31 : Int32) (z9_32 : Nat → Int32) (z9_33 : Nat → Int32) (z9_34 : Int32) (z9_35 : Int32) (z9_36 : Nat → Int32) : va_W := [((X 0), .inr (12, [.ref (X 1), .ref (X 8), .ref (X 20), .ref (X 39), .ref (X 41), .ref (X 43), .ref (X 45)])), ((X 1), .inr (8, [.ref (X 2), .int z9_0, .ref (X 3), .int z9_1, .ref (X 4), .ref (X 5), .int z9_2, .ref (X 6), .ref (X 7), .int z9_3])), ((X 2), .inl (ty 0, 6, .inl z9_4)), ((X 3), .inl (ty 4, 20, .inr (.inr (.inr (.inr z9_5))))), ((X 6), .inl (ty 0, 6, .inl z9_6)), ((X 7), .inl (ty 2, 6, .inl z9_7)), ((X 8), .inr (5, [.ref (X 1), .ref (X 9), .ref (X 10), .ref (X 12), .ref (X 14), .int z9_8, .ref (X 15), .ref (X 16), .ref (X 17), .int z9_9, .ref (X 18), .ref (X 19), .int z9_10, .int z9_11, .int z9_12, .int z9_13])), ((X 9), .inr (4, [.int z9_14, .int z9_15, .int z9_16, .int z9_17])), ((X 10), .inr (3, [.ref (X 11)])), ((X 11), .inl (ty 1, 6, .inr (.inl z9_18))), ((X 14), .inl (ty 0, 16, .inl z9_19)), ((X 15), .inl (ty 0, 300, .inl z9_20)), ((X 16), .inl (ty 0, 300, .inl z9_21)), ((X 19), .inl (ty 0, 384, .inl z9_22)), ((X 20), .inr (11, [.ref (X 1), .ref (X 8), .ref (X 21), .ref (X 28), .ref (X 35), .int z9_23, .ref (X 36), .ref (X 37), .ref (X 38), .int z9_24, .int z9_25, .int z9_26, .int z9_27, .int z9_28, .int z9_29, .int z9_30, .int z9_31])), ((X 36), .inl (ty 0, 6, .inl z9_32)), ((X 37), .inl (ty 0, 6, .inl z9_33)), ((X 45), .inr (2, [.ref (X 46), .ref (X 47), .int z9_34, .int z9_35])), ((X 46), .inl (ty 0, 64, .inl z9_36))]
def vs_k_L_asked_11 : List Cond := .code yL_asked cL_asked 6 (some .int) :: ([.methodLink RL 120 yX10_reason, .instanceMethod yX10_reason, .selects RX10 yX10_reason yX10_reason, .initialized RX10] ++ (vs_k_X10_reason))
set_option maxRecDepth 20000 in
theorem gv_k_L_asked_11_0 : GoodIn vs_k_L_asked_11 (wsV RL 120 RX10 yX10_reason vs_k_X10_reason) := goodIn_app (goodIn_sub (by decide +kernel) (by decide +kernel)) (goodIn_sub (fun _ h => List.mem_cons_of_mem _ (List.mem_append_right _ (h))) (by decide +kernel))
set_option maxHeartbeats 4000000 in
set_option maxRecDepth 100000 in
theorem k_L_asked_11 (l : Launch) (hl9 : l.stackTraces = false) (D : va_G) (ty : Nat → ClassId) (td mi sz : Nat) (pp : pT) (X : Nat → Nat) (pn : Int32) (rn : Int32) (tn : Int32) (en : Int32) (pl : Nat → Int32) (rf : Nat → Option Nat) (ea : Nat → Int32) (es : Nat → Int32) (hn : Int32) (kn : Int32) (on : Int32) (cu : Int32) (pu : Int32) (gw : Int32) (b_1 : Int32) (b_2 : Int32) (b_3 : Int32) (b_p : Int32) (su : Nat → Int64) (hds : Nat → Int32) (kr : Nat → Int32) (kv : Nat → Int32) (ob : Nat → Int32) (an : Int32) (ch : Int32) (cg : Int32) (fb : Int32) (mh : Int32) (ml : Int32) (ih : Int32) (lb : Int32) (ic : Int32) (obi : Nat → Int32) (sc : Nat → Int32) (nn : Int32) (kp : Int32) (se : Nat → Int32) (a1 : Int32) (a2 : Int32) (a3 : Int32) (a4 : Int32) (hok : pOK pp) (hru : ∀ (i a : Nat), rf i = some a → a ∈ pRA pp) (hch : ∀ i : Nat, narrow .char (.int (es i)) = .int (es i)) (TT : r_k_L_asked_11) (hTT : TT = m_k_L_asked_11 pp pn rn en pl rf ea es hn kn on b_1 b_2 b_3 b_p su hds kr kv ob obi sc nn kp se a1 a2 a3 a4) : vx_Met l yL_asked vs_k_L_asked_11 { frames := 9, cells := 4, slots := 24, locals := 163 } (va_Pc [.ref (X 0), .int 11, .int a1, .int a2, .int a3, .int a4] (wq_P D ty td mi ((wW_k_L_asked_11 ty X pn rn tn en pl rf ea es hn kn on cu pu gw b_1 b_2 b_3 b_p su hds kr kv ob an ch cg fb mh ml ih lb ic obi sc nn kp se) ++ pw ty pp) sz)) (va_Qi (fun (r : Int32) (u : va_W) => (TT.1 = 0 ∧ r = TT.2.1 ∧ (u = ((wW_k_L_asked_11 ty X pn rn tn en pl rf ea es TT.2.2.2.1 kn on cu pu gw TT.2.2.2.2.1 TT.2.2.2.2.2.1 TT.2.2.2.2.2.2.1 TT.2.2.2.2.2.2.2 su TT.2.2.1 kr kv ob an ch cg fb mh ml ih lb ic obi sc nn kp se) ++ pw ty pp)))) (wq_B D (va_A ((wW_k_L_asked_11 ty X pn rn tn en pl rf ea es hn kn on cu pu gw b_1 b_2 b_3 b_p su hds kr kv ob an ch cg fb mh ml ih lb ic obi sc nn kp se) ++ pw ty pp) sz)) (va_A ((wW_k_L_asked_11 ty X pn rn tn en pl rf ea es hn kn on cu pu gw b_1 b_2 b_3 b_p su hds kr kv ob an ch cg fb mh ml ih lb ic obi sc nn kp se) ++ pw ty pp) sz)) (vx_X (fun u : String × va_W => (TT.1 = 1 ∧ u = ("java/lang/IndexOutOfBoundsException", ((wW_k_L_asked_11 ty X pn rn tn en pl rf ea es TT.2.2.2.1 kn on cu pu gw TT.2.2.2.2.1 TT.2.2.2.2.2.1 TT.2.2.2.2.2.2.1 TT.2.2.2.2.2.2.2 su TT.2.2.1 kr kv ob an ch cg fb mh ml ih lb ic obi sc nn kp se) ++ pw ty pp))) ∨ (TT.1 = 2 ∧ u = ("java/lang/IllegalArgumentException", ((wW_k_L_asked_11 ty X pn rn tn en pl rf ea es TT.2.2.2.1 kn on cu pu gw TT.2.2.2.2.1 TT.2.2.2.2.2.1 TT.2.2.2.2.2.2.1 TT.2.2.2.2.2.2.2 su TT.2.2.1 kr kv ob an ch cg fb mh ml ih lb ic obi sc nn kp se) ++ pw ty pp))) ∨ (TT.1 = 3 ∧ u = ("java/lang/IllegalStateException", ((wW_k_L_asked_11 ty X pn rn tn en pl rf ea es TT.2.2.2.1 kn on cu pu gw TT.2.2.2.2.1 TT.2.2.2.2.2.1 TT.2.2.2.2.2.2.1 TT.2.2.2.2.2.2.2 su TT.2.2.1 kr kv ob an ch cg fb mh ml ih lb ic obi sc nn kp se) ++ pw ty pp))) ∨ (TT.1 = 5 ∧ u = ("java/util/NoSuchElementException", ((wW_k_L_asked_11 ty X pn rn tn en pl rf ea es TT.2.2.2.1 kn on cu pu gw TT.2.2.2.2.1 TT.2.2.2.2.2.1 TT.2.2.2.2.2.2.1 TT.2.2.2.2.2.2.2 su TT.2.2.1 kr kv ob an ch cg fb mh ml ih lb ic obi sc nn kp se) ++ pw ty pp)))) (wq_BX D (va_A ((wW_k_L_asked_11 ty X pn rn tn en pl rf ea es hn kn on cu pu gw b_1 b_2 b_3 b_p su hds kr kv ob an ch cg fb mh ml ih lb ic obi sc nn kp se) ++ pw ty pp) sz)) (va_A ((wW_k_L_asked_11 ty X pn rn tn en pl rf ea es hn kn on cu pu gw b_1 b_2 b_3 b_p su hds kr kv ob an ch cg fb mh ml ih lb ic obi sc nn kp se) ++ pw ty pp) sz)) 4 24 (va_A ((wW_k_L_asked_11 ty X pn rn tn en pl rf ea es hn kn on cu pu gw b_1 b_2 b_3 b_p su hds kr kv ob an ch cg fb mh ml ih lb ic obi sc nn kp se) ++ pw ty pp) sz) := by
  refine vx_ofW (cc := cL_asked) (maxL := 6) (ret := (some .int)) (by decide) rfl ?_
  intro p e s m args below meth c s₁ B hml hEx hv
  obtain ⟨rfl, hsz, hP, hK, hD0, hE⟩ := hv
  have hx := B.exec
  have hb := B.bytes
  have hr := B.returns
  have hts := atoms_spec (ws := vs_k_L_asked_11) B.pre
  have hown : s.vm.findClass RL = some m.cls := findClass_of_methodNamed B.named
  have hlocks := B.notSynchronized
  subst hsz
  have hD := hD0.self (sz := s.heap.size)
  generalize hAe : va_A ((wW_k_L_asked_11 ty X pn rn tn en pl rf ea es hn kn on cu pu gw b_1 b_2 b_3 b_p su hds kr kv ob an ch cg fb mh ml ih lb ic obi sc nn kp se) ++ pw ty pp) s.heap.size = A at hD hE ⊢
  have hA : ∀ q : Nat, s.heap.size ≤ q → A q := fun q h => by rw [← hAe]; exact Or.inr h
  have hS : va_S A s.heap s.heap [] := va_S.rf
  have hP : va_P D vwCl ((wW_k_L_asked_11 ty X pn rn tn en pl rf ea es hn kn on cu pu gw b_1 b_2 b_3 b_p su hds kr kv ob an ch cg fb mh ml ih lb ic obi sc nn kp se) ++ pw ty pp) s.heap := hP
  have hl := lv_entry ([.ref (X 0), .int 11, .int a1, .int a2, .int a3, .int a4]) (n := 6) (Nat.le_of_ble_eq_true rfl)
  rw [lg_entry_eq]
  generalize (lg_sl ([.ref (X 0), .int 11, .int a1, .int a2, .int a3, .int a4]) ++ List.replicate (6 - (lg_sl ([.ref (X 0), .int 11, .int a1, .int a2, .int a3, .int a4])).length) Slot.unset).toArray = ls at hl ⊢
  have hl : lv_has ls 6 [(0, .ref (X 0)), (1, .int 11), (2, .int a1), (3, .int a2), (4, .int a3), (5, .int a4)] := hl
  have END : ∀ (r : Int32) (w9_0 : Nat → Int32) (w9_1 : Int32) (w9_2 : Int32) (w9_3 : Int32) (w9_4 : Int32) (w9_5 : Int32), TT = (0, r, w9_0, w9_1, w9_2, w9_3, w9_4, w9_5) → ∀ (H : Heap) (locs : List Loc), va_P D vwCl ((wW_k_L_asked_11 ty X pn rn tn en pl rf ea es w9_1 kn on cu pu gw w9_2 w9_3 w9_4 w9_5 su w9_0 kr kv ob an ch cg fb mh ml ih lb ic obi sc nn kp se) ++ pw ty pp) H → va_D A ((wW_k_L_asked_11 ty X pn rn tn en pl rf ea es w9_1 kn on cu pu gw w9_2 w9_3 w9_4 w9_5 su w9_0 kr kv ob an ch cg fb mh ml ih lb ic obi sc nn kp se) ++ pw ty pp) → va_S A s.heap H locs → ∀ (ls : Array Slot) (pc : Nat), decode cL_asked pc = .ok (.ireturn, 1) → W p l e (headSpec vs_k_L_asked_11 { frames := 9, cells := 4, slots := 24, locals := 163 }).room s m ([.ref (X 0), .int 11, .int a1, .int a2, .int a3, .int a4] : List Value).toArray below meth c H locs 4 24 (vx_MQ below (va_Qi (fun (r : Int32) (u : va_W) => (TT.1 = 0 ∧ r = TT.2.1 ∧ (u = ((wW_k_L_asked_11 ty X pn rn tn en pl rf ea es TT.2.2.2.1 kn on cu pu gw TT.2.2.2.2.1 TT.2.2.2.2.2.1 TT.2.2.2.2.2.2.1 TT.2.2.2.2.2.2.2 su TT.2.2.1 kr kv ob an ch cg fb mh ml ih lb ic obi sc nn kp se) ++ pw ty pp)))) (wq_B D A) A) (vx_X (fun u : String × va_W => (TT.1 = 1 ∧ u = ("java/lang/IndexOutOfBoundsException", ((wW_k_L_asked_11 ty X pn rn tn en pl rf ea es TT.2.2.2.1 kn on cu pu gw TT.2.2.2.2.1 TT.2.2.2.2.2.1 TT.2.2.2.2.2.2.1 TT.2.2.2.2.2.2.2 su TT.2.2.1 kr kv ob an ch cg fb mh ml ih lb ic obi sc nn kp se) ++ pw ty pp))) ∨ (TT.1 = 2 ∧ u = ("java/lang/IllegalArgumentException", ((wW_k_L_asked_11 ty X pn rn tn en pl rf ea es TT.2.2.2.1 kn on cu pu gw TT.2.2.2.2.1 TT.2.2.2.2.2.1 TT.2.2.2.2.2.2.1 TT.2.2.2.2.2.2.2 su TT.2.2.1 kr kv ob an ch cg fb mh ml ih lb ic obi sc nn kp se) ++ pw ty pp))) ∨ (TT.1 = 3 ∧ u = ("java/lang/IllegalStateException", ((wW_k_L_asked_11 ty X pn rn tn en pl rf ea es TT.2.2.2.1 kn on cu pu gw TT.2.2.2.2.1 TT.2.2.2.2.2.1 TT.2.2.2.2.2.2.1 TT.2.2.2.2.2.2.2 su TT.2.2.1 kr kv ob an ch cg fb mh ml ih lb ic obi sc nn kp se) ++ pw ty pp))) ∨ (TT.1 = 5 ∧ u = ("java/util/NoSuchElementException", ((wW_k_L_asked_11 ty X pn rn tn en pl rf ea es TT.2.2.2.1 kn on cu pu gw TT.2.2.2.2.1 TT.2.2.2.2.2.1 TT.2.2.2.2.2.2.1 TT.2.2.2.2.2.2.2 su TT.2.2.1 kr kv ob an ch cg fb mh ml ih lb ic obi sc nn kp se) ++ pw ty pp)))) (wq_BX D A) A) ([.ref (X 0), .int 11, .int a1, .int a2, .int a3, .int a4] : List Value).toArray s 4 24 A) (F0 m pc ls [.int r]) := by
    intro r w9_0 w9_1 w9_2 w9_3 w9_4 w9_5 hT H locs hP hD hS ls pc hd
    have hM : TT = (0, r, w9_0, w9_1, w9_2, w9_3, w9_4, w9_5) := hT
    refine vx_ret ?_
    exact W.iret (v := r) hx hb hr (fun t ht hW => ⟨⟨r, ((wW_k_L_asked_11 ty X pn rn tn en pl rf ea es w9_1 kn on cu pu gw w9_2 w9_3 w9_4 w9_5 su w9_0 kr kv ob an ch cg fb mh ml ih lb ic obi sc nn kp se) ++ pw ty pp), rfl, ⟨(by rw [hM]), (by rw [hM]), (by rw [hM])⟩, wq_B.of ht hP hD⟩, hS.F ht⟩) hS.2.2 hd
  have hT := hTT
  rw [m_k_L_asked_11] at hT
  refine lv_iload_n hx hb dL_asked_0 rfl (lv_at hl 1 rfl) ?_
  refine lv_tableIn (off := 141) (tgt := 142) hx hb dL_asked_1 (by decide) (by decide) rfl (by decide) ?_
  refine lv_aload_n hx hb dL_asked_142 rfl (lv_at hl 0 rfl) ?_
  refine lv_iload_n hx hb dL_asked_143 rfl (lv_at hl 2 rfl) ?_
  refine lv_iload_n hx hb dL_asked_144 rfl (lv_at hl 3 rfl) ?_
  refine lv_iload hx hb dL_asked_145 (lv_at hl 4 rfl) ?_
  refine lv_iload hx hb dL_asked_147 (lv_at hl 5 rfl) ?_
  obtain ⟨t_149, ht_149⟩ : ∃ t, t = m_k_X10_reason pp pn rn en pl rf ea es hn kn on b_1 b_2 b_3 b_p su hds kr kv ob obi sc nn kp se a1 a2 a3 a4 := ⟨_, rfl⟩
  rw [lE_eq ht_149] at hT
  refine wq_xiPW (wc := (wW_k_X10_reason ty X pn rn tn en pl rf ea es hn kn on cu pu gw b_1 b_2 b_3 b_p su hds kr kv ob an ch cg fb mh ml ih lb ic obi sc nn kp se)) (pl := pw ty pp) (ux := (wW_k_X10_reason ty X pn rn tn en pl rf ea es t_149.2.2.2.1 kn on cu pu gw t_149.2.2.2.2.1 t_149.2.2.2.2.2.1 t_149.2.2.2.2.2.2.1 t_149.2.2.2.2.2.2.2 su t_149.2.2.1 kr kv ob an ch cg fb mh ml ih lb ic obi sc nn kp se)) (vx_runV (As := [.int a1, .int a2, .int a3, .int a4]) (rest := []) ⟨hx, hb, hml, hown, hts⟩ (k_X10_reason l hl9 D ty td mi s.heap.size pp X pn rn tn en pl rf ea es hn kn on cu pu gw b_1 b_2 b_3 b_p su hds kr kv ob an ch cg fb mh ml ih lb ic obi sc nn kp se a1 a2 a3 a4 hok hru hch t_149 ht_149) (cwV 4 hts gv_k_L_asked_11_0 rfl rfl rfl (by decide +kernel) ⟨(Nat.le_of_ble_eq_true rfl), (Nat.le_of_ble_eq_true rfl)⟩) (wm_V (wm_preSP hP hD hK hE hS hA [true, true, true, true, true, true, true, true, true, true, true, true, true, true, true, true, true, true, true] rfl) (va_recv (q0 := 0) (ci := 12) hK hP rfl rfl)) rfl rfl hl.1 rfl (lv_room (Nat.le_of_ble_eq_true rfl)) dL_asked_149 ⟨(Nat.le_of_ble_eq_true rfl), (Nat.le_of_ble_eq_true rfl)⟩) hS hA hP hD [true, true, true, true, true, true, true, true, true, true, true, true, true, true, true, true, true, true, true] rfl rfl (fun _ _ h => h.2.2) (fun E9 u9 h => by rcases h with ⟨-, h⟩ | ⟨-, h⟩ | ⟨-, h⟩ | ⟨-, h⟩ <;> (cases h; rfl)) (fun E9 H locs q9 ce hw hP hD hS hce hcv hcl => ?_) (fun r H locs hw hP hD hS => ?_)
  · rcases hw with ⟨c_1, hEq⟩ | ⟨c_2, hEq⟩ | ⟨c_3, hEq⟩ | ⟨c_4, hEq⟩
    · cases hEq
      rw [if_neg (show ¬ t_149.1 = 0 by rw [c_1]; decide)] at hT
      rw [if_pos c_1] at hT
      have hP : va_P D vwCl ((wW_k_L_asked_11 ty X pn rn tn en pl rf ea es t_149.2.2.2.1 kn on cu pu gw t_149.2.2.2.2.1 t_149.2.2.2.2.2.1 t_149.2.2.2.2.2.2.1 t_149.2.2.2.2.2.2.2 su t_149.2.2.1 kr kv ob an ch cg fb mh ml ih lb ic obi sc nn kp se) ++ pw ty pp) H := hP
      have hD : va_D A ((wW_k_L_asked_11 ty X pn rn tn en pl rf ea es t_149.2.2.2.1 kn on cu pu gw t_149.2.2.2.2.1 t_149.2.2.2.2.2.1 t_149.2.2.2.2.2.2.1 t_149.2.2.2.2.2.2.2 su t_149.2.2.1 kr kv ob an ch cg fb mh ml ih lb ic obi sc nn kp se) ++ pw ty pp) := hD
      refine vx_widen (k := 4) (n := 24) (Nat.le_of_ble_eq_true rfl) (Nat.le_of_ble_eq_true rfl) ?_
      exact vx_out (E := "java/lang/IndexOutOfBoundsException") (fun x hx => (hEx x hx).elim) hlocks hce hcv hcl (fun t ht ha => wq_thrW0 (W := ((wW_k_L_asked_11 ty X pn rn tn en pl rf ea es t_149.2.2.2.1 kn on cu pu gw t_149.2.2.2.2.1 t_149.2.2.2.2.2.1 t_149.2.2.2.2.2.2.1 t_149.2.2.2.2.2.2.2 su t_149.2.2.1 kr kv ob an ch cg fb mh ml ih lb ic obi sc nn kp se) ++ pw ty pp)) hS hP hD (by exact (Or.inl ⟨(by rw [hT]), (by first | rw [hT] | rfl)⟩)) ht) hS.2.2 (Nat.le_refl _) (Nat.le_refl _)
    · cases hEq
      rw [if_neg (show ¬ t_149.1 = 0 by rw [c_2]; decide)] at hT
      rw [if_neg (show ¬ t_149.1 = 1 by rw [c_2]; decide)] at hT
      rw [if_pos c_2] at hT
      have hP : va_P D vwCl ((wW_k_L_asked_11 ty X pn rn tn en pl rf ea es t_149.2.2.2.1 kn on cu pu gw t_149.2.2.2.2.1 t_149.2.2.2.2.2.1 t_149.2.2.2.2.2.2.1 t_149.2.2.2.2.2.2.2 su t_149.2.2.1 kr kv ob an ch cg fb mh ml ih lb ic obi sc nn kp se) ++ pw ty pp) H := hP
      have hD : va_D A ((wW_k_L_asked_11 ty X pn rn tn en pl rf ea es t_149.2.2.2.1 kn on cu pu gw t_149.2.2.2.2.1 t_149.2.2.2.2.2.1 t_149.2.2.2.2.2.2.1 t_149.2.2.2.2.2.2.2 su t_149.2.2.1 kr kv ob an ch cg fb mh ml ih lb ic obi sc nn kp se) ++ pw ty pp) := hD
      refine vx_widen (k := 4) (n := 24) (Nat.le_of_ble_eq_true rfl) (Nat.le_of_ble_eq_true rfl) ?_
      exact vx_out (E := "java/lang/IllegalArgumentException") (fun x hx => (hEx x hx).elim) hlocks hce hcv hcl (fun t ht ha => wq_thrW0 (W := ((wW_k_L_asked_11 ty X pn rn tn en pl rf ea es t_149.2.2.2.1 kn on cu pu gw t_149.2.2.2.2.1 t_149.2.2.2.2.2.1 t_149.2.2.2.2.2.2.1 t_149.2.2.2.2.2.2.2 su t_149.2.2.1 kr kv ob an ch cg fb mh ml ih lb ic obi sc nn kp se) ++ pw ty pp)) hS hP hD (by exact (Or.inr (Or.inl ⟨(by rw [hT]), (by first | rw [hT] | rfl)⟩))) ht) hS.2.2 (Nat.le_refl _) (Nat.le_refl _)
    · cases hEq
      rw [if_neg (show ¬ t_149.1 = 0 by rw [c_3]; decide)] at hT
      rw [if_neg (show ¬ t_149.1 = 1 by rw [c_3]; decide)] at hT
      rw [if_neg (show ¬ t_149.1 = 2 by rw [c_3]; decide)] at hT
      rw [if_pos c_3] at hT
      have hP : va_P D vwCl ((wW_k_L_asked_11 ty X pn rn tn en pl rf ea es t_149.2.2.2.1 kn on cu pu gw t_149.2.2.2.2.1 t_149.2.2.2.2.2.1 t_149.2.2.2.2.2.2.1 t_149.2.2.2.2.2.2.2 su t_149.2.2.1 kr kv ob an ch cg fb mh ml ih lb ic obi sc nn kp se) ++ pw ty pp) H := hP
      have hD : va_D A ((wW_k_L_asked_11 ty X pn rn tn en pl rf ea es t_149.2.2.2.1 kn on cu pu gw t_149.2.2.2.2.1 t_149.2.2.2.2.2.1 t_149.2.2.2.2.2.2.1 t_149.2.2.2.2.2.2.2 su t_149.2.2.1 kr kv ob an ch cg fb mh ml ih lb ic obi sc nn kp se) ++ pw ty pp) := hD
      refine vx_widen (k := 4) (n := 24) (Nat.le_of_ble_eq_true rfl) (Nat.le_of_ble_eq_true rfl) ?_
      exact vx_out (E := "java/lang/IllegalStateException") (fun x hx => (hEx x hx).elim) hlocks hce hcv hcl (fun t ht ha => wq_thrW0 (W := ((wW_k_L_asked_11 ty X pn rn tn en pl rf ea es t_149.2.2.2.1 kn on cu pu gw t_149.2.2.2.2.1 t_149.2.2.2.2.2.1 t_149.2.2.2.2.2.2.1 t_149.2.2.2.2.2.2.2 su t_149.2.2.1 kr kv ob an ch cg fb mh ml ih lb ic obi sc nn kp se) ++ pw ty pp)) hS hP hD (by exact (Or.inr (Or.inr (Or.inl ⟨(by rw [hT]), (by first | rw [hT] | rfl)⟩)))) ht) hS.2.2 (Nat.le_refl _) (Nat.le_refl _)
    · cases hEq
      rw [if_neg (show ¬ t_149.1 = 0 by rw [c_4]; decide)] at hT
      rw [if_neg (show ¬ t_149.1 = 1 by rw [c_4]; decide)] at hT
      rw [if_neg (show ¬ t_149.1 = 2 by rw [c_4]; decide)] at hT
      rw [if_neg (show ¬ t_149.1 = 3 by rw [c_4]; decide)] at hT
      have hP : va_P D vwCl ((wW_k_L_asked_11 ty X pn rn tn en pl rf ea es t_149.2.2.2.1 kn on cu pu gw t_149.2.2.2.2.1 t_149.2.2.2.2.2.1 t_149.2.2.2.2.2.2.1 t_149.2.2.2.2.2.2.2 su t_149.2.2.1 kr kv ob an ch cg fb mh ml ih lb ic obi sc nn kp se) ++ pw ty pp) H := hP
      have hD : va_D A ((wW_k_L_asked_11 ty X pn rn tn en pl rf ea es t_149.2.2.2.1 kn on cu pu gw t_149.2.2.2.2.1 t_149.2.2.2.2.2.1 t_149.2.2.2.2.2.2.1 t_149.2.2.2.2.2.2.2 su t_149.2.2.1 kr kv ob an ch cg fb mh ml ih lb ic obi sc nn kp se) ++ pw ty pp) := hD
      refine vx_widen (k := 4) (n := 24) (Nat.le_of_ble_eq_true rfl) (Nat.le_of_ble_eq_true rfl) ?_
      exact vx_out (E := "java/util/NoSuchElementException") (fun x hx => (hEx x hx).elim) hlocks hce hcv hcl (fun t ht ha => wq_thrW0 (W := ((wW_k_L_asked_11 ty X pn rn tn en pl rf ea es t_149.2.2.2.1 kn on cu pu gw t_149.2.2.2.2.1 t_149.2.2.2.2.2.1 t_149.2.2.2.2.2.2.1 t_149.2.2.2.2.2.2.2 su t_149.2.2.1 kr kv ob an ch cg fb mh ml ih lb ic obi sc nn kp se) ++ pw ty pp)) hS hP hD (by exact (Or.inr (Or.inr (Or.inr ⟨(by rw [hT]), (by first | rw [hT] | rfl)⟩)))) ht) hS.2.2 (Nat.le_refl _) (Nat.le_refl _)
  · obtain ⟨c_5, rfl, -⟩ := hw
    rw [if_pos c_5] at hT
    have hP : va_P D vwCl ((wW_k_L_asked_11 ty X pn rn tn en pl rf ea es t_149.2.2.2.1 kn on cu pu gw t_149.2.2.2.2.1 t_149.2.2.2.2.2.1 t_149.2.2.2.2.2.2.1 t_149.2.2.2.2.2.2.2 su t_149.2.2.1 kr kv ob an ch cg fb mh ml ih lb ic obi sc nn kp se) ++ pw ty pp) H := hP
    have hD : va_D A ((wW_k_L_asked_11 ty X pn rn tn en pl rf ea es t_149.2.2.2.1 kn on cu pu gw t_149.2.2.2.2.1 t_149.2.2.2.2.2.1 t_149.2.2.2.2.2.2.1 t_149.2.2.2.2.2.2.2 su t_149.2.2.1 kr kv ob an ch cg fb mh ml ih lb ic obi sc nn kp se) ++ pw ty pp) := hD
    refine W.widen (k := 4) (n := 24) (Nat.le_of_ble_eq_true rfl) (Nat.le_of_ble_eq_true rfl) ?_
    exact END t_149.2.1 t_149.2.2.1 t_149.2.2.2.1 t_149.2.2.2.2.1 t_149.2.2.2.2.2.1 t_149.2.2.2.2.2.2.1 t_149.2.2.2.2.2.2.2 hT _ _ hP hD hS _ _ dL_asked_152
def wW_k_L_ask_11 (ty : Nat → ClassId) (X : Nat → Nat) (z9_0 : Int32) (z9_1 : Int32) (z9_2 : Int32) (z9_3 : Int32) (z9_4 : Nat → Int32) (z9_5 : Nat → Option Nat) (z9_6 : Nat → Int32) (z9_7 : Nat → Int32) (z9_8 : Int32) (z9_9 : Int32) (z9_10 : Int32) (z9_11 : Int32) (z9_12 : Int32) (z9_13 : Int32) (z9_14 : Int32) (z9_15 : Int32) (z9_16 : Int32) (z9_17 : Int32) (z9_18 : Nat → Int64) (z9_19 : Nat → Int32) (z9_20 : Nat → Int32) (z9_21 : Nat → Int32) (z9_22 : Nat → Int32) (z9_23 : Int32) (z9_24 : Int32) (z9_25 : Int32) (z9_26 : Int32) (z9_27 : Int32) (z9_28 : Int32) (z9_29 : Int32) (z9_30 : Int32) (z9_31 : Int32) (z9_32 : Nat → Int32) (z9_33 : Nat → Int32) (z9_34 : Int32) (z9_35 : Int32) (z9_36 : Nat → Int32) : va_W := [((X 0), .inr (12, [.ref (X 1), .ref (X 8), .ref (X 20), .ref (X 39), .ref (X 41), .ref (X 43), .ref (X 45)])), ((X 1), .inr (8, [.ref (X 2), .int z9_0, .ref (X 3), .int z9_1, .ref (X 4), .ref (X 5), .int z9_2, .ref (X 6), .ref (X 7), .int z9_3])), ((X 2), .inl (ty 0, 6, .inl z9_4)), ((X 3), .inl (ty 4, 20, .inr (.inr (.inr (.inr z9_5))))), ((X 6), .inl (ty 0, 6, .inl z9_6)), ((X 7), .inl (ty 2, 6, .inl z9_7)), ((X 8), .inr (5, [.ref (X 1), .ref (X 9), .ref (X 10), .ref (X 12), .ref (X 14), .int z9_8, .ref (X 15), .ref (X 16), .ref (X 17), .int z9_9, .ref (X 18), .ref (X 19), .int z9_10, .int z9_11, .int z9_12, .int z9_13])), ((X 9), .inr (4, [.int z9_14, .int z9_15, .int z9_16, .int z9_17])), ((X 10), .inr (3, [.ref (X 11)])), ((X 11), .inl (ty 1, 6, .inr (.inl z9_18))), ((X 14), .inl (ty 0, 16, .inl z9_19)), ((X 15), .inl (ty 0, 300, .inl z9_20)), ((X 16), .inl (ty 0, 300, .inl z9_21)), ((X 19), .inl (ty 0, 384, .inl z9_22)), ((X 20), .inr (11, [.ref (X 1), .ref (X 8), .ref (X 21), .ref (X 28), .ref (X 35), .int z9_23, .ref (X 36), .ref (X 37), .ref (X 38), .int z9_24, .int z9_25, .int z9_26, .int z9_27, .int z9_28, .int z9_29, .int z9_30, .int z9_31])), ((X 36), .inl (ty 0, 6, .inl z9_32)), ((X 37), .inl (ty 0, 6, .inl z9_33)), ((X 45), .inr (2, [.ref (X 46), .ref (X 47), .int z9_34, .int z9_35])), ((X 46), .inl (ty 0, 64, .inl z9_36))]
def vs_k_L_ask_11 : List Cond := .codeWith yL_ask cL_ask 7 (some .int) [(0, 11, 12, 72), (0, 11, 18, 74), (0, 11, 24, 76), (0, 11, 30, 78), (0, 11, 36, 130)] :: ([.methodLink RL 126 yL_asked, .static yL_asked, .initialized RL, .classLink RL 72 "java/lang/IndexOutOfBoundsException", .classLink RL 74 "java/lang/IllegalArgumentException", .classLink RL 76 "java/lang/IllegalStateException", .classLink RL 78 "java/lang/UnsupportedOperationException", .classLink RL 130 "java/util/NoSuchElementException"] ++ (vs_k_L_asked_11))
set_option maxRecDepth 20000 in
theorem gv_k_L_ask_11_0 : GoodIn vs_k_L_ask_11 (va_wsS RL 126 yL_asked vs_k_L_asked_11) := goodIn_app (goodIn_sub (by decide +kernel) (by decide +kernel)) (goodIn_sub (fun _ h => List.mem_cons_of_mem _ (List.mem_append_right _ (h))) (by decide +kernel))
set_option maxHeartbeats 4000000 in
set_option maxRecDepth 100000 in
theorem k_L_ask_11 (l : Launch) (hl9 : l.stackTraces = false) (D : va_G) (ty : Nat → ClassId) (td mi sz : Nat) (pp : pT) (X : Nat → Nat) (pn : Int32) (rn : Int32) (tn : Int32) (en : Int32) (pl : Nat → Int32) (rf : Nat → Option Nat) (ea : Nat → Int32) (es : Nat → Int32) (hn : Int32) (kn : Int32) (on : Int32) (cu : Int32) (pu : Int32) (gw : Int32) (b_1 : Int32) (b_2 : Int32) (b_3 : Int32) (b_p : Int32) (su : Nat → Int64) (hds : Nat → Int32) (kr : Nat → Int32) (kv : Nat → Int32) (ob : Nat → Int32) (an : Int32) (ch : Int32) (cg : Int32) (fb : Int32) (mh : Int32) (ml : Int32) (ih : Int32) (lb : Int32) (ic : Int32) (obi : Nat → Int32) (sc : Nat → Int32) (nn : Int32) (kp : Int32) (se : Nat → Int32) (a1 : Int32) (a2 : Int32) (a3 : Int32) (a4 : Int32) (hok : pOK pp) (hru : ∀ (i a : Nat), rf i = some a → a ∈ pRA pp) (hch : ∀ i : Nat, narrow .char (.int (es i)) = .int (es i)) (TT : r_k_L_ask_11) (hTT : TT = m_k_L_ask_11 pp pn rn en pl rf ea es hn kn on b_1 b_2 b_3 b_p su hds kr kv ob obi sc nn kp se a1 a2 a3 a4) : vx_Met l yL_ask vs_k_L_ask_11 { frames := 10, cells := 4, slots := 24, locals := 188 } (va_Pc [.ref (X 0), .int 11, .int a1, .int a2, .int a3, .int a4] (wq_P D ty td mi ((wW_k_L_ask_11 ty X pn rn tn en pl rf ea es hn kn on cu pu gw b_1 b_2 b_3 b_p su hds kr kv ob an ch cg fb mh ml ih lb ic obi sc nn kp se) ++ pw ty pp) sz)) (va_Qi (fun (r : Int32) (u : va_W) => (r = TT.1 ∧ (u = ((wW_k_L_ask_11 ty X pn rn tn en pl rf ea es TT.2.2.1 kn on cu pu gw TT.2.2.2.1 TT.2.2.2.2.1 TT.2.2.2.2.2.1 TT.2.2.2.2.2.2 su TT.2.1 kr kv ob an ch cg fb mh ml ih lb ic obi sc nn kp se) ++ pw ty pp)))) (wq_B D (va_A ((wW_k_L_ask_11 ty X pn rn tn en pl rf ea es hn kn on cu pu gw b_1 b_2 b_3 b_p su hds kr kv ob an ch cg fb mh ml ih lb ic obi sc nn kp se) ++ pw ty pp) sz)) (va_A ((wW_k_L_ask_11 ty X pn rn tn en pl rf ea es hn kn on cu pu gw b_1 b_2 b_3 b_p su hds kr kv ob an ch cg fb mh ml ih lb ic obi sc nn kp se) ++ pw ty pp) sz)) (vx_X (fun u : String × va_W => False) (wq_BX D (va_A ((wW_k_L_ask_11 ty X pn rn tn en pl rf ea es hn kn on cu pu gw b_1 b_2 b_3 b_p su hds kr kv ob an ch cg fb mh ml ih lb ic obi sc nn kp se) ++ pw ty pp) sz)) (va_A ((wW_k_L_ask_11 ty X pn rn tn en pl rf ea es hn kn on cu pu gw b_1 b_2 b_3 b_p su hds kr kv ob an ch cg fb mh ml ih lb ic obi sc nn kp se) ++ pw ty pp) sz)) 4 24 (va_A ((wW_k_L_ask_11 ty X pn rn tn en pl rf ea es hn kn on cu pu gw b_1 b_2 b_3 b_p su hds kr kv ob an ch cg fb mh ml ih lb ic obi sc nn kp se) ++ pw ty pp) sz) := by
  refine vx_ofWH (cc := cL_ask) (maxL := 7) (ret := (some .int)) (hh := [(0, 11, 12, 72), (0, 11, 18, 74), (0, 11, 24, 76), (0, 11, 30, 78), (0, 11, 36, 130)]) (by decide) rfl ?_
  intro p e s m args below meth c s₁ B hml hv
  obtain ⟨rfl, hsz, hP, hK, hD0, hE⟩ := hv
  have hx := B.exec
  have hb := B.bytes
  have hr := B.returns
  have hts := atoms_spec (ws := vs_k_L_ask_11) B.pre
  have hown : s.vm.findClass RL = some m.cls := findClass_of_methodNamed B.named
  have hlocks := B.notSynchronized
  have hTab := vx_table (x := yL_ask) B (hts _ List.mem_cons_self)
  subst hsz
  have hD := hD0.self (sz := s.heap.size)
  generalize hAe : va_A ((wW_k_L_ask_11 ty X pn rn tn en pl rf ea es hn kn on cu pu gw b_1 b_2 b_3 b_p su hds kr kv ob an ch cg fb mh ml ih lb ic obi sc nn kp se) ++ pw ty pp) s.heap.size = A at hD hE ⊢
  have hA : ∀ q : Nat, s.heap.size ≤ q → A q := fun q h => by rw [← hAe]; exact Or.inr h
  have hS : va_S A s.heap s.heap [] := va_S.rf
  have hP : va_P D vwCl ((wW_k_L_ask_11 ty X pn rn tn en pl rf ea es hn kn on cu pu gw b_1 b_2 b_3 b_p su hds kr kv ob an ch cg fb mh ml ih lb ic obi sc nn kp se) ++ pw ty pp) s.heap := hP
  have hl := lv_entry ([.ref (X 0), .int 11, .int a1, .int a2, .int a3, .int a4]) (n := 7) (Nat.le_of_ble_eq_true rfl)
  rw [lg_entry_eq]
  generalize (lg_sl ([.ref (X 0), .int 11, .int a1, .int a2, .int a3, .int a4]) ++ List.replicate (7 - (lg_sl ([.ref (X 0), .int 11, .int a1, .int a2, .int a3, .int a4])).length) Slot.unset).toArray = ls at hl ⊢
  have hl : lv_has ls 7 [(0, .ref (X 0)), (1, .int 11), (2, .int a1), (3, .int a2), (4, .int a3), (5, .int a4)] := hl
  have END : ∀ (r : Int32) (w9_0 : Nat → Int32) (w9_1 : Int32) (w9_2 : Int32) (w9_3 : Int32) (w9_4 : Int32) (w9_5 : Int32), TT = (r, w9_0, w9_1, w9_2, w9_3, w9_4, w9_5) → ∀ (H : Heap) (locs : List Loc), va_P D vwCl ((wW_k_L_ask_11 ty X pn rn tn en pl rf ea es w9_1 kn on cu pu gw w9_2 w9_3 w9_4 w9_5 su w9_0 kr kv ob an ch cg fb mh ml ih lb ic obi sc nn kp se) ++ pw ty pp) H → va_D A ((wW_k_L_ask_11 ty X pn rn tn en pl rf ea es w9_1 kn on cu pu gw w9_2 w9_3 w9_4 w9_5 su w9_0 kr kv ob an ch cg fb mh ml ih lb ic obi sc nn kp se) ++ pw ty pp) → va_S A s.heap H locs → ∀ (ls : Array Slot) (pc : Nat), decode cL_ask pc = .ok (.ireturn, 1) → W p l e (headSpec vs_k_L_ask_11 { frames := 10, cells := 4, slots := 24, locals := 188 }).room s m ([.ref (X 0), .int 11, .int a1, .int a2, .int a3, .int a4] : List Value).toArray below meth c H locs 4 24 (vx_MQ below (va_Qi (fun (r : Int32) (u : va_W) => (r = TT.1 ∧ (u = ((wW_k_L_ask_11 ty X pn rn tn en pl rf ea es TT.2.2.1 kn on cu pu gw TT.2.2.2.1 TT.2.2.2.2.1 TT.2.2.2.2.2.1 TT.2.2.2.2.2.2 su TT.2.1 kr kv ob an ch cg fb mh ml ih lb ic obi sc nn kp se) ++ pw ty pp)))) (wq_B D A) A) (vx_X (fun u : String × va_W => False) (wq_BX D A) A) ([.ref (X 0), .int 11, .int a1, .int a2, .int a3, .int a4] : List Value).toArray s 4 24 A) (F0 m pc ls [.int r]) := by
    intro r w9_0 w9_1 w9_2 w9_3 w9_4 w9_5 hT H locs hP hD hS ls pc hd
    have hM : TT = (r, w9_0, w9_1, w9_2, w9_3, w9_4, w9_5) := hT
    refine vx_ret ?_
    exact W.iret (v := r) hx hb hr (fun t ht hW => ⟨⟨r, ((wW_k_L_ask_11 ty X pn rn tn en pl rf ea es w9_1 kn on cu pu gw w9_2 w9_3 w9_4 w9_5 su w9_0 kr kv ob an ch cg fb mh ml ih lb ic obi sc nn kp se) ++ pw ty pp), rfl, ⟨(by rw [hM]), (by rw [hM])⟩, wq_B.of ht hP hD⟩, hS.F ht⟩) hS.2.2 hd
  have hT := hTT
  rw [m_k_L_ask_11] at hT
  refine lv_aload_n hx hb dL_ask_0 rfl (lv_at hl 0 rfl) ?_
  refine lv_iload_n hx hb dL_ask_1 rfl (lv_at hl 1 rfl) ?_
  refine lv_iload_n hx hb dL_ask_2 rfl (lv_at hl 2 rfl) ?_
  refine lv_iload_n hx hb dL_ask_3 rfl (lv_at hl 3 rfl) ?_
  refine lv_iload hx hb dL_ask_4 (lv_at hl 4 rfl) ?_
  refine lv_iload hx hb dL_ask_6 (lv_at hl 5 rfl) ?_
  obtain ⟨t_8, ht_8⟩ : ∃ t, t = m_k_L_asked_11 pp pn rn en pl rf ea es hn kn on b_1 b_2 b_3 b_p su hds kr kv ob obi sc nn kp se a1 a2 a3 a4 := ⟨_, rfl⟩
  rw [lE_eq ht_8] at hT
  refine wq_xiPW (wc := (wW_k_L_asked_11 ty X pn rn tn en pl rf ea es hn kn on cu pu gw b_1 b_2 b_3 b_p su hds kr kv ob an ch cg fb mh ml ih lb ic obi sc nn kp se)) (pl := pw ty pp) (ux := (wW_k_L_asked_11 ty X pn rn tn en pl rf ea es t_8.2.2.2.1 kn on cu pu gw t_8.2.2.2.2.1 t_8.2.2.2.2.2.1 t_8.2.2.2.2.2.2.1 t_8.2.2.2.2.2.2.2 su t_8.2.2.1 kr kv ob an ch cg fb mh ml ih lb ic obi sc nn kp se)) (vx_runS (As := [.ref (X 0), .int 11, .int a1, .int a2, .int a3, .int a4]) (rest := []) ⟨hx, hb, hml, hown, hts⟩ (k_L_asked_11 l hl9 D ty td mi s.heap.size pp X pn rn tn en pl rf ea es hn kn on cu pu gw b_1 b_2 b_3 b_p su hds kr kv ob an ch cg fb mh ml ih lb ic obi sc nn kp se a1 a2 a3 a4 hok hru hch t_8 ht_8) (va_cwS 6 hts gv_k_L_ask_11_0 rfl rfl rfl (by decide +kernel) ⟨(Nat.le_of_ble_eq_true rfl), (Nat.le_of_ble_eq_true rfl)⟩) (wm_preSP hP hD hK hE hS hA [true, true, true, true, true, true, true, true, true, true, true, true, true, true, true, true, true, true, true] rfl) rfl rfl hl.1 rfl (lv_room (Nat.le_of_ble_eq_true rfl)) dL_ask_8 ⟨(Nat.le_of_ble_eq_true rfl), (Nat.le_of_ble_eq_true rfl)⟩) hS hA hP hD [true, true, true, true, true, true, true, true, true, true, true, true, true, true, true, true, true, true, true] rfl rfl (fun _ _ h => h.2.2) (fun E9 u9 h => by rcases h with ⟨-, h⟩ | ⟨-, h⟩ | ⟨-, h⟩ | ⟨-, h⟩ <;> (cases h; rfl)) (fun E9 H locs q9 ce hw hP hD hS hce hcv hcl => ?_) (fun r H locs hw hP hD hS => ?_)
  · rcases hw with ⟨c_1, hEq⟩ | ⟨c_2, hEq⟩ | ⟨c_3, hEq⟩ | ⟨c_4, hEq⟩
    · cases hEq
      rw [if_neg (show ¬ t_8.1 = 0 by rw [c_1]; decide)] at hT
      rw [if_pos c_1] at hT
      have hP : va_P D vwCl ((wW_k_L_ask_11 ty X pn rn tn en pl rf ea es t_8.2.2.2.1 kn on cu pu gw t_8.2.2.2.2.1 t_8.2.2.2.2.2.1 t_8.2.2.2.2.2.2.1 t_8.2.2.2.2.2.2.2 su t_8.2.2.1 kr kv ob an ch cg fb mh ml ih lb ic obi sc nn kp se) ++ pw ty pp) H := hP
      have hD : va_D A ((wW_k_L_ask_11 ty X pn rn tn en pl rf ea es t_8.2.2.2.1 kn on cu pu gw t_8.2.2.2.2.1 t_8.2.2.2.2.2.1 t_8.2.2.2.2.2.2.1 t_8.2.2.2.2.2.2.2 su t_8.2.2.1 kr kv ob an ch cg fb mh ml ih lb ic obi sc nn kp se) ++ pw ty pp) := hD
      refine vx_widen (k := 4) (n := 24) (Nat.le_of_ble_eq_true rfl) (Nat.le_of_ble_eq_true rfl) ?_
      refine vx_catch (own := RL) (name := "java/lang/IndexOutOfBoundsException") (E := "java/lang/IndexOutOfBoundsException") hown [] ⟨0, 11, 12, 72⟩ [⟨0, 11, 18, 74⟩, ⟨0, 11, 24, 76⟩, ⟨0, 11, 30, 78⟩, ⟨0, 11, 36, 130⟩] (by rw [hTab]; rfl) (fun z hz => nomatch hz) (by decide) (by decide) (hts (.classLink RL 72 "java/lang/IndexOutOfBoundsException") (by decide +kernel)) (va_Nw.use rfl (hE.ca "java/lang/IndexOutOfBoundsException" "java/lang/IndexOutOfBoundsException" (by decide +kernel))) hce hcv hcl ?_
      refine lv_astore (lv' := [(6, .ref q9), (0, .ref (X 0)), (1, .int 11), (2, .int a1), (3, .int a2), (4, .int a3), (5, .int a4)]) hx hb dL_ask_12 hl (by decide) rfl (fun ls hl => ?_)
      refine lv_sipush (v := (-2001)) hx hb dL_ask_14 (by decide) ?_
      exact END (-2001) t_8.2.2.1 t_8.2.2.2.1 t_8.2.2.2.2.1 t_8.2.2.2.2.2.1 t_8.2.2.2.2.2.2.1 t_8.2.2.2.2.2.2.2 hT _ _ hP hD hS _ _ dL_ask_17
    · cases hEq
      rw [if_neg (show ¬ t_8.1 = 0 by rw [c_2]; decide)] at hT
      rw [if_neg (show ¬ t_8.1 = 1 by rw [c_2]; decide)] at hT
      rw [if_pos c_2] at hT
      have hP : va_P D vwCl ((wW_k_L_ask_11 ty X pn rn tn en pl rf ea es t_8.2.2.2.1 kn on cu pu gw t_8.2.2.2.2.1 t_8.2.2.2.2.2.1 t_8.2.2.2.2.2.2.1 t_8.2.2.2.2.2.2.2 su t_8.2.2.1 kr kv ob an ch cg fb mh ml ih lb ic obi sc nn kp se) ++ pw ty pp) H := hP
      have hD : va_D A ((wW_k_L_ask_11 ty X pn rn tn en pl rf ea es t_8.2.2.2.1 kn on cu pu gw t_8.2.2.2.2.1 t_8.2.2.2.2.2.1 t_8.2.2.2.2.2.2.1 t_8.2.2.2.2.2.2.2 su t_8.2.2.1 kr kv ob an ch cg fb mh ml ih lb ic obi sc nn kp se) ++ pw ty pp) := hD
      refine vx_widen (k := 4) (n := 24) (Nat.le_of_ble_eq_true rfl) (Nat.le_of_ble_eq_true rfl) ?_
      refine vx_catch (own := RL) (name := "java/lang/IllegalArgumentException") (E := "java/lang/IllegalArgumentException") hown [⟨0, 11, 12, 72⟩] ⟨0, 11, 18, 74⟩ [⟨0, 11, 24, 76⟩, ⟨0, 11, 30, 78⟩, ⟨0, 11, 36, 130⟩] (by rw [hTab]; rfl) (by
          intro z hz
          rcases List.mem_cons.mp hz with rfl | hz
          · exact Or.inr ⟨by decide, "java/lang/IndexOutOfBoundsException", (hts (.classLink RL 72 "java/lang/IndexOutOfBoundsException") (by decide +kernel)), hE.nc "java/lang/IllegalArgumentException" "java/lang/IndexOutOfBoundsException" (by decide +kernel)⟩
          cases hz) (by decide) (by decide) (hts (.classLink RL 74 "java/lang/IllegalArgumentException") (by decide +kernel)) (va_Nw.use rfl (hE.ca "java/lang/IllegalArgumentException" "java/lang/IllegalArgumentException" (by decide +kernel))) hce hcv hcl ?_
      refine lv_astore (lv' := [(6, .ref q9), (0, .ref (X 0)), (1, .int 11), (2, .int a1), (3, .int a2), (4, .int a3), (5, .int a4)]) hx hb dL_ask_18 hl (by decide) rfl (fun ls hl => ?_)
      refine lv_sipush (v := (-2002)) hx hb dL_ask_20 (by decide) ?_
      exact END (-2002) t_8.2.2.1 t_8.2.2.2.1 t_8.2.2.2.2.1 t_8.2.2.2.2.2.1 t_8.2.2.2.2.2.2.1 t_8.2.2.2.2.2.2.2 hT _ _ hP hD hS _ _ dL_ask_23
    · cases hEq
      rw [if_neg (show ¬ t_8.1 = 0 by rw [c_3]; decide)] at hT
      rw [if_neg (show ¬ t_8.1 = 1 by rw [c_3]; decide)] at hT
      rw [if_neg (show ¬ t_8.1 = 2 by rw [c_3]; decide)] at hT
      rw [if_pos c_3] at hT
      have hP : va_P D vwCl ((wW_k_L_ask_11 ty X pn rn tn en pl rf ea es t_8.2.2.2.1 kn on cu pu gw t_8.2.2.2.2.1 t_8.2.2.2.2.2.1 t_8.2.2.2.2.2.2.1 t_8.2.2.2.2.2.2.2 su t_8.2.2.1 kr kv ob an ch cg fb mh ml ih lb ic obi sc nn kp se) ++ pw ty pp) H := hP
      have hD : va_D A ((wW_k_L_ask_11 ty X pn rn tn en pl rf ea es t_8.2.2.2.1 kn on cu pu gw t_8.2.2.2.2.1 t_8.2.2.2.2.2.1 t_8.2.2.2.2.2.2.1 t_8.2.2.2.2.2.2.2 su t_8.2.2.1 kr kv ob an ch cg fb mh ml ih lb ic obi sc nn kp se) ++ pw ty pp) := hD
      refine vx_widen (k := 4) (n := 24) (Nat.le_of_ble_eq_true rfl) (Nat.le_of_ble_eq_true rfl) ?_
      refine vx_catch (own := RL) (name := "java/lang/IllegalStateException") (E := "java/lang/IllegalStateException") hown [⟨0, 11, 12, 72⟩, ⟨0, 11, 18, 74⟩] ⟨0, 11, 24, 76⟩ [⟨0, 11, 30, 78⟩, ⟨0, 11, 36, 130⟩] (by rw [hTab]; rfl) (by
          intro z hz
          rcases List.mem_cons.mp hz with rfl | hz
          · exact Or.inr ⟨by decide, "java/lang/IndexOutOfBoundsException", (hts (.classLink RL 72 "java/lang/IndexOutOfBoundsException") (by decide +kernel)), hE.nc "java/lang/IllegalStateException" "java/lang/IndexOutOfBoundsException" (by decide +kernel)⟩
          rcases List.mem_cons.mp hz with rfl | hz
          · exact Or.inr ⟨by decide, "java/lang/IllegalArgumentException", (hts (.classLink RL 74 "java/lang/IllegalArgumentException") (by decide +kernel)), hE.nc "java/lang/IllegalStateException" "java/lang/IllegalArgumentException" (by decide +kernel)⟩
          cases hz) (by decide) (by decide) (hts (.classLink RL 76 "java/lang/IllegalStateException") (by decide +kernel)) (va_Nw.use rfl (hE.ca "java/lang/IllegalStateException" "java/lang/IllegalStateException" (by decide +kernel))) hce hcv hcl ?_
      refine lv_astore (lv' := [(6, .ref q9), (0, .ref (X 0)), (1, .int 11), (2, .int a1), (3, .int a2), (4, .int a3), (5, .int a4)]) hx hb dL_ask_24 hl (by decide) rfl (fun ls hl => ?_)
      refine lv_sipush (v := (-2003)) hx hb dL_ask_26 (by decide) ?_
      exact END (-2003) t_8.2.2.1 t_8.2.2.2.1 t_8.2.2.2.2.1 t_8.2.2.2.2.2.1 t_8.2.2.2.2.2.2.1 t_8.2.2.2.2.2.2.2 hT _ _ hP hD hS _ _ dL_ask_29
    · cases hEq
      rw [if_neg (show ¬ t_8.1 = 0 by rw [c_4]; decide)] at hT
      rw [if_neg (show ¬ t_8.1 = 1 by rw [c_4]; decide)] at hT
      rw [if_neg (show ¬ t_8.1 = 2 by rw [c_4]; decide)] at hT
      rw [if_neg (show ¬ t_8.1 = 3 by rw [c_4]; decide)] at hT
      have hP : va_P D vwCl ((wW_k_L_ask_11 ty X pn rn tn en pl rf ea es t_8.2.2.2.1 kn on cu pu gw t_8.2.2.2.2.1 t_8.2.2.2.2.2.1 t_8.2.2.2.2.2.2.1 t_8.2.2.2.2.2.2.2 su t_8.2.2.1 kr kv ob an ch cg fb mh ml ih lb ic obi sc nn kp se) ++ pw ty pp) H := hP
      have hD : va_D A ((wW_k_L_ask_11 ty X pn rn tn en pl rf ea es t_8.2.2.2.1 kn on cu pu gw t_8.2.2.2.2.1 t_8.2.2.2.2.2.1 t_8.2.2.2.2.2.2.1 t_8.2.2.2.2.2.2.2 su t_8.2.2.1 kr kv ob an ch cg fb mh ml ih lb ic obi sc nn kp se) ++ pw ty pp) := hD
      refine vx_widen (k := 4) (n := 24) (Nat.le_of_ble_eq_true rfl) (Nat.le_of_ble_eq_true rfl) ?_
      refine vx_catch (own := RL) (name := "java/util/NoSuchElementException") (E := "java/util/NoSuchElementException") hown [⟨0, 11, 12, 72⟩, ⟨0, 11, 18, 74⟩, ⟨0, 11, 24, 76⟩, ⟨0, 11, 30, 78⟩] ⟨0, 11, 36, 130⟩ [] (by rw [hTab]; rfl) (by
          intro z hz
          rcases List.mem_cons.mp hz with rfl | hz
          · exact Or.inr ⟨by decide, "java/lang/IndexOutOfBoundsException", (hts (.classLink RL 72 "java/lang/IndexOutOfBoundsException") (by decide +kernel)), hE.nc "java/util/NoSuchElementException" "java/lang/IndexOutOfBoundsException" (by decide +kernel)⟩
          rcases List.mem_cons.mp hz with rfl | hz
          · exact Or.inr ⟨by decide, "java/lang/IllegalArgumentException", (hts (.classLink RL 74 "java/lang/IllegalArgumentException") (by decide +kernel)), hE.nc "java/util/NoSuchElementException" "java/lang/IllegalArgumentException" (by decide +kernel)⟩
          rcases List.mem_cons.mp hz with rfl | hz
          · exact Or.inr ⟨by decide, "java/lang/IllegalStateException", (hts (.classLink RL 76 "java/lang/IllegalStateException") (by decide +kernel)), hE.nc "java/util/NoSuchElementException" "java/lang/IllegalStateException" (by decide +kernel)⟩
          rcases List.mem_cons.mp hz with rfl | hz
          · exact Or.inr ⟨by decide, "java/lang/UnsupportedOperationException", (hts (.classLink RL 78 "java/lang/UnsupportedOperationException") (by decide +kernel)), hE.nc "java/util/NoSuchElementException" "java/lang/UnsupportedOperationException" (by decide +kernel)⟩
          cases hz) (by decide) (by decide) (hts (.classLink RL 130 "java/util/NoSuchElementException") (by decide +kernel)) (va_Nw.use rfl (hE.ca "java/util/NoSuchElementException" "java/util/NoSuchElementException" (by decide +kernel))) hce hcv hcl ?_
      refine lv_astore (lv' := [(6, .ref q9), (0, .ref (X 0)), (1, .int 11), (2, .int a1), (3, .int a2), (4, .int a3), (5, .int a4)]) hx hb dL_ask_36 hl (by decide) rfl (fun ls hl => ?_)
      refine lv_sipush (v := (-2005)) hx hb dL_ask_38 (by decide) ?_
      exact END (-2005) t_8.2.2.1 t_8.2.2.2.1 t_8.2.2.2.2.1 t_8.2.2.2.2.2.1 t_8.2.2.2.2.2.2.1 t_8.2.2.2.2.2.2.2 hT _ _ hP hD hS _ _ dL_ask_41
  · obtain ⟨c_5, rfl, -⟩ := hw
    rw [if_pos c_5] at hT
    have hP : va_P D vwCl ((wW_k_L_ask_11 ty X pn rn tn en pl rf ea es t_8.2.2.2.1 kn on cu pu gw t_8.2.2.2.2.1 t_8.2.2.2.2.2.1 t_8.2.2.2.2.2.2.1 t_8.2.2.2.2.2.2.2 su t_8.2.2.1 kr kv ob an ch cg fb mh ml ih lb ic obi sc nn kp se) ++ pw ty pp) H := hP
    have hD : va_D A ((wW_k_L_ask_11 ty X pn rn tn en pl rf ea es t_8.2.2.2.1 kn on cu pu gw t_8.2.2.2.2.1 t_8.2.2.2.2.2.1 t_8.2.2.2.2.2.2.1 t_8.2.2.2.2.2.2.2 su t_8.2.2.1 kr kv ob an ch cg fb mh ml ih lb ic obi sc nn kp se) ++ pw ty pp) := hD
    refine W.widen (k := 4) (n := 24) (Nat.le_of_ble_eq_true rfl) (Nat.le_of_ble_eq_true rfl) ?_
    exact END t_8.2.1 t_8.2.2.1 t_8.2.2.2.1 t_8.2.2.2.2.1 t_8.2.2.2.2.2.1 t_8.2.2.2.2.2.2.1 t_8.2.2.2.2.2.2.2 hT _ _ hP hD hS _ _ dL_ask_11
def wW_k_L_asked_12 (ty : Nat → ClassId) (X : Nat → Nat) (z9_0 : Int32) (z9_1 : Int32) (z9_2 : Int32) (z9_3 : Int32) (z9_4 : Int32) (z9_5 : Int32) (z9_6 : Nat → Int64) (z9_7 : Nat → Int32) (z9_8 : Nat → Int32) (z9_9 : Int32) (z9_10 : Int32) (z9_11 : Int32) (z9_12 : Int32) (z9_13 : Int32) (z9_14 : Int32) (z9_15 : Int32) (z9_16 : Int32) (z9_17 : Int32) (z9_18 : Int32) (z9_19 : Int32) (z9_20 : Nat → Int32) : va_W := [((X 0), .inr (12, [.ref (X 1), .ref (X 8), .ref (X 20), .ref (X 39), .ref (X 41), .ref (X 43), .ref (X 45)])), ((X 8), .inr (5, [.ref (X 1), .ref (X 9), .ref (X 10), .ref (X 12), .ref (X 14), .int z9_0, .ref (X 15), .ref (X 16), .ref (X 17), .int z9_1, .ref (X 18), .ref (X 19), .int z9_2, .int z9_3, .int z9_4, .int z9_5])), ((X 10), .inr (3, [.ref (X 11)])), ((X 11), .inl (ty 1, 6, .inr (.inl z9_6))), ((X 18), .inl (ty 0, 384, .inl z9_7)), ((X 19), .inl (ty 0, 384, .inl z9_8)), ((X 20), .inr (11, [.ref (X 1), .ref (X 8), .ref (X 21), .ref (X 28), .ref (X 35), .int z9_9, .ref (X 36), .ref (X 37), .ref (X 38), .int z9_10, .int z9_11, .int z9_12, .int z9_13, .int z9_14, .int z9_15, .int z9_16, .int z9_17])), ((X 45), .inr (2, [.ref (X 46), .ref (X 47), .int z9_18, .int z9_19])), ((X 46), .inl (ty 0, 64, .inl z9_20))]
def vs_k_L_asked_12 : List Cond := .code yL_asked cL_asked 6 (some .int) :: ([.methodLink RL 123 yX10_commonest, .instanceMethod yX10_commonest, .selects RX10 yX10_commonest yX10_commonest, .initialized RX10] ++ (vs_k_X10_commonest))
set_option maxRecDepth 20000 in
theorem gv_k_L_asked_12_0 : GoodIn vs_k_L_asked_12 (wsV RL 123 RX10 yX10_commonest vs_k_X10_commonest) := goodIn_app (goodIn_sub (by decide +kernel) (by decide +kernel)) (goodIn_sub (fun _ h => List.mem_cons_of_mem _ (List.mem_append_right _ (h))) (by decide +kernel))
set_option maxHeartbeats 4000000 in
set_option maxRecDepth 100000 in
theorem k_L_asked_12 (l : Launch) (hl9 : l.stackTraces = false) (D : va_G) (ty : Nat → ClassId) (td mi sz : Nat) (X : Nat → Nat) (hn : Int32) (kn : Int32) (on : Int32) (cu : Int32) (pu : Int32) (gw : Int32) (su : Nat → Int64) (oa : Nat → Int32) (ob : Nat → Int32) (an : Int32) (ch : Int32) (cg : Int32) (fb : Int32) (mh : Int32) (ml : Int32) (ih : Int32) (lb : Int32) (ic : Int32) (nn : Int32) (kp : Int32) (se : Nat → Int32) (a1 : Int32) (a2 : Int32) (a3 : Int32) (a4 : Int32) (TT : r_k_L_asked_12) (hTT : TT = m_k_L_asked_12 on su oa ob nn kp se) : vx_Met l yL_asked vs_k_L_asked_12 { frames := 8, cells := 2, slots := 12, locals := 126 } (va_Pc [.ref (X 0), .int 12, .int a1, .int a2, .int a3, .int a4] (wq_P D ty td mi (wW_k_L_asked_12 ty X hn kn on cu pu gw su oa ob an ch cg fb mh ml ih lb ic nn kp se) sz)) (va_Qi (fun (r : Int32) (u : va_W) => (TT.1 = 0 ∧ r = TT.2 ∧ (u = (wW_k_L_asked_12 ty X hn kn on cu pu gw su oa ob an ch cg fb mh ml ih lb ic nn kp se)))) (wq_B D (va_A (wW_k_L_asked_12 ty X hn kn on cu pu gw su oa ob an ch cg fb mh ml ih lb ic nn kp se) sz)) (va_A (wW_k_L_asked_12 ty X hn kn on cu pu gw su oa ob an ch cg fb mh ml ih lb ic nn kp se) sz)) (vx_X (fun u : String × va_W => (TT.1 = 3 ∧ u = ("java/lang/IllegalStateException", (wW_k_L_asked_12 ty X hn kn on cu pu gw su oa ob an ch cg fb mh ml ih lb ic nn kp se))) ∨ (TT.1 = 5 ∧ u = ("java/util/NoSuchElementException", (wW_k_L_asked_12 ty X hn kn on cu pu gw su oa ob an ch cg fb mh ml ih lb ic nn kp se)))) (wq_BX D (va_A (wW_k_L_asked_12 ty X hn kn on cu pu gw su oa ob an ch cg fb mh ml ih lb ic nn kp se) sz)) (va_A (wW_k_L_asked_12 ty X hn kn on cu pu gw su oa ob an ch cg fb mh ml ih lb ic nn kp se) sz)) 2 12 (va_A (wW_k_L_asked_12 ty X hn kn on cu pu gw su oa ob an ch cg fb mh ml ih lb ic nn kp se) sz) := by
  refine vx_ofW (cc := cL_asked) (maxL := 6) (ret := (some .int)) (by decide) rfl ?_
  intro p e s m args below meth c s₁ B hml hEx hv
  obtain ⟨rfl, hsz, hP, hK, hD0, hE⟩ := hv
  have hx := B.exec
  have hb := B.bytes
  have hr := B.returns
  have hts := atoms_spec (ws := vs_k_L_asked_12) B.pre
  have hown : s.vm.findClass RL = some m.cls := findClass_of_methodNamed B.named
  have hlocks := B.notSynchronized
  subst hsz
  have hD := hD0.self (sz := s.heap.size)
  generalize hAe : va_A (wW_k_L_asked_12 ty X hn kn on cu pu gw su oa ob an ch cg fb mh ml ih lb ic nn kp se) s.heap.size = A at hD hE ⊢
  have hA : ∀ q : Nat, s.heap.size ≤ q → A q := fun q h => by rw [← hAe]; exact Or.inr h
  have hS : va_S A s.heap s.heap [] := va_S.rf
  have hP : va_P D vwCl (wW_k_L_asked_12 ty X hn kn on cu pu gw su oa ob an ch cg fb mh ml ih lb ic nn kp se) s.heap := hP
  have hl := lv_entry ([.ref (X 0), .int 12, .int a1, .int a2, .int a3, .int a4]) (n := 6) (Nat.le_of_ble_eq_true rfl)
  rw [lg_entry_eq]
  generalize (lg_sl ([.ref (X 0), .int 12, .int a1, .int a2, .int a3, .int a4]) ++ List.replicate (6 - (lg_sl ([.ref (X 0), .int 12, .int a1, .int a2, .int a3, .int a4])).length) Slot.unset).toArray = ls at hl ⊢
  have hl : lv_has ls 6 [(0, .ref (X 0)), (1, .int 12), (2, .int a1), (3, .int a2), (4, .int a3), (5, .int a4)] := hl
  have END : ∀ (r : Int32), TT = (0, r) → ∀ (H : Heap) (locs : List Loc), va_P D vwCl (wW_k_L_asked_12 ty X hn kn on cu pu gw su oa ob an ch cg fb mh ml ih lb ic nn kp se) H → va_D A (wW_k_L_asked_12 ty X hn kn on cu pu gw su oa ob an ch cg fb mh ml ih lb ic nn kp se) → va_S A s.heap H locs → ∀ (ls : Array Slot) (pc : Nat), decode cL_asked pc = .ok (.ireturn, 1) → W p l e (headSpec vs_k_L_asked_12 { frames := 8, cells := 2, slots := 12, locals := 126 }).room s m ([.ref (X 0), .int 12, .int a1, .int a2, .int a3, .int a4] : List Value).toArray below meth c H locs 2 12 (vx_MQ below (va_Qi (fun (r : Int32) (u : va_W) => (TT.1 = 0 ∧ r = TT.2 ∧ (u = (wW_k_L_asked_12 ty X hn kn on cu pu gw su oa ob an ch cg fb mh ml ih lb ic nn kp se)))) (wq_B D A) A) (vx_X (fun u : String × va_W => (TT.1 = 3 ∧ u = ("java/lang/IllegalStateException", (wW_k_L_asked_12 ty X hn kn on cu pu gw su oa ob an ch cg fb mh ml ih lb ic nn kp se))) ∨ (TT.1 = 5 ∧ u = ("java/util/NoSuchElementException", (wW_k_L_asked_12 ty X hn kn on cu pu gw su oa ob an ch cg fb mh ml ih lb ic nn kp se)))) (wq_BX D A) A) ([.ref (X 0), .int 12, .int a1, .int a2, .int a3, .int a4] : List Value).toArray s 2 12 A) (F0 m pc ls [.int r]) := by
    intro r hT H locs hP hD hS ls pc hd
    have hM : TT = (0, r) := hT
    refine vx_ret ?_
    exact W.iret (v := r) hx hb hr (fun t ht hW => ⟨⟨r, (wW_k_L_asked_12 ty X hn kn on cu pu gw su oa ob an ch cg fb mh ml ih lb ic nn kp se), rfl, ⟨(by rw [hM]), (by rw [hM]), rfl⟩, wq_B.of ht hP hD⟩, hS.F ht⟩) hS.2.2 hd
  have hT := hTT
  rw [m_k_L_asked_12] at hT
  refine lv_iload_n hx hb dL_asked_0 rfl (lv_at hl 1 rfl) ?_
  refine lv_tableOut (tgt := 153) hx hb dL_asked_1 (by decide) (by decide) ?_
  refine lv_aload_n hx hb dL_asked_153 rfl (lv_at hl 0 rfl) ?_
  obtain ⟨t_154, ht_154⟩ : ∃ t, t = m_k_X10_commonest on su oa ob nn kp se := ⟨_, rfl⟩
  rw [lE_eq ht_154] at hT
  refine wq_xiW (wc := (wW_k_X10_commonest ty X hn kn on cu pu gw su oa ob an ch cg fb mh ml ih lb ic nn kp se)) (vx_runV (As := []) (rest := []) ⟨hx, hb, hml, hown, hts⟩ (k_X10_commonest l hl9 D ty td mi s.heap.size X hn kn on cu pu gw su oa ob an ch cg fb mh ml ih lb ic nn kp se t_154 ht_154) (cwV 0 hts gv_k_L_asked_12_0 rfl rfl rfl (by decide +kernel) ⟨(Nat.le_of_ble_eq_true rfl), (Nat.le_of_ble_eq_true rfl)⟩) (wm_V (wm_preS hP hD hK hE hS hA [true, true, true, true, true, true, true, true, true] rfl) (va_recv (q0 := 0) (ci := 12) hK hP rfl rfl)) rfl rfl hl.1 rfl (lv_room (Nat.le_of_ble_eq_true rfl)) dL_asked_154 ⟨(Nat.le_of_ble_eq_true rfl), (Nat.le_of_ble_eq_true rfl)⟩) hS hA hP hD [true, true, true, true, true, true, true, true, true] rfl (fun _ _ h => by rcases h with ⟨-, -, rfl⟩; rfl) (fun _ _ h => by rcases h with ⟨-, h⟩ | ⟨-, h⟩ <;> (cases h; rfl)) (fun E9 u H locs q9 ce hw hP hD hS hce hcv hcl => ?_) (fun r u H locs hw hP hD hS => ?_)
  · rcases hw with ⟨c_1, hEq⟩ | ⟨c_2, hEq⟩
    · cases hEq
      rw [if_neg (show ¬ t_154.1 = 0 by rw [c_1]; decide)] at hT
      rw [if_pos c_1] at hT
      have hP : va_P D vwCl (wW_k_L_asked_12 ty X hn kn on cu pu gw su oa ob an ch cg fb mh ml ih lb ic nn kp se) H := hP
      have hD : va_D A (wW_k_L_asked_12 ty X hn kn on cu pu gw su oa ob an ch cg fb mh ml ih lb ic nn kp se) := hD
      refine vx_widen (k := 2) (n := 12) (Nat.le_of_ble_eq_true rfl) (Nat.le_of_ble_eq_true rfl) ?_
      exact vx_out (E := "java/lang/IllegalStateException") (fun x hx => (hEx x hx).elim) hlocks hce hcv hcl (fun t ht ha => wq_thrW0 (W := (wW_k_L_asked_12 ty X hn kn on cu pu gw su oa ob an ch cg fb mh ml ih lb ic nn kp se)) hS hP hD (by exact (Or.inl ⟨(by rw [hT]), (by first | rw [hT] | rfl)⟩)) ht) hS.2.2 (Nat.le_refl _) (Nat.le_refl _)
    · cases hEq
      rw [if_neg (show ¬ t_154.1 = 0 by rw [c_2]; decide)] at hT
      rw [if_neg (show ¬ t_154.1 = 3 by rw [c_2]; decide)] at hT
      have hP : va_P D vwCl (wW_k_L_asked_12 ty X hn kn on cu pu gw su oa ob an ch cg fb mh ml ih lb ic nn kp se) H := hP
      have hD : va_D A (wW_k_L_asked_12 ty X hn kn on cu pu gw su oa ob an ch cg fb mh ml ih lb ic nn kp se) := hD
      refine vx_widen (k := 2) (n := 12) (Nat.le_of_ble_eq_true rfl) (Nat.le_of_ble_eq_true rfl) ?_
      exact vx_out (E := "java/util/NoSuchElementException") (fun x hx => (hEx x hx).elim) hlocks hce hcv hcl (fun t ht ha => wq_thrW0 (W := (wW_k_L_asked_12 ty X hn kn on cu pu gw su oa ob an ch cg fb mh ml ih lb ic nn kp se)) hS hP hD (by exact (Or.inr ⟨(by rw [hT]), (by first | rw [hT] | rfl)⟩)) ht) hS.2.2 (Nat.le_refl _) (Nat.le_refl _)
  · obtain ⟨c_3, rfl, rfl⟩ := hw
    rw [if_pos c_3] at hT
    have hP : va_P D vwCl (wW_k_L_asked_12 ty X hn kn on cu pu gw su oa ob an ch cg fb mh ml ih lb ic nn kp se) H := hP
    have hD : va_D A (wW_k_L_asked_12 ty X hn kn on cu pu gw su oa ob an ch cg fb mh ml ih lb ic nn kp se) := hD
    refine W.widen (k := 2) (n := 12) (Nat.le_of_ble_eq_true rfl) (Nat.le_of_ble_eq_true rfl) ?_
    exact END t_154.2 hT _ _ hP hD hS _ _ dL_asked_157
def wW_k_L_ask_12 (ty : Nat → ClassId) (X : Nat → Nat) (z9_0 : Int32) (z9_1 : Int32) (z9_2 : Int32) (z9_3 : Int32) (z9_4 : Int32) (z9_5 : Int32) (z9_6 : Nat → Int64) (z9_7 : Nat → Int32) (z9_8 : Nat → Int32) (z9_9 : Int32) (z9_10 : Int32) (z9_11 : Int32) (z9_12 : Int32) (z9_13 : Int32) (z9_14 : Int32) (z9_15 : Int32) (z9_16 : Int32) (z9_17 : Int32) (z9_18 : Int32) (z9_19 : Int32) (z9_20 : Nat → Int32) : va_W := [((X 0), .inr (12, [.ref (X 1), .ref (X 8), .ref (X 20), .ref (X 39), .ref (X 41), .ref (X 43), .ref (X 45)])), ((X 8), .inr (5, [.ref (X 1), .ref (X 9), .ref (X 10), .ref (X 12), .ref (X 14), .int z9_0, .ref (X 15), .ref (X 16), .ref (X 17), .int z9_1, .ref (X 18), .ref (X 19), .int z9_2, .int z9_3, .int z9_4, .int z9_5])), ((X 10), .inr (3, [.ref (X 11)])), ((X 11), .inl (ty 1, 6, .inr (.inl z9_6))), ((X 18), .inl (ty 0, 384, .inl z9_7)), ((X 19), .inl (ty 0, 384, .inl z9_8)), ((X 20), .inr (11, [.ref (X 1), .ref (X 8), .ref (X 21), .ref (X 28), .ref (X 35), .int z9_9, .ref (X 36), .ref (X 37), .ref (X 38), .int z9_10, .int z9_11, .int z9_12, .int z9_13, .int z9_14, .int z9_15, .int z9_16, .int z9_17])), ((X 45), .inr (2, [.ref (X 46), .ref (X 47), .int z9_18, .int z9_19])), ((X 46), .inl (ty 0, 64, .inl z9_20))]
def vs_k_L_ask_12 : List Cond := .codeWith yL_ask cL_ask 7 (some .int) [(0, 11, 12, 72), (0, 11, 18, 74), (0, 11, 24, 76), (0, 11, 30, 78), (0, 11, 36, 130)] :: ([.methodLink RL 126 yL_asked, .static yL_asked, .initialized RL, .classLink RL 72 "java/lang/IndexOutOfBoundsException", .classLink RL 74 "java/lang/IllegalArgumentException", .classLink RL 76 "java/lang/IllegalStateException", .classLink RL 78 "java/lang/UnsupportedOperationException", .classLink RL 130 "java/util/NoSuchElementException"] ++ (vs_k_L_asked_12))
set_option maxRecDepth 20000 in
theorem gv_k_L_ask_12_0 : GoodIn vs_k_L_ask_12 (va_wsS RL 126 yL_asked vs_k_L_asked_12) := goodIn_app (goodIn_sub (by decide +kernel) (by decide +kernel)) (goodIn_sub (fun _ h => List.mem_cons_of_mem _ (List.mem_append_right _ (h))) (by decide +kernel))
set_option maxHeartbeats 4000000 in
set_option maxRecDepth 100000 in
theorem k_L_ask_12 (l : Launch) (hl9 : l.stackTraces = false) (D : va_G) (ty : Nat → ClassId) (td mi sz : Nat) (X : Nat → Nat) (hn : Int32) (kn : Int32) (on : Int32) (cu : Int32) (pu : Int32) (gw : Int32) (su : Nat → Int64) (oa : Nat → Int32) (ob : Nat → Int32) (an : Int32) (ch : Int32) (cg : Int32) (fb : Int32) (mh : Int32) (ml : Int32) (ih : Int32) (lb : Int32) (ic : Int32) (nn : Int32) (kp : Int32) (se : Nat → Int32) (a1 : Int32) (a2 : Int32) (a3 : Int32) (a4 : Int32) (TT : r_k_L_ask_12) (hTT : TT = m_k_L_ask_12 on su oa ob nn kp se) : vx_Met l yL_ask vs_k_L_ask_12 { frames := 9, cells := 2, slots := 12, locals := 151 } (va_Pc [.ref (X 0), .int 12, .int a1, .int a2, .int a3, .int a4] (wq_P D ty td mi (wW_k_L_ask_12 ty X hn kn on cu pu gw su oa ob an ch cg fb mh ml ih lb ic nn kp se) sz)) (va_Qi (fun (r : Int32) (u : va_W) => (r = TT ∧ (u = (wW_k_L_ask_12 ty X hn kn on cu pu gw su oa ob an ch cg fb mh ml ih lb ic nn kp se)))) (wq_B D (va_A (wW_k_L_ask_12 ty X hn kn on cu pu gw su oa ob an ch cg fb mh ml ih lb ic nn kp se) sz)) (va_A (wW_k_L_ask_12 ty X hn kn on cu pu gw su oa ob an ch cg fb mh ml ih lb ic nn kp se) sz)) (vx_X (fun u : String × va_W => False) (wq_BX D (va_A (wW_k_L_ask_12 ty X hn kn on cu pu gw su oa ob an ch cg fb mh ml ih lb ic nn kp se) sz)) (va_A (wW_k_L_ask_12 ty X hn kn on cu pu gw su oa ob an ch cg fb mh ml ih lb ic nn kp se) sz)) 2 12 (va_A (wW_k_L_ask_12 ty X hn kn on cu pu gw su oa ob an ch cg fb mh ml ih lb ic nn kp se) sz) := by
  refine vx_ofWH (cc := cL_ask) (maxL := 7) (ret := (some .int)) (hh := [(0, 11, 12, 72), (0, 11, 18, 74), (0, 11, 24, 76), (0, 11, 30, 78), (0, 11, 36, 130)]) (by decide) rfl ?_
  intro p e s m args below meth c s₁ B hml hv
  obtain ⟨rfl, hsz, hP, hK, hD0, hE⟩ := hv
  have hx := B.exec
  have hb := B.bytes
  have hr := B.returns
  have hts := atoms_spec (ws := vs_k_L_ask_12) B.pre
  have hown : s.vm.findClass RL = some m.cls := findClass_of_methodNamed B.named
  have hlocks := B.notSynchronized
  have hTab := vx_table (x := yL_ask) B (hts _ List.mem_cons_self)
  subst hsz
  have hD := hD0.self (sz := s.heap.size)
  generalize hAe : va_A (wW_k_L_ask_12 ty X hn kn on cu pu gw su oa ob an ch cg fb mh ml ih lb ic nn kp se) s.heap.size = A at hD hE ⊢
  have hA : ∀ q : Nat, s.heap.size ≤ q → A q := fun q h => by rw [← hAe]; exact Or.inr h
  have hS : va_S A s.heap s.heap [] := va_S.rf
  have hP : va_P D vwCl (wW_k_L_ask_12 ty X hn kn on cu pu gw su oa ob an ch cg fb mh ml ih lb ic nn kp se) s.heap := hP
  have hl := lv_entry ([.ref (X 0), .int 12, .int a1, .int a2, .int a3, .int a4]) (n := 7) (Nat.le_of_ble_eq_true rfl)
  rw [lg_entry_eq]
  generalize (lg_sl ([.ref (X 0), .int 12, .int a1, .int a2, .int a3, .int a4]) ++ List.replicate (7 - (lg_sl ([.ref (X 0), .int 12, .int a1, .int a2, .int a3, .int a4])).length) Slot.unset).toArray = ls at hl ⊢
  have hl : lv_has ls 7 [(0, .ref (X 0)), (1, .int 12), (2, .int a1), (3, .int a2), (4, .int a3), (5, .int a4)] := hl
  have END : ∀ (r : Int32), TT = r → ∀ (H : Heap) (locs : List Loc), va_P D vwCl (wW_k_L_ask_12 ty X hn kn on cu pu gw su oa ob an ch cg fb mh ml ih lb ic nn kp se) H → va_D A (wW_k_L_ask_12 ty X hn kn on cu pu gw su oa ob an ch cg fb mh ml ih lb ic nn kp se) → va_S A s.heap H locs → ∀ (ls : Array Slot) (pc : Nat), decode cL_ask pc = .ok (.ireturn, 1) → W p l e (headSpec vs_k_L_ask_12 { frames := 9, cells := 2, slots := 12, locals := 151 }).room s m ([.ref (X 0), .int 12, .int a1, .int a2, .int a3, .int a4] : List Value).toArray below meth c H locs 2 12 (vx_MQ below (va_Qi (fun (r : Int32) (u : va_W) => (r = TT ∧ (u = (wW_k_L_ask_12 ty X hn kn on cu pu gw su oa ob an ch cg fb mh ml ih lb ic nn kp se)))) (wq_B D A) A) (vx_X (fun u : String × va_W => False) (wq_BX D A) A) ([.ref (X 0), .int 12, .int a1, .int a2, .int a3, .int a4] : List Value).toArray s 2 12 A) (F0 m pc ls [.int r]) := by
    intro r hT H locs hP hD hS ls pc hd
    have hM : TT = r := hT
    refine vx_ret ?_
    exact W.iret (v := r) hx hb hr (fun t ht hW => ⟨⟨r, (wW_k_L_ask_12 ty X hn kn on cu pu gw su oa ob an ch cg fb mh ml ih lb ic nn kp se), rfl, ⟨(by rw [hM]), rfl⟩, wq_B.of ht hP hD⟩, hS.F ht⟩) hS.2.2 hd
  have hT := hTT
  rw [m_k_L_ask_12] at hT
  refine lv_aload_n hx hb dL_ask_0 rfl (lv_at hl 0 rfl) ?_
  refine lv_iload_n hx hb dL_ask_1 rfl (lv_at hl 1 rfl) ?_
  refine lv_iload_n hx hb dL_ask_2 rfl (lv_at hl 2 rfl) ?_
  refine lv_iload_n hx hb dL_ask_3 rfl (lv_at hl 3 rfl) ?_
  refine lv_iload hx hb dL_ask_4 (lv_at hl 4 rfl) ?_
  refine lv_iload hx hb dL_ask_6 (lv_at hl 5 rfl) ?_
  obtain ⟨t_8, ht_8⟩ : ∃ t, t = m_k_L_asked_12 on su oa ob nn kp se := ⟨_, rfl⟩
  rw [lE_eq ht_8] at hT
  refine wq_xiW (wc := (wW_k_L_asked_12 ty X hn kn on cu pu gw su oa ob an ch cg fb mh ml ih lb ic nn kp se)) (vx_runS (As := [.ref (X 0), .int 12, .int a1, .int a2, .int a3, .int a4]) (rest := []) ⟨hx, hb, hml, hown, hts⟩ (k_L_asked_12 l hl9 D ty td mi s.heap.size X hn kn on cu pu gw su oa ob an ch cg fb mh ml ih lb ic nn kp se a1 a2 a3 a4 t_8 ht_8) (va_cwS 6 hts gv_k_L_ask_12_0 rfl rfl rfl (by decide +kernel) ⟨(Nat.le_of_ble_eq_true rfl), (Nat.le_of_ble_eq_true rfl)⟩) (wm_preS hP hD hK hE hS hA [true, true, true, true, true, true, true, true, true] rfl) rfl rfl hl.1 rfl (lv_room (Nat.le_of_ble_eq_true rfl)) dL_ask_8 ⟨(Nat.le_of_ble_eq_true rfl), (Nat.le_of_ble_eq_true rfl)⟩) hS hA hP hD [true, true, true, true, true, true, true, true, true] rfl (fun _ _ h => by rcases h with ⟨-, -, rfl⟩; rfl) (fun _ _ h => by rcases h with ⟨-, h⟩ | ⟨-, h⟩ <;> (cases h; rfl)) (fun E9 u H locs q9 ce hw hP hD hS hce hcv hcl => ?_) (fun r u H locs hw hP hD hS => ?_)
  · rcases hw with ⟨c_1, hEq⟩ | ⟨c_2, hEq⟩
    · cases hEq
      rw [if_neg (show ¬ t_8.1 = 0 by rw [c_1]; decide)] at hT
      rw [if_pos c_1] at hT
      have hP : va_P D vwCl (wW_k_L_ask_12 ty X hn kn on cu pu gw su oa ob an ch cg fb mh ml ih lb ic nn kp se) H := hP
      have hD : va_D A (wW_k_L_ask_12 ty X hn kn on cu pu gw su oa ob an ch cg fb mh ml ih lb ic nn kp se) := hD
      refine vx_widen (k := 2) (n := 12) (Nat.le_of_ble_eq_true rfl) (Nat.le_of_ble_eq_true rfl) ?_
      refine vx_catch (own := RL) (name := "java/lang/IllegalStateException") (E := "java/lang/IllegalStateException") hown [⟨0, 11, 12, 72⟩, ⟨0, 11, 18, 74⟩] ⟨0, 11, 24, 76⟩ [⟨0, 11, 30, 78⟩, ⟨0, 11, 36, 130⟩] (by rw [hTab]; rfl) (by
          intro z hz
          rcases List.mem_cons.mp hz with rfl | hz
          · exact Or.inr ⟨by decide, "java/lang/IndexOutOfBoundsException", (hts (.classLink RL 72 "java/lang/IndexOutOfBoundsException") (by decide +kernel)), hE.nc "java/lang/IllegalStateException" "java/lang/IndexOutOfBoundsException" (by decide +kernel)⟩
          rcases List.mem_cons.mp hz with rfl | hz
          · exact Or.inr ⟨by decide, "java/lang/IllegalArgumentException", (hts (.classLink RL 74 "java/lang/IllegalArgumentException") (by decide +kernel)), hE.nc "java/lang/IllegalStateException" "java/lang/IllegalArgumentException" (by decide +kernel)⟩
          cases hz) (by decide) (by decide) (hts (.classLink RL 76 "java/lang/IllegalStateException") (by decide +kernel)) (va_Nw.use rfl (hE.ca "java/lang/IllegalStateException" "java/lang/IllegalStateException" (by decide +kernel))) hce hcv hcl ?_
      refine lv_astore (lv' := [(6, .ref q9), (0, .ref (X 0)), (1, .int 12), (2, .int a1), (3, .int a2), (4, .int a3), (5, .int a4)]) hx hb dL_ask_24 hl (by decide) rfl (fun ls hl => ?_)
      refine lv_sipush (v := (-2003)) hx hb dL_ask_26 (by decide) ?_
      exact END (-2003) hT _ _ hP hD hS _ _ dL_ask_29
    · cases hEq
      rw [if_neg (show ¬ t_8.1 = 0 by rw [c_2]; decide)] at hT
      rw [if_neg (show ¬ t_8.1 = 3 by rw [c_2]; decide)] at hT
      have hP : va_P D vwCl (wW_k_L_ask_12 ty X hn kn on cu pu gw su oa ob an ch cg fb mh ml ih lb ic nn kp se) H := hP
      have hD : va_D A (wW_k_L_ask_12 ty X hn kn on cu pu gw su oa ob an ch cg fb mh ml ih lb ic nn kp se) := hD
      refine vx_widen (k := 2) (n := 12) (Nat.le_of_ble_eq_true rfl) (Nat.le_of_ble_eq_true rfl) ?_
      refine vx_catch (own := RL) (name := "java/util/NoSuchElementException") (E := "java/util/NoSuchElementException") hown [⟨0, 11, 12, 72⟩, ⟨0, 11, 18, 74⟩, ⟨0, 11, 24, 76⟩, ⟨0, 11, 30, 78⟩] ⟨0, 11, 36, 130⟩ [] (by rw [hTab]; rfl) (by
          intro z hz
          rcases List.mem_cons.mp hz with rfl | hz
          · exact Or.inr ⟨by decide, "java/lang/IndexOutOfBoundsException", (hts (.classLink RL 72 "java/lang/IndexOutOfBoundsException") (by decide +kernel)), hE.nc "java/util/NoSuchElementException" "java/lang/IndexOutOfBoundsException" (by decide +kernel)⟩
          rcases List.mem_cons.mp hz with rfl | hz
          · exact Or.inr ⟨by decide, "java/lang/IllegalArgumentException", (hts (.classLink RL 74 "java/lang/IllegalArgumentException") (by decide +kernel)), hE.nc "java/util/NoSuchElementException" "java/lang/IllegalArgumentException" (by decide +kernel)⟩
          rcases List.mem_cons.mp hz with rfl | hz
          · exact Or.inr ⟨by decide, "java/lang/IllegalStateException", (hts (.classLink RL 76 "java/lang/IllegalStateException") (by decide +kernel)), hE.nc "java/util/NoSuchElementException" "java/lang/IllegalStateException" (by decide +kernel)⟩
          rcases List.mem_cons.mp hz with rfl | hz
          · exact Or.inr ⟨by decide, "java/lang/UnsupportedOperationException", (hts (.classLink RL 78 "java/lang/UnsupportedOperationException") (by decide +kernel)), hE.nc "java/util/NoSuchElementException" "java/lang/UnsupportedOperationException" (by decide +kernel)⟩
          cases hz) (by decide) (by decide) (hts (.classLink RL 130 "java/util/NoSuchElementException") (by decide +kernel)) (va_Nw.use rfl (hE.ca "java/util/NoSuchElementException" "java/util/NoSuchElementException" (by decide +kernel))) hce hcv hcl ?_
      refine lv_astore (lv' := [(6, .ref q9), (0, .ref (X 0)), (1, .int 12), (2, .int a1), (3, .int a2), (4, .int a3), (5, .int a4)]) hx hb dL_ask_36 hl (by decide) rfl (fun ls hl => ?_)
      refine lv_sipush (v := (-2005)) hx hb dL_ask_38 (by decide) ?_
      exact END (-2005) hT _ _ hP hD hS _ _ dL_ask_41
  · obtain ⟨c_3, rfl, rfl⟩ := hw
    rw [if_pos c_3] at hT
    have hP : va_P D vwCl (wW_k_L_ask_12 ty X hn kn on cu pu gw su oa ob an ch cg fb mh ml ih lb ic nn kp se) H := hP
    have hD : va_D A (wW_k_L_ask_12 ty X hn kn on cu pu gw su oa ob an ch cg fb mh ml ih lb ic nn kp se) := hD
    refine W.widen (k := 2) (n := 12) (Nat.le_of_ble_eq_true rfl) (Nat.le_of_ble_eq_true rfl) ?_
    exact END t_8.2 hT _ _ hP hD hS _ _ dL_ask_11
def wW_k_L_plain_4 (ty : Nat → ClassId) (X : Nat → Nat) (y0 : Nat) (y1 : Nat) (y2 : Nat) (z9_0 : Int32) (z9_1 : Int32) (z9_2 : Int32) (z9_3 : Int32) (z9_4 : Nat → Int32) (z9_5 : Nat → Option Nat) (z9_6 : Int32) (z9_7 : Int32) (z9_8 : Int32) (z9_9 : Int32) (z9_10 : Int32) (z9_11 : Int32) (z9_12 : Int32) (z9_13 : Int32) (z9_14 : Int32) (z9_15 : Int32) (z9_16 : Int32) (z9_17 : Int32) (z9_18 : Int32) (z9_19 : Int32) (z9_20 : Int32) (z9_21 : Int32) (z9_22 : Int32) (z9_23 : Int32) (z9_24 : Int32) (z9_25 : Int32) (z9_26 : Int32) (z9_27 : Int32) (z9_28 : Int32) (z9_29 : Int32) (z9_30 : Int32) (z9_31 : Int32) (z9_32 : Nat → Option Nat) : va_W := [((X 0), .inr (12, [.ref (X 1), .ref (X 8), .ref (X 20), .ref (X 39), .ref (X 41), .ref (X 43), .ref (X 45)])), ((X 1), .inr (8, [.ref (X 2), .int z9_0, .ref (X 3), .int z9_1, .ref (X 4), .ref (X 5), .int z9_2, .ref (X 6), .ref (X 7), .int z9_3])), ((X 2), .inl (ty 0, 6, .inl z9_4)), ((X 3), .inl (ty 4, 20, .inr (.inr (.inr (.inr z9_5))))), ((X 8), .inr (5, [.ref (X 1), .ref (X 9), .ref (X 10), .ref (X 12), .ref (X 14), .int z9_6, .ref (X 15), .ref (X 16), .ref (X 17), .int z9_7, .ref (X 18), .ref (X 19), .int z9_8, .int z9_9, .int z9_10, .int z9_11])), ((X 20), .inr (11, [.ref (X 1), .ref (X 8), .ref (X 21), .ref (X 28), .ref (X 35), .int z9_12, .ref (X 36), .ref (X 37), .ref (X 38), .int z9_13, .int z9_14, .int z9_15, .int z9_16, .int z9_17, .int z9_18, .int z9_19, .int z9_20])), ((X 45), .inr (2, [.ref (X 46), .ref (X 47), .int z9_21, .int z9_22])), (y0, .inr (10, [.int z9_23, .int z9_24, .int z9_25, .int z9_26, .int z9_27, .int z9_28, .int z9_29, .ref y1, .int z9_30, .ref y2, .int z9_31])), (y1, .inl (ty 5, 2, .inr (.inr (.inr (.inr z9_32)))))]
def vs_k_L_plain_4 : List Cond := .code yL_plain cL_plain 7 (some .int) :: ([.methodLink RL 32 yX10_addHead, .instanceMethod yX10_addHead, .selects RX10 yX10_addHead yX10_addHead, .initialized RX10] ++ (vs_k_X10_addHead))
set_option maxRecDepth 20000 in
theorem gv_k_L_plain_4_0 : GoodIn vs_k_L_plain_4 (wsV RL 32 RX10 yX10_addHead vs_k_X10_addHead) := goodIn_app (goodIn_sub (by decide +kernel) (by decide +kernel)) (goodIn_sub (fun _ h => List.mem_cons_of_mem _ (List.mem_append_right _ (h))) (by decide +kernel))
set_option maxHeartbeats 4000000 in
set_option maxRecDepth 100000 in
theorem k_L_plain_4 (l : Launch) (hl9 : l.stackTraces = false) (D : va_G) (ty : Nat → ClassId) (td mi sz : Nat) (X : Nat → Nat) (pn : Int32) (rn : Int32) (tn : Int32) (en : Int32) (pl : Nat → Int32) (rf : Nat → Option Nat) (hn : Int32) (kn : Int32) (on : Int32) (cu : Int32) (pu : Int32) (gw : Int32) (an : Int32) (ch : Int32) (cg : Int32) (fb : Int32) (mh : Int32) (ml : Int32) (ih : Int32) (lb : Int32) (ic : Int32) (nn : Int32) (kp : Int32) (y0 : Nat) (y_k : Int32) (y_p : Int32) (y_lo : Int32) (y_up : Int32) (y_sp : Int32) (y_we : Int32) (y_le : Int32) (y1 : Nat) (y_hc : Int32) (y2 : Nat) (y_cc : Int32) (yh : Nat → Option Nat) (a1 : Int32) (a2 : Int32) (a3 : Int32) (a4 : Int32) (a5 : Int32) (hal : ∀ o : Nat, m_k_X6_ruleAt_l rn rf a1 = some o → o = y0) (TT : r_k_L_plain_4) (hTT : TT = m_k_L_plain_4 pn rn pl rf cu ic kp y_k y_hc a1 a2 a3 a4) : vx_Met l yL_plain vs_k_L_plain_4 { frames := 7, cells := 1, slots := 8, locals := 108 } (va_Pc [.ref (X 0), .int 4, .int a1, .int a2, .int a3, .int a4, .int a5] (wq_P D ty td mi (wW_k_L_plain_4 ty X y0 y1 y2 pn rn tn en pl rf hn kn on cu pu gw an ch cg fb mh ml ih lb ic nn kp y_k y_p y_lo y_up y_sp y_we y_le y_hc y_cc yh) sz)) (va_Qi (fun (r : Int32) (u : va_W) => (∃ (q_107_1 : Nat), TT.1 = 0 ∧ TT.2.1 = 0 ∧ r = TT.2.2.1 ∧ (u = ((wW_k_L_plain_4 ty X y0 y1 y2 pn rn tn en pl rf hn kn on TT.2.2.2.2.2.2.2.2.2.2.2.2.2.1 pu gw an ch cg fb mh ml ih lb TT.2.2.2.2.2.2.2.2.2.2.2.1 nn TT.2.2.2.2.2.2.2.2.2.2.2.2.1 y_k y_p y_lo y_up y_sp y_we y_le TT.2.2.2.2.2.2.2.2.2.2.2.2.2.2 y_cc yh) ++ [(q_107_1, .inr (6, [.int TT.2.2.2.1, .int TT.2.2.2.2.1, .int TT.2.2.2.2.2.1, .int TT.2.2.2.2.2.2.1, .int TT.2.2.2.2.2.2.2.1, .int TT.2.2.2.2.2.2.2.2.1, .int TT.2.2.2.2.2.2.2.2.2.1, .int TT.2.2.2.2.2.2.2.2.2.2.1]))]))) ∨ (∃ (q_107_1 : Nat), TT.1 = 0 ∧ TT.2.1 = 1 ∧ r = TT.2.2.1 ∧ (u = ((wW_k_L_plain_4 ty X y0 y1 y2 pn rn tn en pl rf hn kn on TT.2.2.2.2.2.2.2.2.2.2.2.2.2.1 pu gw an ch cg fb mh ml ih lb TT.2.2.2.2.2.2.2.2.2.2.2.1 nn TT.2.2.2.2.2.2.2.2.2.2.2.2.1 y_k y_p y_lo y_up y_sp y_we y_le TT.2.2.2.2.2.2.2.2.2.2.2.2.2.2 y_cc (va_up yh y_hc.toNatClampNeg (some q_107_1))) ++ [(q_107_1, .inr (6, [.int TT.2.2.2.1, .int TT.2.2.2.2.1, .int TT.2.2.2.2.2.1, .int TT.2.2.2.2.2.2.1, .int TT.2.2.2.2.2.2.2.1, .int TT.2.2.2.2.2.2.2.2.1, .int TT.2.2.2.2.2.2.2.2.2.1, .int TT.2.2.2.2.2.2.2.2.2.2.1]))])))) (wq_B D (va_A (wW_k_L_plain_4 ty X y0 y1 y2 pn rn tn en pl rf hn kn on cu pu gw an ch cg fb mh ml ih lb ic nn kp y_k y_p y_lo y_up y_sp y_we y_le y_hc y_cc yh) sz)) (va_A (wW_k_L_plain_4 ty X y0 y1 y2 pn rn tn en pl rf hn kn on cu pu gw an ch cg fb mh ml ih lb ic nn kp y_k y_p y_lo y_up y_sp y_we y_le y_hc y_cc yh) sz)) (vx_X (fun u : String × va_W => (TT.1 = 1 ∧ u = ("java/lang/IndexOutOfBoundsException", (wW_k_L_plain_4 ty X y0 y1 y2 pn rn tn en pl rf hn kn on TT.2.2.2.2.2.2.2.2.2.2.2.2.2.1 pu gw an ch cg fb mh ml ih lb TT.2.2.2.2.2.2.2.2.2.2.2.1 nn TT.2.2.2.2.2.2.2.2.2.2.2.2.1 y_k y_p y_lo y_up y_sp y_we y_le TT.2.2.2.2.2.2.2.2.2.2.2.2.2.2 y_cc yh))) ∨ (TT.1 = 2 ∧ u = ("java/lang/IllegalArgumentException", (wW_k_L_plain_4 ty X y0 y1 y2 pn rn tn en pl rf hn kn on TT.2.2.2.2.2.2.2.2.2.2.2.2.2.1 pu gw an ch cg fb mh ml ih lb TT.2.2.2.2.2.2.2.2.2.2.2.1 nn TT.2.2.2.2.2.2.2.2.2.2.2.2.1 y_k y_p y_lo y_up y_sp y_we y_le TT.2.2.2.2.2.2.2.2.2.2.2.2.2.2 y_cc yh))) ∨ (TT.1 = 3 ∧ u = ("java/lang/IllegalStateException", (wW_k_L_plain_4 ty X y0 y1 y2 pn rn tn en pl rf hn kn on TT.2.2.2.2.2.2.2.2.2.2.2.2.2.1 pu gw an ch cg fb mh ml ih lb TT.2.2.2.2.2.2.2.2.2.2.2.1 nn TT.2.2.2.2.2.2.2.2.2.2.2.2.1 y_k y_p y_lo y_up y_sp y_we y_le TT.2.2.2.2.2.2.2.2.2.2.2.2.2.2 y_cc yh)))) (wq_BX D (va_A (wW_k_L_plain_4 ty X y0 y1 y2 pn rn tn en pl rf hn kn on cu pu gw an ch cg fb mh ml ih lb ic nn kp y_k y_p y_lo y_up y_sp y_we y_le y_hc y_cc yh) sz)) (va_A (wW_k_L_plain_4 ty X y0 y1 y2 pn rn tn en pl rf hn kn on cu pu gw an ch cg fb mh ml ih lb ic nn kp y_k y_p y_lo y_up y_sp y_we y_le y_hc y_cc yh) sz)) 1 8 (va_A (wW_k_L_plain_4 ty X y0 y1 y2 pn rn tn en pl rf hn kn on cu pu gw an ch cg fb mh ml ih lb ic nn kp y_k y_p y_lo y_up y_sp y_we y_le y_hc y_cc yh) sz) := by
  refine vx_ofW (cc := cL_plain) (maxL := 7) (ret := (some .int)) (by decide) rfl ?_
  intro p e s m args below meth c s₁ B hml hEx hv
  obtain ⟨rfl, hsz, hP, hK, hD0, hE⟩ := hv
  have hx := B.exec
  have hb := B.bytes
  have hr := B.returns
  have hts := atoms_spec (ws := vs_k_L_plain_4) B.pre
  have hown : s.vm.findClass RL = some m.cls := findClass_of_methodNamed B.named
  have hlocks := B.notSynchronized
  subst hsz
  have hD := hD0.self (sz := s.heap.size)
  generalize hAe : va_A (wW_k_L_plain_4 ty X y0 y1 y2 pn rn tn en pl rf hn kn on cu pu gw an ch cg fb mh ml ih lb ic nn kp y_k y_p y_lo y_up y_sp y_we y_le y_hc y_cc yh) s.heap.size = A at hD hE ⊢
  have hA : ∀ q : Nat, s.heap.size ≤ q → A q := fun q h => by rw [← hAe]; exact Or.inr h
  have hS : va_S A s.heap s.heap [] := va_S.rf
  have hP : va_P D vwCl (wW_k_L_plain_4 ty X y0 y1 y2 pn rn tn en pl rf hn kn on cu pu gw an ch cg fb mh ml ih lb ic nn kp y_k y_p y_lo y_up y_sp y_we y_le y_hc y_cc yh) s.heap := hP
  have hl := lv_entry ([.ref (X 0), .int 4, .int a1, .int a2, .int a3, .int a4, .int a5]) (n := 7) (Nat.le_of_ble_eq_true rfl)
  rw [lg_entry_eq]
  generalize (lg_sl ([.ref (X 0), .int 4, .int a1, .int a2, .int a3, .int a4, .int a5]) ++ List.replicate (7 - (lg_sl ([.ref (X 0), .int 4, .int a1, .int a2, .int a3, .int a4, .int a5])).length) Slot.unset).toArray = ls at hl ⊢
  have hl : lv_has ls 7 [(0, .ref (X 0)), (1, .int 4), (2, .int a1), (3, .int a2), (4, .int a3), (5, .int a4), (6, .int a5)] := hl
  have END_0 : ∀ (q_107_1 : Nat) (r : Int32) (w9_0 : Int32) (w9_1 : Int32) (w9_2 : Int32) (w9_3 : Int32) (w9_4 : Int32) (w9_5 : Int32) (w9_6 : Int32) (w9_7 : Int32) (w9_8 : Int32) (w9_9 : Int32) (w9_10 : Int32) (w9_11 : Int32), TT = (0, 0, r, w9_0, w9_1, w9_2, w9_3, w9_4, w9_5, w9_6, w9_7, w9_8, w9_9, w9_10, w9_11) → ∀ (H : Heap) (locs : List Loc), va_P D vwCl ((wW_k_L_plain_4 ty X y0 y1 y2 pn rn tn en pl rf hn kn on w9_10 pu gw an ch cg fb mh ml ih lb w9_8 nn w9_9 y_k y_p y_lo y_up y_sp y_we y_le w9_11 y_cc yh) ++ [(q_107_1, .inr (6, [.int w9_0, .int w9_1, .int w9_2, .int w9_3, .int w9_4, .int w9_5, .int w9_6, .int w9_7]))]) H → va_D A ((wW_k_L_plain_4 ty X y0 y1 y2 pn rn tn en pl rf hn kn on w9_10 pu gw an ch cg fb mh ml ih lb w9_8 nn w9_9 y_k y_p y_lo y_up y_sp y_we y_le w9_11 y_cc yh) ++ [(q_107_1, .inr (6, [.int w9_0, .int w9_1, .int w9_2, .int w9_3, .int w9_4, .int w9_5, .int w9_6, .int w9_7]))]) → va_S A s.heap H locs → ∀ (ls : Array Slot) (pc : Nat), decode cL_plain pc = .ok (.ireturn, 1) → W p l e (headSpec vs_k_L_plain_4 { frames := 7, cells := 1, slots := 8, locals := 108 }).room s m ([.ref (X 0), .int 4, .int a1, .int a2, .int a3, .int a4, .int a5] : List Value).toArray below meth c H locs 1 8 (vx_MQ below (va_Qi (fun (r : Int32) (u : va_W) => (∃ (q_107_1 : Nat), TT.1 = 0 ∧ TT.2.1 = 0 ∧ r = TT.2.2.1 ∧ (u = ((wW_k_L_plain_4 ty X y0 y1 y2 pn rn tn en pl rf hn kn on TT.2.2.2.2.2.2.2.2.2.2.2.2.2.1 pu gw an ch cg fb mh ml ih lb TT.2.2.2.2.2.2.2.2.2.2.2.1 nn TT.2.2.2.2.2.2.2.2.2.2.2.2.1 y_k y_p y_lo y_up y_sp y_we y_le TT.2.2.2.2.2.2.2.2.2.2.2.2.2.2 y_cc yh) ++ [(q_107_1, .inr (6, [.int TT.2.2.2.1, .int TT.2.2.2.2.1, .int TT.2.2.2.2.2.1, .int TT.2.2.2.2.2.2.1, .int TT.2.2.2.2.2.2.2.1, .int TT.2.2.2.2.2.2.2.2.1, .int TT.2.2.2.2.2.2.2.2.2.1, .int TT.2.2.2.2.2.2.2.2.2.2.1]))]))) ∨ (∃ (q_107_1 : Nat), TT.1 = 0 ∧ TT.2.1 = 1 ∧ r = TT.2.2.1 ∧ (u = ((wW_k_L_plain_4 ty X y0 y1 y2 pn rn tn en pl rf hn kn on TT.2.2.2.2.2.2.2.2.2.2.2.2.2.1 pu gw an ch cg fb mh ml ih lb TT.2.2.2.2.2.2.2.2.2.2.2.1 nn TT.2.2.2.2.2.2.2.2.2.2.2.2.1 y_k y_p y_lo y_up y_sp y_we y_le TT.2.2.2.2.2.2.2.2.2.2.2.2.2.2 y_cc (va_up yh y_hc.toNatClampNeg (some q_107_1))) ++ [(q_107_1, .inr (6, [.int TT.2.2.2.1, .int TT.2.2.2.2.1, .int TT.2.2.2.2.2.1, .int TT.2.2.2.2.2.2.1, .int TT.2.2.2.2.2.2.2.1, .int TT.2.2.2.2.2.2.2.2.1, .int TT.2.2.2.2.2.2.2.2.2.1, .int TT.2.2.2.2.2.2.2.2.2.2.1]))])))) (wq_B D A) A) (vx_X (fun u : String × va_W => (TT.1 = 1 ∧ u = ("java/lang/IndexOutOfBoundsException", (wW_k_L_plain_4 ty X y0 y1 y2 pn rn tn en pl rf hn kn on TT.2.2.2.2.2.2.2.2.2.2.2.2.2.1 pu gw an ch cg fb mh ml ih lb TT.2.2.2.2.2.2.2.2.2.2.2.1 nn TT.2.2.2.2.2.2.2.2.2.2.2.2.1 y_k y_p y_lo y_up y_sp y_we y_le TT.2.2.2.2.2.2.2.2.2.2.2.2.2.2 y_cc yh))) ∨ (TT.1 = 2 ∧ u = ("java/lang/IllegalArgumentException", (wW_k_L_plain_4 ty X y0 y1 y2 pn rn tn en pl rf hn kn on TT.2.2.2.2.2.2.2.2.2.2.2.2.2.1 pu gw an ch cg fb mh ml ih lb TT.2.2.2.2.2.2.2.2.2.2.2.1 nn TT.2.2.2.2.2.2.2.2.2.2.2.2.1 y_k y_p y_lo y_up y_sp y_we y_le TT.2.2.2.2.2.2.2.2.2.2.2.2.2.2 y_cc yh))) ∨ (TT.1 = 3 ∧ u = ("java/lang/IllegalStateException", (wW_k_L_plain_4 ty X y0 y1 y2 pn rn tn en pl rf hn kn on TT.2.2.2.2.2.2.2.2.2.2.2.2.2.1 pu gw an ch cg fb mh ml ih lb TT.2.2.2.2.2.2.2.2.2.2.2.1 nn TT.2.2.2.2.2.2.2.2.2.2.2.2.1 y_k y_p y_lo y_up y_sp y_we y_le TT.2.2.2.2.2.2.2.2.2.2.2.2.2.2 y_cc yh)))) (wq_BX D A) A) ([.ref (X 0), .int 4, .int a1, .int a2, .int a3, .int a4, .int a5] : List Value).toArray s 1 8 A) (F0 m pc ls [.int r]) := by
    intro q_107_1 r w9_0 w9_1 w9_2 w9_3 w9_4 w9_5 w9_6 w9_7 w9_8 w9_9 w9_10 w9_11 hT H locs hP hD hS ls pc hd
    have hM : TT = (0, 0, r, w9_0, w9_1, w9_2, w9_3, w9_4, w9_5, w9_6, w9_7, w9_8, w9_9, w9_10, w9_11) := hT
    refine vx_ret ?_
    exact W.iret (v := r) hx hb hr (fun t ht hW => ⟨⟨r, ((wW_k_L_plain_4 ty X y0 y1 y2 pn rn tn en pl rf hn kn on w9_10 pu gw an ch cg fb mh ml ih lb w9_8 nn w9_9 y_k y_p y_lo y_up y_sp y_we y_le w9_11 y_cc yh) ++ [(q_107_1, .inr (6, [.int w9_0, .int w9_1, .int w9_2, .int w9_3, .int w9_4, .int w9_5, .int w9_6, .int w9_7]))]), rfl, (Or.inl ⟨q_107_1, (by rw [hM]), (by rw [hM]), (by rw [hM]), (by rw [hM])⟩), wq_B.of ht hP hD⟩, hS.F ht⟩) hS.2.2 hd
  have END_1 : ∀ (q_107_1 : Nat) (r : Int32) (w9_0 : Int32) (w9_1 : Int32) (w9_2 : Int32) (w9_3 : Int32) (w9_4 : Int32) (w9_5 : Int32) (w9_6 : Int32) (w9_7 : Int32) (w9_8 : Int32) (w9_9 : Int32) (w9_10 : Int32) (w9_11 : Int32), TT = (0, 1, r, w9_0, w9_1, w9_2, w9_3, w9_4, w9_5, w9_6, w9_7, w9_8, w9_9, w9_10, w9_11) → ∀ (H : Heap) (locs : List Loc), va_P D vwCl ((wW_k_L_plain_4 ty X y0 y1 y2 pn rn tn en pl rf hn kn on w9_10 pu gw an ch cg fb mh ml ih lb w9_8 nn w9_9 y_k y_p y_lo y_up y_sp y_we y_le w9_11 y_cc (va_up yh y_hc.toNatClampNeg (some q_107_1))) ++ [(q_107_1, .inr (6, [.int w9_0, .int w9_1, .int w9_2, .int w9_3, .int w9_4, .int w9_5, .int w9_6, .int w9_7]))]) H → va_D A ((wW_k_L_plain_4 ty X y0 y1 y2 pn rn tn en pl rf hn kn on w9_10 pu gw an ch cg fb mh ml ih lb w9_8 nn w9_9 y_k y_p y_lo y_up y_sp y_we y_le w9_11 y_cc (va_up yh y_hc.toNatClampNeg (some q_107_1))) ++ [(q_107_1, .inr (6, [.int w9_0, .int w9_1, .int w9_2, .int w9_3, .int w9_4, .int w9_5, .int w9_6, .int w9_7]))]) → va_S A s.heap H locs → ∀ (ls : Array Slot) (pc : Nat), decode cL_plain pc = .ok (.ireturn, 1) → W p l e (headSpec vs_k_L_plain_4 { frames := 7, cells := 1, slots := 8, locals := 108 }).room s m ([.ref (X 0), .int 4, .int a1, .int a2, .int a3, .int a4, .int a5] : List Value).toArray below meth c H locs 1 8 (vx_MQ below (va_Qi (fun (r : Int32) (u : va_W) => (∃ (q_107_1 : Nat), TT.1 = 0 ∧ TT.2.1 = 0 ∧ r = TT.2.2.1 ∧ (u = ((wW_k_L_plain_4 ty X y0 y1 y2 pn rn tn en pl rf hn kn on TT.2.2.2.2.2.2.2.2.2.2.2.2.2.1 pu gw an ch cg fb mh ml ih lb TT.2.2.2.2.2.2.2.2.2.2.2.1 nn TT.2.2.2.2.2.2.2.2.2.2.2.2.1 y_k y_p y_lo y_up y_sp y_we y_le TT.2.2.2.2.2.2.2.2.2.2.2.2.2.2 y_cc yh) ++ [(q_107_1, .inr (6, [.int TT.2.2.2.1, .int TT.2.2.2.2.1, .int TT.2.2.2.2.2.1, .int TT.2.2.2.2.2.2.1, .int TT.2.2.2.2.2.2.2.1, .int TT.2.2.2.2.2.2.2.2.1, .int TT.2.2.2.2.2.2.2.2.2.1, .int TT.2.2.2.2.2.2.2.2.2.2.1]))]))) ∨ (∃ (q_107_1 : Nat), TT.1 = 0 ∧ TT.2.1 = 1 ∧ r = TT.2.2.1 ∧ (u = ((wW_k_L_plain_4 ty X y0 y1 y2 pn rn tn en pl rf hn kn on TT.2.2.2.2.2.2.2.2.2.2.2.2.2.1 pu gw an ch cg fb mh ml ih lb TT.2.2.2.2.2.2.2.2.2.2.2.1 nn TT.2.2.2.2.2.2.2.2.2.2.2.2.1 y_k y_p y_lo y_up y_sp y_we y_le TT.2.2.2.2.2.2.2.2.2.2.2.2.2.2 y_cc (va_up yh y_hc.toNatClampNeg (some q_107_1))) ++ [(q_107_1, .inr (6, [.int TT.2.2.2.1, .int TT.2.2.2.2.1, .int TT.2.2.2.2.2.1, .int TT.2.2.2.2.2.2.1, .int TT.2.2.2.2.2.2.2.1, .int TT.2.2.2.2.2.2.2.2.1, .int TT.2.2.2.2.2.2.2.2.2.1, .int TT.2.2.2.2.2.2.2.2.2.2.1]))])))) (wq_B D A) A) (vx_X (fun u : String × va_W => (TT.1 = 1 ∧ u = ("java/lang/IndexOutOfBoundsException", (wW_k_L_plain_4 ty X y0 y1 y2 pn rn tn en pl rf hn kn on TT.2.2.2.2.2.2.2.2.2.2.2.2.2.1 pu gw an ch cg fb mh ml ih lb TT.2.2.2.2.2.2.2.2.2.2.2.1 nn TT.2.2.2.2.2.2.2.2.2.2.2.2.1 y_k y_p y_lo y_up y_sp y_we y_le TT.2.2.2.2.2.2.2.2.2.2.2.2.2.2 y_cc yh))) ∨ (TT.1 = 2 ∧ u = ("java/lang/IllegalArgumentException", (wW_k_L_plain_4 ty X y0 y1 y2 pn rn tn en pl rf hn kn on TT.2.2.2.2.2.2.2.2.2.2.2.2.2.1 pu gw an ch cg fb mh ml ih lb TT.2.2.2.2.2.2.2.2.2.2.2.1 nn TT.2.2.2.2.2.2.2.2.2.2.2.2.1 y_k y_p y_lo y_up y_sp y_we y_le TT.2.2.2.2.2.2.2.2.2.2.2.2.2.2 y_cc yh))) ∨ (TT.1 = 3 ∧ u = ("java/lang/IllegalStateException", (wW_k_L_plain_4 ty X y0 y1 y2 pn rn tn en pl rf hn kn on TT.2.2.2.2.2.2.2.2.2.2.2.2.2.1 pu gw an ch cg fb mh ml ih lb TT.2.2.2.2.2.2.2.2.2.2.2.1 nn TT.2.2.2.2.2.2.2.2.2.2.2.2.1 y_k y_p y_lo y_up y_sp y_we y_le TT.2.2.2.2.2.2.2.2.2.2.2.2.2.2 y_cc yh)))) (wq_BX D A) A) ([.ref (X 0), .int 4, .int a1, .int a2, .int a3, .int a4, .int a5] : List Value).toArray s 1 8 A) (F0 m pc ls [.int r]) := by
    intro q_107_1 r w9_0 w9_1 w9_2 w9_3 w9_4 w9_5 w9_6 w9_7 w9_8 w9_9 w9_10 w9_11 hT H locs hP hD hS ls pc hd
    have hM : TT = (0, 1, r, w9_0, w9_1, w9_2, w9_3, w9_4, w9_5, w9_6, w9_7, w9_8, w9_9, w9_10, w9_11) := hT
    refine vx_ret ?_
    exact W.iret (v := r) hx hb hr (fun t ht hW => ⟨⟨r, ((wW_k_L_plain_4 ty X y0 y1 y2 pn rn tn en pl rf hn kn on w9_10 pu gw an ch cg fb mh ml ih lb w9_8 nn w9_9 y_k y_p y_lo y_up y_sp y_we y_le w9_11 y_cc (va_up yh y_hc.toNatClampNeg (some q_107_1))) ++ [(q_107_1, .inr (6, [.int w9_0, .int w9_1, .int w9_2, .int w9_3, .int w9_4, .int w9_5, .int w9_6, .int w9_7]))]), rfl, (Or.inr ⟨q_107_1, (by rw [hM]), (by rw [hM]), (by rw [hM]), (by rw [hM])⟩), wq_B.of ht hP hD⟩, hS.F ht⟩) hS.2.2 hd
  have hT := hTT
  rw [m_k_L_plain_4] at hT
  refine lv_iload_n hx hb dL_plain_0 rfl (lv_at hl 1 rfl) ?_
  refine lv_tableIn (off := 99) (tgt := 100) hx hb dL_plain_1 (by decide) (by decide) rfl (by decide) ?_
  refine lv_aload_n hx hb dL_plain_100 rfl (lv_at hl 0 rfl) ?_
  refine lv_iload_n hx hb dL_plain_101 rfl (lv_at hl 2 rfl) ?_
  refine lv_iload_n hx hb dL_plain_102 rfl (lv_at hl 3 rfl) ?_
  refine lv_iload hx hb dL_plain_103 (lv_at hl 4 rfl) ?_
  refine lv_iload hx hb dL_plain_105 (lv_at hl 5 rfl) ?_
  obtain ⟨t_107, ht_107⟩ : ∃ t, t = m_k_X10_addHead pn rn pl rf cu ic kp y_k y_hc a1 a2 a3 a4 := ⟨_, rfl⟩
  rw [lE_eq ht_107] at hT
  refine wq_xiW (wc := (wW_k_X10_addHead ty X y0 y1 y2 pn rn tn en pl rf hn kn on cu pu gw an ch cg fb mh ml ih lb ic nn kp y_k y_p y_lo y_up y_sp y_we y_le y_hc y_cc yh)) (vx_runV (As := [.int a1, .int a2, .int a3, .int a4]) (rest := []) ⟨hx, hb, hml, hown, hts⟩ (k_X10_addHead l hl9 D ty td mi s.heap.size X pn rn tn en pl rf hn kn on cu pu gw an ch cg fb mh ml ih lb ic nn kp y0 y_k y_p y_lo y_up y_sp y_we y_le y1 y_hc y2 y_cc yh a1 a2 a3 a4 hal t_107 ht_107) (cwV 4 hts gv_k_L_plain_4_0 rfl rfl rfl (by decide +kernel) ⟨(Nat.le_of_ble_eq_true rfl), (Nat.le_of_ble_eq_true rfl)⟩) (wm_V (wm_preS hP hD hK hE hS hA [true, true, true, true, true, true, true, true, true] rfl) (va_recv (q0 := 0) (ci := 12) hK hP rfl rfl)) rfl rfl hl.1 rfl (lv_room (Nat.le_of_ble_eq_true rfl)) dL_plain_107 ⟨(Nat.le_of_ble_eq_true rfl), (Nat.le_of_ble_eq_true rfl)⟩) hS hA hP hD [true, true, true, true, true, true, true, true, true] rfl (fun _ _ h => by rcases h with ⟨_, -, -, -, rfl⟩ | ⟨_, -, -, -, rfl⟩ <;> rfl) (fun _ _ h => by rcases h with ⟨-, h⟩ | ⟨-, h⟩ | ⟨-, h⟩ <;> (cases h; rfl)) (fun E9 u H locs q9 ce hw hP hD hS hce hcv hcl => ?_) (fun r u H locs hw hP hD hS => ?_)
  · rcases hw with ⟨c_1, hEq⟩ | ⟨c_2, hEq⟩ | ⟨c_3, hEq⟩
    · cases hEq
      rw [if_neg (show ¬ t_107.1 = 0 by rw [c_1]; decide)] at hT
      rw [if_pos c_1] at hT
      have hP : va_P D vwCl (wW_k_L_plain_4 ty X y0 y1 y2 pn rn tn en pl rf hn kn on t_107.2.2.2.2.2.2.2.2.2.2.2.2.2.1 pu gw an ch cg fb mh ml ih lb t_107.2.2.2.2.2.2.2.2.2.2.2.1 nn t_107.2.2.2.2.2.2.2.2.2.2.2.2.1 y_k y_p y_lo y_up y_sp y_we y_le t_107.2.2.2.2.2.2.2.2.2.2.2.2.2.2 y_cc yh) H := hP
      have hD : va_D A (wW_k_L_plain_4 ty X y0 y1 y2 pn rn tn en pl rf hn kn on t_107.2.2.2.2.2.2.2.2.2.2.2.2.2.1 pu gw an ch cg fb mh ml ih lb t_107.2.2.2.2.2.2.2.2.2.2.2.1 nn t_107.2.2.2.2.2.2.2.2.2.2.2.2.1 y_k y_p y_lo y_up y_sp y_we y_le t_107.2.2.2.2.2.2.2.2.2.2.2.2.2.2 y_cc yh) := hD
      refine vx_widen (k := 1) (n := 8) (Nat.le_of_ble_eq_true rfl) (Nat.le_of_ble_eq_true rfl) ?_
      exact vx_out (E := "java/lang/IndexOutOfBoundsException") (fun x hx => (hEx x hx).elim) hlocks hce hcv hcl (fun t ht ha => wq_thrW0 (W := (wW_k_L_plain_4 ty X y0 y1 y2 pn rn tn en pl rf hn kn on t_107.2.2.2.2.2.2.2.2.2.2.2.2.2.1 pu gw an ch cg fb mh ml ih lb t_107.2.2.2.2.2.2.2.2.2.2.2.1 nn t_107.2.2.2.2.2.2.2.2.2.2.2.2.1 y_k y_p y_lo y_up y_sp y_we y_le t_107.2.2.2.2.2.2.2.2.2.2.2.2.2.2 y_cc yh)) hS hP hD (by exact (Or.inl ⟨(by rw [hT]), (by first | rw [hT] | rfl)⟩)) ht) hS.2.2 (Nat.le_refl _) (Nat.le_refl _)
    · cases hEq
      rw [if_neg (show ¬ t_107.1 = 0 by rw [c_2]; decide)] at hT
      rw [if_neg (show ¬ t_107.1 = 1 by rw [c_2]; decide)] at hT
      rw [if_pos c_2] at hT
      have hP : va_P D vwCl (wW_k_L_plain_4 ty X y0 y1 y2 pn rn tn en pl rf hn kn on t_107.2.2.2.2.2.2.2.2.2.2.2.2.2.1 pu gw an ch cg fb mh ml ih lb t_107.2.2.2.2.2.2.2.2.2.2.2.1 nn t_107.2.2.2.2.2.2.2.2.2.2.2.2.1 y_k y_p y_lo y_up y_sp y_we y_le t_107.2.2.2.2.2.2.2.2.2.2.2.2.2.2 y_cc yh) H := hP
      have hD : va_D A (wW_k_L_plain_4 ty X y0 y1 y2 pn rn tn en pl rf hn kn on t_107.2.2.2.2.2.2.2.2.2.2.2.2.2.1 pu gw an ch cg fb mh ml ih lb t_107.2.2.2.2.2.2.2.2.2.2.2.1 nn t_107.2.2.2.2.2.2.2.2.2.2.2.2.1 y_k y_p y_lo y_up y_sp y_we y_le t_107.2.2.2.2.2.2.2.2.2.2.2.2.2.2 y_cc yh) := hD
      refine vx_widen (k := 1) (n := 8) (Nat.le_of_ble_eq_true rfl) (Nat.le_of_ble_eq_true rfl) ?_
      exact vx_out (E := "java/lang/IllegalArgumentException") (fun x hx => (hEx x hx).elim) hlocks hce hcv hcl (fun t ht ha => wq_thrW0 (W := (wW_k_L_plain_4 ty X y0 y1 y2 pn rn tn en pl rf hn kn on t_107.2.2.2.2.2.2.2.2.2.2.2.2.2.1 pu gw an ch cg fb mh ml ih lb t_107.2.2.2.2.2.2.2.2.2.2.2.1 nn t_107.2.2.2.2.2.2.2.2.2.2.2.2.1 y_k y_p y_lo y_up y_sp y_we y_le t_107.2.2.2.2.2.2.2.2.2.2.2.2.2.2 y_cc yh)) hS hP hD (by exact (Or.inr (Or.inl ⟨(by rw [hT]), (by first | rw [hT] | rfl)⟩))) ht) hS.2.2 (Nat.le_refl _) (Nat.le_refl _)
    · cases hEq
      rw [if_neg (show ¬ t_107.1 = 0 by rw [c_3]; decide)] at hT
      rw [if_neg (show ¬ t_107.1 = 1 by rw [c_3]; decide)] at hT
      rw [if_neg (show ¬ t_107.1 = 2 by rw [c_3]; decide)] at hT
      have hP : va_P D vwCl (wW_k_L_plain_4 ty X y0 y1 y2 pn rn tn en pl rf hn kn on t_107.2.2.2.2.2.2.2.2.2.2.2.2.2.1 pu gw an ch cg fb mh ml ih lb t_107.2.2.2.2.2.2.2.2.2.2.2.1 nn t_107.2.2.2.2.2.2.2.2.2.2.2.2.1 y_k y_p y_lo y_up y_sp y_we y_le t_107.2.2.2.2.2.2.2.2.2.2.2.2.2.2 y_cc yh) H := hP
      have hD : va_D A (wW_k_L_plain_4 ty X y0 y1 y2 pn rn tn en pl rf hn kn on t_107.2.2.2.2.2.2.2.2.2.2.2.2.2.1 pu gw an ch cg fb mh ml ih lb t_107.2.2.2.2.2.2.2.2.2.2.2.1 nn t_107.2.2.2.2.2.2.2.2.2.2.2.2.1 y_k y_p y_lo y_up y_sp y_we y_le t_107.2.2.2.2.2.2.2.2.2.2.2.2.2.2 y_cc yh) := hD
      refine vx_widen (k := 1) (n := 8) (Nat.le_of_ble_eq_true rfl) (Nat.le_of_ble_eq_true rfl) ?_
      exact vx_out (E := "java/lang/IllegalStateException") (fun x hx => (hEx x hx).elim) hlocks hce hcv hcl (fun t ht ha => wq_thrW0 (W := (wW_k_L_plain_4 ty X y0 y1 y2 pn rn tn en pl rf hn kn on t_107.2.2.2.2.2.2.2.2.2.2.2.2.2.1 pu gw an ch cg fb mh ml ih lb t_107.2.2.2.2.2.2.2.2.2.2.2.1 nn t_107.2.2.2.2.2.2.2.2.2.2.2.2.1 y_k y_p y_lo y_up y_sp y_we y_le t_107.2.2.2.2.2.2.2.2.2.2.2.2.2.2 y_cc yh)) hS hP hD (by exact (Or.inr (Or.inr ⟨(by rw [hT]), (by first | rw [hT] | rfl)⟩))) ht) hS.2.2 (Nat.le_refl _) (Nat.le_refl _)
  · rcases hw with ⟨q_107_1, c_4, c_5, rfl, rfl⟩ | ⟨q_107_1, c_6, c_7, rfl, rfl⟩
    · rw [if_pos c_4] at hT
      rw [if_pos c_5] at hT
      have hP : va_P D vwCl ((wW_k_L_plain_4 ty X y0 y1 y2 pn rn tn en pl rf hn kn on t_107.2.2.2.2.2.2.2.2.2.2.2.2.2.1 pu gw an ch cg fb mh ml ih lb t_107.2.2.2.2.2.2.2.2.2.2.2.1 nn t_107.2.2.2.2.2.2.2.2.2.2.2.2.1 y_k y_p y_lo y_up y_sp y_we y_le t_107.2.2.2.2.2.2.2.2.2.2.2.2.2.2 y_cc yh) ++ [(q_107_1, .inr (6, [.int t_107.2.2.2.1, .int t_107.2.2.2.2.1, .int t_107.2.2.2.2.2.1, .int t_107.2.2.2.2.2.2.1, .int t_107.2.2.2.2.2.2.2.1, .int t_107.2.2.2.2.2.2.2.2.1, .int t_107.2.2.2.2.2.2.2.2.2.1, .int t_107.2.2.2.2.2.2.2.2.2.2.1]))]) H := hP
      have hD : va_D A ((wW_k_L_plain_4 ty X y0 y1 y2 pn rn tn en pl rf hn kn on t_107.2.2.2.2.2.2.2.2.2.2.2.2.2.1 pu gw an ch cg fb mh ml ih lb t_107.2.2.2.2.2.2.2.2.2.2.2.1 nn t_107.2.2.2.2.2.2.2.2.2.2.2.2.1 y_k y_p y_lo y_up y_sp y_we y_le t_107.2.2.2.2.2.2.2.2.2.2.2.2.2.2 y_cc yh) ++ [(q_107_1, .inr (6, [.int t_107.2.2.2.1, .int t_107.2.2.2.2.1, .int t_107.2.2.2.2.2.1, .int t_107.2.2.2.2.2.2.1, .int t_107.2.2.2.2.2.2.2.1, .int t_107.2.2.2.2.2.2.2.2.1, .int t_107.2.2.2.2.2.2.2.2.2.1, .int t_107.2.2.2.2.2.2.2.2.2.2.1]))]) := hD
      refine W.widen (k := 1) (n := 8) (Nat.le_of_ble_eq_true rfl) (Nat.le_of_ble_eq_true rfl) ?_
      exact END_0 q_107_1 t_107.2.2.1 t_107.2.2.2.1 t_107.2.2.2.2.1 t_107.2.2.2.2.2.1 t_107.2.2.2.2.2.2.1 t_107.2.2.2.2.2.2.2.1 t_107.2.2.2.2.2.2.2.2.1 t_107.2.2.2.2.2.2.2.2.2.1 t_107.2.2.2.2.2.2.2.2.2.2.1 t_107.2.2.2.2.2.2.2.2.2.2.2.1 t_107.2.2.2.2.2.2.2.2.2.2.2.2.1 t_107.2.2.2.2.2.2.2.2.2.2.2.2.2.1 t_107.2.2.2.2.2.2.2.2.2.2.2.2.2.2 hT _ _ hP hD hS _ _ dL_plain_110
    · rw [if_pos c_6] at hT
      rw [if_neg (show ¬ t_107.2.1 = 0 by rw [c_7]; decide)] at hT
      have hP : va_P D vwCl ((wW_k_L_plain_4 ty X y0 y1 y2 pn rn tn en pl rf hn kn on t_107.2.2.2.2.2.2.2.2.2.2.2.2.2.1 pu gw an ch cg fb mh ml ih lb t_107.2.2.2.2.2.2.2.2.2.2.2.1 nn t_107.2.2.2.2.2.2.2.2.2.2.2.2.1 y_k y_p y_lo y_up y_sp y_we y_le t_107.2.2.2.2.2.2.2.2.2.2.2.2.2.2 y_cc (va_up yh y_hc.toNatClampNeg (some q_107_1))) ++ [(q_107_1, .inr (6, [.int t_107.2.2.2.1, .int t_107.2.2.2.2.1, .int t_107.2.2.2.2.2.1, .int t_107.2.2.2.2.2.2.1, .int t_107.2.2.2.2.2.2.2.1, .int t_107.2.2.2.2.2.2.2.2.1, .int t_107.2.2.2.2.2.2.2.2.2.1, .int t_107.2.2.2.2.2.2.2.2.2.2.1]))]) H := hP
      have hD : va_D A ((wW_k_L_plain_4 ty X y0 y1 y2 pn rn tn en pl rf hn kn on t_107.2.2.2.2.2.2.2.2.2.2.2.2.2.1 pu gw an ch cg fb mh ml ih lb t_107.2.2.2.2.2.2.2.2.2.2.2.1 nn t_107.2.2.2.2.2.2.2.2.2.2.2.2.1 y_k y_p y_lo y_up y_sp y_we y_le t_107.2.2.2.2.2.2.2.2.2.2.2.2.2.2 y_cc (va_up yh y_hc.toNatClampNeg (some q_107_1))) ++ [(q_107_1, .inr (6, [.int t_107.2.2.2.1, .int t_107.2.2.2.2.1, .int t_107.2.2.2.2.2.1, .int t_107.2.2.2.2.2.2.1, .int t_107.2.2.2.2.2.2.2.1, .int t_107.2.2.2.2.2.2.2.2.1, .int t_107.2.2.2.2.2.2.2.2.2.1, .int t_107.2.2.2.2.2.2.2.2.2.2.1]))]) := hD
      refine W.widen (k := 1) (n := 8) (Nat.le_of_ble_eq_true rfl) (Nat.le_of_ble_eq_true rfl) ?_
      exact END_1 q_107_1 t_107.2.2.1 t_107.2.2.2.1 t_107.2.2.2.2.1 t_107.2.2.2.2.2.1 t_107.2.2.2.2.2.2.1 t_107.2.2.2.2.2.2.2.1 t_107.2.2.2.2.2.2.2.2.1 t_107.2.2.2.2.2.2.2.2.2.1 t_107.2.2.2.2.2.2.2.2.2.2.1 t_107.2.2.2.2.2.2.2.2.2.2.2.1 t_107.2.2.2.2.2.2.2.2.2.2.2.2.1 t_107.2.2.2.2.2.2.2.2.2.2.2.2.2.1 t_107.2.2.2.2.2.2.2.2.2.2.2.2.2.2 hT _ _ hP hD hS _ _ dL_plain_110
def wW_k_L_deed_4 (ty : Nat → ClassId) (X : Nat → Nat) (y0 : Nat) (y1 : Nat) (y2 : Nat) (z9_0 : Int32) (z9_1 : Int32) (z9_2 : Int32) (z9_3 : Int32) (z9_4 : Nat → Int32) (z9_5 : Nat → Option Nat) (z9_6 : Int32) (z9_7 : Int32) (z9_8 : Int32) (z9_9 : Int32) (z9_10 : Int32) (z9_11 : Int32) (z9_12 : Int32) (z9_13 : Int32) (z9_14 : Int32) (z9_15 : Int32) (z9_16 : Int32) (z9_17 : Int32) (z9_18 : Int32) (z9_19 : Int32) (z9_20 : Int32) (z9_21 : Int32) (z9_22 : Int32) (z9_23 : Int32) (z9_24 : Int32) (z9_25 : Int32) (z9_26 : Int32) (z9_27 : Int32) (z9_28 : Int32) (z9_29 : Int32) (z9_30 : Int32) (z9_31 : Int32) (z9_32 : Nat → Option Nat) : va_W := [((X 0), .inr (12, [.ref (X 1), .ref (X 8), .ref (X 20), .ref (X 39), .ref (X 41), .ref (X 43), .ref (X 45)])), ((X 1), .inr (8, [.ref (X 2), .int z9_0, .ref (X 3), .int z9_1, .ref (X 4), .ref (X 5), .int z9_2, .ref (X 6), .ref (X 7), .int z9_3])), ((X 2), .inl (ty 0, 6, .inl z9_4)), ((X 3), .inl (ty 4, 20, .inr (.inr (.inr (.inr z9_5))))), ((X 8), .inr (5, [.ref (X 1), .ref (X 9), .ref (X 10), .ref (X 12), .ref (X 14), .int z9_6, .ref (X 15), .ref (X 16), .ref (X 17), .int z9_7, .ref (X 18), .ref (X 19), .int z9_8, .int z9_9, .int z9_10, .int z9_11])), ((X 20), .inr (11, [.ref (X 1), .ref (X 8), .ref (X 21), .ref (X 28), .ref (X 35), .int z9_12, .ref (X 36), .ref (X 37), .ref (X 38), .int z9_13, .int z9_14, .int z9_15, .int z9_16, .int z9_17, .int z9_18, .int z9_19, .int z9_20])), ((X 45), .inr (2, [.ref (X 46), .ref (X 47), .int z9_21, .int z9_22])), (y0, .inr (10, [.int z9_23, .int z9_24, .int z9_25, .int z9_26, .int z9_27, .int z9_28, .int z9_29, .ref y1, .int z9_30, .ref y2, .int z9_31])), (y1, .inl (ty 5, 2, .inr (.inr (.inr (.inr z9_32)))))]
def vs_k_L_deed_4 : List Cond := .codeWith yL_deed cL_deed 8 (some .int) [(0, 13, 14, 72), (0, 13, 20, 74), (0, 13, 26, 76), (0, 13, 32, 78)] :: ([.methodLink RL 68 yL_plain, .static yL_plain, .initialized RL, .classLink RL 72 "java/lang/IndexOutOfBoundsException", .classLink RL 74 "java/lang/IllegalArgumentException", .classLink RL 76 "java/lang/IllegalStateException"] ++ (vs_k_L_plain_4))
set_option maxRecDepth 20000 in
theorem gv_k_L_deed_4_0 : GoodIn vs_k_L_deed_4 (va_wsS RL 68 yL_plain vs_k_L_plain_4) := goodIn_app (goodIn_sub (by decide +kernel) (by decide +kernel)) (goodIn_sub (fun _ h => List.mem_cons_of_mem _ (List.mem_append_right _ (h))) (by decide +kernel))
set_option maxHeartbeats 4000000 in
set_option maxRecDepth 100000 in
theorem k_L_deed_4 (l : Launch) (hl9 : l.stackTraces = false) (D : va_G) (ty : Nat → ClassId) (td mi sz : Nat) (X : Nat → Nat) (pn : Int32) (rn : Int32) (tn : Int32) (en : Int32) (pl : Nat → Int32) (rf : Nat → Option Nat) (hn : Int32) (kn : Int32) (on : Int32) (cu : Int32) (pu : Int32) (gw : Int32) (an : Int32) (ch : Int32) (cg : Int32) (fb : Int32) (mh : Int32) (ml : Int32) (ih : Int32) (lb : Int32) (ic : Int32) (nn : Int32) (kp : Int32) (y0 : Nat) (y_k : Int32) (y_p : Int32) (y_lo : Int32) (y_up : Int32) (y_sp : Int32) (y_we : Int32) (y_le : Int32) (y1 : Nat) (y_hc : Int32) (y2 : Nat) (y_cc : Int32) (yh : Nat → Option Nat) (a1 : Int32) (a2 : Int32) (a3 : Int32) (a4 : Int32) (a5 : Int32) (hal : ∀ o : Nat, m_k_X6_ruleAt_l rn rf a1 = some o → o = y0) (TT : r_k_L_deed_4) (hTT : TT = m_k_L_deed_4 pn rn pl rf cu ic kp y_k y_hc a1 a2 a3 a4) : vx_Met l yL_deed vs_k_L_deed_4 { frames := 8, cells := 1, slots := 8, locals := 134 } (va_Pc [.ref (X 0), .int 4, .int a1, .int a2, .int a3, .int a4, .int a5] (wq_P D ty td mi (wW_k_L_deed_4 ty X y0 y1 y2 pn rn tn en pl rf hn kn on cu pu gw an ch cg fb mh ml ih lb ic nn kp y_k y_p y_lo y_up y_sp y_we y_le y_hc y_cc yh) sz)) (va_Qi (fun (r : Int32) (u : va_W) => (TT.1 = 0 ∧ r = TT.2.1 ∧ (u = (wW_k_L_deed_4 ty X y0 y1 y2 pn rn tn en pl rf hn kn on TT.2.2.2.2.2.2.2.2.2.2.2.2.1 pu gw an ch cg fb mh ml ih lb TT.2.2.2.2.2.2.2.2.2.2.1 nn TT.2.2.2.2.2.2.2.2.2.2.2.1 y_k y_p y_lo y_up y_sp y_we y_le TT.2.2.2.2.2.2.2.2.2.2.2.2.2 y_cc yh))) ∨ (∃ (q_10_1 : Nat), TT.1 = 1 ∧ r = TT.2.1 ∧ (u = ((wW_k_L_deed_4 ty X y0 y1 y2 pn rn tn en pl rf hn kn on TT.2.2.2.2.2.2.2.2.2.2.2.2.1 pu gw an ch cg fb mh ml ih lb TT.2.2.2.2.2.2.2.2.2.2.1 nn TT.2.2.2.2.2.2.2.2.2.2.2.1 y_k y_p y_lo y_up y_sp y_we y_le TT.2.2.2.2.2.2.2.2.2.2.2.2.2 y_cc yh) ++ [(q_10_1, .inr (6, [.int TT.2.2.1, .int TT.2.2.2.1, .int TT.2.2.2.2.1, .int TT.2.2.2.2.2.1, .int TT.2.2.2.2.2.2.1, .int TT.2.2.2.2.2.2.2.1, .int TT.2.2.2.2.2.2.2.2.1, .int TT.2.2.2.2.2.2.2.2.2.1]))]))) ∨ (∃ (q_10_1 : Nat), TT.1 = 2 ∧ r = TT.2.1 ∧ (u = ((wW_k_L_deed_4 ty X y0 y1 y2 pn rn tn en pl rf hn kn on TT.2.2.2.2.2.2.2.2.2.2.2.2.1 pu gw an ch cg fb mh ml ih lb TT.2.2.2.2.2.2.2.2.2.2.1 nn TT.2.2.2.2.2.2.2.2.2.2.2.1 y_k y_p y_lo y_up y_sp y_we y_le TT.2.2.2.2.2.2.2.2.2.2.2.2.2 y_cc (va_up yh y_hc.toNatClampNeg (some q_10_1))) ++ [(q_10_1, .inr (6, [.int TT.2.2.1, .int TT.2.2.2.1, .int TT.2.2.2.2.1, .int TT.2.2.2.2.2.1, .int TT.2.2.2.2.2.2.1, .int TT.2.2.2.2.2.2.2.1, .int TT.2.2.2.2.2.2.2.2.1, .int TT.2.2.2.2.2.2.2.2.2.1]))])))) (wq_B D (va_A (wW_k_L_deed_4 ty X y0 y1 y2 pn rn tn en pl rf hn kn on cu pu gw an ch cg fb mh ml ih lb ic nn kp y_k y_p y_lo y_up y_sp y_we y_le y_hc y_cc yh) sz)) (va_A (wW_k_L_deed_4 ty X y0 y1 y2 pn rn tn en pl rf hn kn on cu pu gw an ch cg fb mh ml ih lb ic nn kp y_k y_p y_lo y_up y_sp y_we y_le y_hc y_cc yh) sz)) (vx_X (fun u : String × va_W => False) (wq_BX D (va_A (wW_k_L_deed_4 ty X y0 y1 y2 pn rn tn en pl rf hn kn on cu pu gw an ch cg fb mh ml ih lb ic nn kp y_k y_p y_lo y_up y_sp y_we y_le y_hc y_cc yh) sz)) (va_A (wW_k_L_deed_4 ty X y0 y1 y2 pn rn tn en pl rf hn kn on cu pu gw an ch cg fb mh ml ih lb ic nn kp y_k y_p y_lo y_up y_sp y_we y_le y_hc y_cc yh) sz)) 1 8 (va_A (wW_k_L_deed_4 ty X y0 y1 y2 pn rn tn en pl rf hn kn on cu pu gw an ch cg fb mh ml ih lb ic nn kp y_k y_p y_lo y_up y_sp y_we y_le y_hc y_cc yh) sz) := by
  refine vx_ofWH (cc := cL_deed) (maxL := 8) (ret := (some .int)) (hh := [(0, 13, 14, 72), (0, 13, 20, 74), (0, 13, 26, 76), (0, 13, 32, 78)]) (by decide) rfl ?_
  intro p e s m args below meth c s₁ B hml hv
  obtain ⟨rfl, hsz, hP, hK, hD0, hE⟩ := hv
  have hx := B.exec
  have hb := B.bytes
  have hr := B.returns
  have hts := atoms_spec (ws := vs_k_L_deed_4) B.pre
  have hown : s.vm.findClass RL = some m.cls := findClass_of_methodNamed B.named
  have hlocks := B.notSynchronized
  have hTab := vx_table (x := yL_deed) B (hts _ List.mem_cons_self)
  subst hsz
  have hD := hD0.self (sz := s.heap.size)
  generalize hAe : va_A (wW_k_L_deed_4 ty X y0 y1 y2 pn rn tn en pl rf hn kn on cu pu gw an ch cg fb mh ml ih lb ic nn kp y_k y_p y_lo y_up y_sp y_we y_le y_hc y_cc yh) s.heap.size = A at hD hE ⊢
  have hA : ∀ q : Nat, s.heap.size ≤ q → A q := fun q h => by rw [← hAe]; exact Or.inr h
  have hS : va_S A s.heap s.heap [] := va_S.rf
  have hP : va_P D vwCl (wW_k_L_deed_4 ty X y0 y1 y2 pn rn tn en pl rf hn kn on cu pu gw an ch cg fb mh ml ih lb ic nn kp y_k y_p y_lo y_up y_sp y_we y_le y_hc y_cc yh) s.heap := hP
  have hl := lv_entry ([.ref (X 0), .int 4, .int a1, .int a2, .int a3, .int a4, .int a5]) (n := 8) (Nat.le_of_ble_eq_true rfl)
  rw [lg_entry_eq]
  generalize (lg_sl ([.ref (X 0), .int 4, .int a1, .int a2, .int a3, .int a4, .int a5]) ++ List.replicate (8 - (lg_sl ([.ref (X 0), .int 4, .int a1, .int a2, .int a3, .int a4, .int a5])).length) Slot.unset).toArray = ls at hl ⊢
  have hl : lv_has ls 8 [(0, .ref (X 0)), (1, .int 4), (2, .int a1), (3, .int a2), (4, .int a3), (5, .int a4), (6, .int a5)] := hl
  have END_0 : ∀ (r : Int32) (w9_0 : Int32) (w9_1 : Int32) (w9_2 : Int32) (w9_3 : Int32) (w9_4 : Int32) (w9_5 : Int32) (w9_6 : Int32) (w9_7 : Int32) (w9_8 : Int32) (w9_9 : Int32) (w9_10 : Int32) (w9_11 : Int32), TT = (0, r, w9_0, w9_1, w9_2, w9_3, w9_4, w9_5, w9_6, w9_7, w9_8, w9_9, w9_10, w9_11) → ∀ (H : Heap) (locs : List Loc), va_P D vwCl (wW_k_L_deed_4 ty X y0 y1 y2 pn rn tn en pl rf hn kn on w9_10 pu gw an ch cg fb mh ml ih lb w9_8 nn w9_9 y_k y_p y_lo y_up y_sp y_we y_le w9_11 y_cc yh) H → va_D A (wW_k_L_deed_4 ty X y0 y1 y2 pn rn tn en pl rf hn kn on w9_10 pu gw an ch cg fb mh ml ih lb w9_8 nn w9_9 y_k y_p y_lo y_up y_sp y_we y_le w9_11 y_cc yh) → va_S A s.heap H locs → ∀ (ls : Array Slot) (pc : Nat), decode cL_deed pc = .ok (.ireturn, 1) → W p l e (headSpec vs_k_L_deed_4 { frames := 8, cells := 1, slots := 8, locals := 134 }).room s m ([.ref (X 0), .int 4, .int a1, .int a2, .int a3, .int a4, .int a5] : List Value).toArray below meth c H locs 1 8 (vx_MQ below (va_Qi (fun (r : Int32) (u : va_W) => (TT.1 = 0 ∧ r = TT.2.1 ∧ (u = (wW_k_L_deed_4 ty X y0 y1 y2 pn rn tn en pl rf hn kn on TT.2.2.2.2.2.2.2.2.2.2.2.2.1 pu gw an ch cg fb mh ml ih lb TT.2.2.2.2.2.2.2.2.2.2.1 nn TT.2.2.2.2.2.2.2.2.2.2.2.1 y_k y_p y_lo y_up y_sp y_we y_le TT.2.2.2.2.2.2.2.2.2.2.2.2.2 y_cc yh))) ∨ (∃ (q_10_1 : Nat), TT.1 = 1 ∧ r = TT.2.1 ∧ (u = ((wW_k_L_deed_4 ty X y0 y1 y2 pn rn tn en pl rf hn kn on TT.2.2.2.2.2.2.2.2.2.2.2.2.1 pu gw an ch cg fb mh ml ih lb TT.2.2.2.2.2.2.2.2.2.2.1 nn TT.2.2.2.2.2.2.2.2.2.2.2.1 y_k y_p y_lo y_up y_sp y_we y_le TT.2.2.2.2.2.2.2.2.2.2.2.2.2 y_cc yh) ++ [(q_10_1, .inr (6, [.int TT.2.2.1, .int TT.2.2.2.1, .int TT.2.2.2.2.1, .int TT.2.2.2.2.2.1, .int TT.2.2.2.2.2.2.1, .int TT.2.2.2.2.2.2.2.1, .int TT.2.2.2.2.2.2.2.2.1, .int TT.2.2.2.2.2.2.2.2.2.1]))]))) ∨ (∃ (q_10_1 : Nat), TT.1 = 2 ∧ r = TT.2.1 ∧ (u = ((wW_k_L_deed_4 ty X y0 y1 y2 pn rn tn en pl rf hn kn on TT.2.2.2.2.2.2.2.2.2.2.2.2.1 pu gw an ch cg fb mh ml ih lb TT.2.2.2.2.2.2.2.2.2.2.1 nn TT.2.2.2.2.2.2.2.2.2.2.2.1 y_k y_p y_lo y_up y_sp y_we y_le TT.2.2.2.2.2.2.2.2.2.2.2.2.2 y_cc (va_up yh y_hc.toNatClampNeg (some q_10_1))) ++ [(q_10_1, .inr (6, [.int TT.2.2.1, .int TT.2.2.2.1, .int TT.2.2.2.2.1, .int TT.2.2.2.2.2.1, .int TT.2.2.2.2.2.2.1, .int TT.2.2.2.2.2.2.2.1, .int TT.2.2.2.2.2.2.2.2.1, .int TT.2.2.2.2.2.2.2.2.2.1]))])))) (wq_B D A) A) (vx_X (fun u : String × va_W => False) (wq_BX D A) A) ([.ref (X 0), .int 4, .int a1, .int a2, .int a3, .int a4, .int a5] : List Value).toArray s 1 8 A) (F0 m pc ls [.int r]) := by
    intro r w9_0 w9_1 w9_2 w9_3 w9_4 w9_5 w9_6 w9_7 w9_8 w9_9 w9_10 w9_11 hT H locs hP hD hS ls pc hd
    have hM : TT = (0, r, w9_0, w9_1, w9_2, w9_3, w9_4, w9_5, w9_6, w9_7, w9_8, w9_9, w9_10, w9_11) := hT
    refine vx_ret ?_
    exact W.iret (v := r) hx hb hr (fun t ht hW => ⟨⟨r, (wW_k_L_deed_4 ty X y0 y1 y2 pn rn tn en pl rf hn kn on w9_10 pu gw an ch cg fb mh ml ih lb w9_8 nn w9_9 y_k y_p y_lo y_up y_sp y_we y_le w9_11 y_cc yh), rfl, (Or.inl ⟨(by rw [hM]), (by rw [hM]), (by rw [hM])⟩), wq_B.of ht hP hD⟩, hS.F ht⟩) hS.2.2 hd
  have END_1 : ∀ (q_10_1 : Nat) (r : Int32) (w9_0 : Int32) (w9_1 : Int32) (w9_2 : Int32) (w9_3 : Int32) (w9_4 : Int32) (w9_5 : Int32) (w9_6 : Int32) (w9_7 : Int32) (w9_8 : Int32) (w9_9 : Int32) (w9_10 : Int32) (w9_11 : Int32), TT = (1, r, w9_0, w9_1, w9_2, w9_3, w9_4, w9_5, w9_6, w9_7, w9_8, w9_9, w9_10, w9_11) → ∀ (H : Heap) (locs : List Loc), va_P D vwCl ((wW_k_L_deed_4 ty X y0 y1 y2 pn rn tn en pl rf hn kn on w9_10 pu gw an ch cg fb mh ml ih lb w9_8 nn w9_9 y_k y_p y_lo y_up y_sp y_we y_le w9_11 y_cc yh) ++ [(q_10_1, .inr (6, [.int w9_0, .int w9_1, .int w9_2, .int w9_3, .int w9_4, .int w9_5, .int w9_6, .int w9_7]))]) H → va_D A ((wW_k_L_deed_4 ty X y0 y1 y2 pn rn tn en pl rf hn kn on w9_10 pu gw an ch cg fb mh ml ih lb w9_8 nn w9_9 y_k y_p y_lo y_up y_sp y_we y_le w9_11 y_cc yh) ++ [(q_10_1, .inr (6, [.int w9_0, .int w9_1, .int w9_2, .int w9_3, .int w9_4, .int w9_5, .int w9_6, .int w9_7]))]) → va_S A s.heap H locs → ∀ (ls : Array Slot) (pc : Nat), decode cL_deed pc = .ok (.ireturn, 1) → W p l e (headSpec vs_k_L_deed_4 { frames := 8, cells := 1, slots := 8, locals := 134 }).room s m ([.ref (X 0), .int 4, .int a1, .int a2, .int a3, .int a4, .int a5] : List Value).toArray below meth c H locs 1 8 (vx_MQ below (va_Qi (fun (r : Int32) (u : va_W) => (TT.1 = 0 ∧ r = TT.2.1 ∧ (u = (wW_k_L_deed_4 ty X y0 y1 y2 pn rn tn en pl rf hn kn on TT.2.2.2.2.2.2.2.2.2.2.2.2.1 pu gw an ch cg fb mh ml ih lb TT.2.2.2.2.2.2.2.2.2.2.1 nn TT.2.2.2.2.2.2.2.2.2.2.2.1 y_k y_p y_lo y_up y_sp y_we y_le TT.2.2.2.2.2.2.2.2.2.2.2.2.2 y_cc yh))) ∨ (∃ (q_10_1 : Nat), TT.1 = 1 ∧ r = TT.2.1 ∧ (u = ((wW_k_L_deed_4 ty X y0 y1 y2 pn rn tn en pl rf hn kn on TT.2.2.2.2.2.2.2.2.2.2.2.2.1 pu gw an ch cg fb mh ml ih lb TT.2.2.2.2.2.2.2.2.2.2.1 nn TT.2.2.2.2.2.2.2.2.2.2.2.1 y_k y_p y_lo y_up y_sp y_we y_le TT.2.2.2.2.2.2.2.2.2.2.2.2.2 y_cc yh) ++ [(q_10_1, .inr (6, [.int TT.2.2.1, .int TT.2.2.2.1, .int TT.2.2.2.2.1, .int TT.2.2.2.2.2.1, .int TT.2.2.2.2.2.2.1, .int TT.2.2.2.2.2.2.2.1, .int TT.2.2.2.2.2.2.2.2.1, .int TT.2.2.2.2.2.2.2.2.2.1]))]))) ∨ (∃ (q_10_1 : Nat), TT.1 = 2 ∧ r = TT.2.1 ∧ (u = ((wW_k_L_deed_4 ty X y0 y1 y2 pn rn tn en pl rf hn kn on TT.2.2.2.2.2.2.2.2.2.2.2.2.1 pu gw an ch cg fb mh ml ih lb TT.2.2.2.2.2.2.2.2.2.2.1 nn TT.2.2.2.2.2.2.2.2.2.2.2.1 y_k y_p y_lo y_up y_sp y_we y_le TT.2.2.2.2.2.2.2.2.2.2.2.2.2 y_cc (va_up yh y_hc.toNatClampNeg (some q_10_1))) ++ [(q_10_1, .inr (6, [.int TT.2.2.1, .int TT.2.2.2.1, .int TT.2.2.2.2.1, .int TT.2.2.2.2.2.1, .int TT.2.2.2.2.2.2.1, .int TT.2.2.2.2.2.2.2.1, .int TT.2.2.2.2.2.2.2.2.1, .int TT.2.2.2.2.2.2.2.2.2.1]))])))) (wq_B D A) A) (vx_X (fun u : String × va_W => False) (wq_BX D A) A) ([.ref (X 0), .int 4, .int a1, .int a2, .int a3, .int a4, .int a5] : List Value).toArray s 1 8 A) (F0 m pc ls [.int r]) := by
    intro q_10_1 r w9_0 w9_1 w9_2 w9_3 w9_4 w9_5 w9_6 w9_7 w9_8 w9_9 w9_10 w9_11 hT H locs hP hD hS ls pc hd
    have hM : TT = (1, r, w9_0, w9_1, w9_2, w9_3, w9_4, w9_5, w9_6, w9_7, w9_8, w9_9, w9_10, w9_11) := hT
    refine vx_ret ?_
    exact W.iret (v := r) hx hb hr (fun t ht hW => ⟨⟨r, ((wW_k_L_deed_4 ty X y0 y1 y2 pn rn tn en pl rf hn kn on w9_10 pu gw an ch cg fb mh ml ih lb w9_8 nn w9_9 y_k y_p y_lo y_up y_sp y_we y_le w9_11 y_cc yh) ++ [(q_10_1, .inr (6, [.int w9_0, .int w9_1, .int w9_2, .int w9_3, .int w9_4, .int w9_5, .int w9_6, .int w9_7]))]), rfl, (Or.inr (Or.inl ⟨q_10_1, (by rw [hM]), (by rw [hM]), (by rw [hM])⟩)), wq_B.of ht hP hD⟩, hS.F ht⟩) hS.2.2 hd
  have END_2 : ∀ (q_10_1 : Nat) (r : Int32) (w9_0 : Int32) (w9_1 : Int32) (w9_2 : Int32) (w9_3 : Int32) (w9_4 : Int32) (w9_5 : Int32) (w9_6 : Int32) (w9_7 : Int32) (w9_8 : Int32) (w9_9 : Int32) (w9_10 : Int32) (w9_11 : Int32), TT = (2, r, w9_0, w9_1, w9_2, w9_3, w9_4, w9_5, w9_6, w9_7, w9_8, w9_9, w9_10, w9_11) → ∀ (H : Heap) (locs : List Loc), va_P D vwCl ((wW_k_L_deed_4 ty X y0 y1 y2 pn rn tn en pl rf hn kn on w9_10 pu gw an ch cg fb mh ml ih lb w9_8 nn w9_9 y_k y_p y_lo y_up y_sp y_we y_le w9_11 y_cc (va_up yh y_hc.toNatClampNeg (some q_10_1))) ++ [(q_10_1, .inr (6, [.int w9_0, .int w9_1, .int w9_2, .int w9_3, .int w9_4, .int w9_5, .int w9_6, .int w9_7]))]) H → va_D A ((wW_k_L_deed_4 ty X y0 y1 y2 pn rn tn en pl rf hn kn on w9_10 pu gw an ch cg fb mh ml ih lb w9_8 nn w9_9 y_k y_p y_lo y_up y_sp y_we y_le w9_11 y_cc (va_up yh y_hc.toNatClampNeg (some q_10_1))) ++ [(q_10_1, .inr (6, [.int w9_0, .int w9_1, .int w9_2, .int w9_3, .int w9_4, .int w9_5, .int w9_6, .int w9_7]))]) → va_S A s.heap H locs → ∀ (ls : Array Slot) (pc : Nat), decode cL_deed pc = .ok (.ireturn, 1) → W p l e (headSpec vs_k_L_deed_4 { frames := 8, cells := 1, slots := 8, locals := 134 }).room s m ([.ref (X 0), .int 4, .int a1, .int a2, .int a3, .int a4, .int a5] : List Value).toArray below meth c H locs 1 8 (vx_MQ below (va_Qi (fun (r : Int32) (u : va_W) => (TT.1 = 0 ∧ r = TT.2.1 ∧ (u = (wW_k_L_deed_4 ty X y0 y1 y2 pn rn tn en pl rf hn kn on TT.2.2.2.2.2.2.2.2.2.2.2.2.1 pu gw an ch cg fb mh ml ih lb TT.2.2.2.2.2.2.2.2.2.2.1 nn TT.2.2.2.2.2.2.2.2.2.2.2.1 y_k y_p y_lo y_up y_sp y_we y_le TT.2.2.2.2.2.2.2.2.2.2.2.2.2 y_cc yh))) ∨ (∃ (q_10_1 : Nat), TT.1 = 1 ∧ r = TT.2.1 ∧ (u = ((wW_k_L_deed_4 ty X y0 y1 y2 pn rn tn en pl rf hn kn on TT.2.2.2.2.2.2.2.2.2.2.2.2.1 pu gw an ch cg fb mh ml ih lb TT.2.2.2.2.2.2.2.2.2.2.1 nn TT.2.2.2.2.2.2.2.2.2.2.2.1 y_k y_p y_lo y_up y_sp y_we y_le TT.2.2.2.2.2.2.2.2.2.2.2.2.2 y_cc yh) ++ [(q_10_1, .inr (6, [.int TT.2.2.1, .int TT.2.2.2.1, .int TT.2.2.2.2.1, .int TT.2.2.2.2.2.1, .int TT.2.2.2.2.2.2.1, .int TT.2.2.2.2.2.2.2.1, .int TT.2.2.2.2.2.2.2.2.1, .int TT.2.2.2.2.2.2.2.2.2.1]))]))) ∨ (∃ (q_10_1 : Nat), TT.1 = 2 ∧ r = TT.2.1 ∧ (u = ((wW_k_L_deed_4 ty X y0 y1 y2 pn rn tn en pl rf hn kn on TT.2.2.2.2.2.2.2.2.2.2.2.2.1 pu gw an ch cg fb mh ml ih lb TT.2.2.2.2.2.2.2.2.2.2.1 nn TT.2.2.2.2.2.2.2.2.2.2.2.1 y_k y_p y_lo y_up y_sp y_we y_le TT.2.2.2.2.2.2.2.2.2.2.2.2.2 y_cc (va_up yh y_hc.toNatClampNeg (some q_10_1))) ++ [(q_10_1, .inr (6, [.int TT.2.2.1, .int TT.2.2.2.1, .int TT.2.2.2.2.1, .int TT.2.2.2.2.2.1, .int TT.2.2.2.2.2.2.1, .int TT.2.2.2.2.2.2.2.1, .int TT.2.2.2.2.2.2.2.2.1, .int TT.2.2.2.2.2.2.2.2.2.1]))])))) (wq_B D A) A) (vx_X (fun u : String × va_W => False) (wq_BX D A) A) ([.ref (X 0), .int 4, .int a1, .int a2, .int a3, .int a4, .int a5] : List Value).toArray s 1 8 A) (F0 m pc ls [.int r]) := by
    intro q_10_1 r w9_0 w9_1 w9_2 w9_3 w9_4 w9_5 w9_6 w9_7 w9_8 w9_9 w9_10 w9_11 hT H locs hP hD hS ls pc hd
    have hM : TT = (2, r, w9_0, w9_1, w9_2, w9_3, w9_4, w9_5, w9_6, w9_7, w9_8, w9_9, w9_10, w9_11) := hT
    refine vx_ret ?_
    exact W.iret (v := r) hx hb hr (fun t ht hW => ⟨⟨r, ((wW_k_L_deed_4 ty X y0 y1 y2 pn rn tn en pl rf hn kn on w9_10 pu gw an ch cg fb mh ml ih lb w9_8 nn w9_9 y_k y_p y_lo y_up y_sp y_we y_le w9_11 y_cc (va_up yh y_hc.toNatClampNeg (some q_10_1))) ++ [(q_10_1, .inr (6, [.int w9_0, .int w9_1, .int w9_2, .int w9_3, .int w9_4, .int w9_5, .int w9_6, .int w9_7]))]), rfl, (Or.inr (Or.inr ⟨q_10_1, (by rw [hM]), (by rw [hM]), (by rw [hM])⟩)), wq_B.of ht hP hD⟩, hS.F ht⟩) hS.2.2 hd
  have hT := hTT
  rw [m_k_L_deed_4] at hT
  refine lv_aload_n hx hb dL_deed_0 rfl (lv_at hl 0 rfl) ?_
  refine lv_iload_n hx hb dL_deed_1 rfl (lv_at hl 1 rfl) ?_
  refine lv_iload_n hx hb dL_deed_2 rfl (lv_at hl 2 rfl) ?_
  refine lv_iload_n hx hb dL_deed_3 rfl (lv_at hl 3 rfl) ?_
  refine lv_iload hx hb dL_deed_4 (lv_at hl 4 rfl) ?_
  refine lv_iload hx hb dL_deed_6 (lv_at hl 5 rfl) ?_
  refine lv_iload hx hb dL_deed_8 (lv_at hl 6 rfl) ?_
  obtain ⟨t_10, ht_10⟩ : ∃ t, t = m_k_L_plain_4 pn rn pl rf cu ic kp y_k y_hc a1 a2 a3 a4 := ⟨_, rfl⟩
  rw [lE_eq ht_10] at hT
  refine wq_xiW (wc := (wW_k_L_plain_4 ty X y0 y1 y2 pn rn tn en pl rf hn kn on cu pu gw an ch cg fb mh ml ih lb ic nn kp y_k y_p y_lo y_up y_sp y_we y_le y_hc y_cc yh)) (vx_runS (As := [.ref (X 0), .int 4, .int a1, .int a2, .int a3, .int a4, .int a5]) (rest := []) ⟨hx, hb, hml, hown, hts⟩ (k_L_plain_4 l hl9 D ty td mi s.heap.size X pn rn tn en pl rf hn kn on cu pu gw an ch cg fb mh ml ih lb ic nn kp y0 y_k y_p y_lo y_up y_sp y_we y_le y1 y_hc y2 y_cc yh a1 a2 a3 a4 a5 hal t_10 ht_10) (va_cwS 7 hts gv_k_L_deed_4_0 rfl rfl rfl (by decide +kernel) ⟨(Nat.le_of_ble_eq_true rfl), (Nat.le_of_ble_eq_true rfl)⟩) (wm_preS hP hD hK hE hS hA [true, true, true, true, true, true, true, true, true] rfl) rfl rfl hl.1 rfl (lv_room (Nat.le_of_ble_eq_true rfl)) dL_deed_10 ⟨(Nat.le_of_ble_eq_true rfl), (Nat.le_of_ble_eq_true rfl)⟩) hS hA hP hD [true, true, true, true, true, true, true, true, true] rfl (fun _ _ h => by rcases h with ⟨_, -, -, -, rfl⟩ | ⟨_, -, -, -, rfl⟩ <;> rfl) (fun _ _ h => by rcases h with ⟨-, h⟩ | ⟨-, h⟩ | ⟨-, h⟩ <;> (cases h; rfl)) (fun E9 u H locs q9 ce hw hP hD hS hce hcv hcl => ?_) (fun r u H locs hw hP hD hS => ?_)
  · rcases hw with ⟨c_1, hEq⟩ | ⟨c_2, hEq⟩ | ⟨c_3, hEq⟩
    · cases hEq
      rw [if_neg (show ¬ t_10.1 = 0 by rw [c_1]; decide)] at hT
      rw [if_pos c_1] at hT
      have hP : va_P D vwCl (wW_k_L_deed_4 ty X y0 y1 y2 pn rn tn en pl rf hn kn on t_10.2.2.2.2.2.2.2.2.2.2.2.2.2.1 pu gw an ch cg fb mh ml ih lb t_10.2.2.2.2.2.2.2.2.2.2.2.1 nn t_10.2.2.2.2.2.2.2.2.2.2.2.2.1 y_k y_p y_lo y_up y_sp y_we y_le t_10.2.2.2.2.2.2.2.2.2.2.2.2.2.2 y_cc yh) H := hP
      have hD : va_D A (wW_k_L_deed_4 ty X y0 y1 y2 pn rn tn en pl rf hn kn on t_10.2.2.2.2.2.2.2.2.2.2.2.2.2.1 pu gw an ch cg fb mh ml ih lb t_10.2.2.2.2.2.2.2.2.2.2.2.1 nn t_10.2.2.2.2.2.2.2.2.2.2.2.2.1 y_k y_p y_lo y_up y_sp y_we y_le t_10.2.2.2.2.2.2.2.2.2.2.2.2.2.2 y_cc yh) := hD
      refine vx_widen (k := 1) (n := 8) (Nat.le_of_ble_eq_true rfl) (Nat.le_of_ble_eq_true rfl) ?_
      refine vx_catch (own := RL) (name := "java/lang/IndexOutOfBoundsException") (E := "java/lang/IndexOutOfBoundsException") hown [] ⟨0, 13, 14, 72⟩ [⟨0, 13, 20, 74⟩, ⟨0, 13, 26, 76⟩, ⟨0, 13, 32, 78⟩] (by rw [hTab]; rfl) (fun z hz => nomatch hz) (by decide) (by decide) (hts (.classLink RL 72 "java/lang/IndexOutOfBoundsException") (by decide +kernel)) (va_Nw.use rfl (hE.ca "java/lang/IndexOutOfBoundsException" "java/lang/IndexOutOfBoundsException" (by decide +kernel))) hce hcv hcl ?_
      refine lv_astore (lv' := [(7, .ref q9), (0, .ref (X 0)), (1, .int 4), (2, .int a1), (3, .int a2), (4, .int a3), (5, .int a4), (6, .int a5)]) hx hb dL_deed_14 hl (by decide) rfl (fun ls hl => ?_)
      refine lv_sipush (v := (-2001)) hx hb dL_deed_16 (by decide) ?_
      exact END_0 (-2001) 0 0 0 0 0 0 0 0 t_10.2.2.2.2.2.2.2.2.2.2.2.1 t_10.2.2.2.2.2.2.2.2.2.2.2.2.1 t_10.2.2.2.2.2.2.2.2.2.2.2.2.2.1 t_10.2.2.2.2.2.2.2.2.2.2.2.2.2.2 hT _ _ hP hD hS _ _ dL_deed_19
    · cases hEq
      rw [if_neg (show ¬ t_10.1 = 0 by rw [c_2]; decide)] at hT
      rw [if_neg (show ¬ t_10.1 = 1 by rw [c_2]; decide)] at hT
      rw [if_pos c_2] at hT
      have hP : va_P D vwCl (wW_k_L_deed_4 ty X y0 y1 y2 pn rn tn en pl rf hn kn on t_10.2.2.2.2.2.2.2.2.2.2.2.2.2.1 pu gw an ch cg fb mh ml ih lb t_10.2.2.2.2.2.2.2.2.2.2.2.1 nn t_10.2.2.2.2.2.2.2.2.2.2.2.2.1 y_k y_p y_lo y_up y_sp y_we y_le t_10.2.2.2.2.2.2.2.2.2.2.2.2.2.2 y_cc yh) H := hP
      have hD : va_D A (wW_k_L_deed_4 ty X y0 y1 y2 pn rn tn en pl rf hn kn on t_10.2.2.2.2.2.2.2.2.2.2.2.2.2.1 pu gw an ch cg fb mh ml ih lb t_10.2.2.2.2.2.2.2.2.2.2.2.1 nn t_10.2.2.2.2.2.2.2.2.2.2.2.2.1 y_k y_p y_lo y_up y_sp y_we y_le t_10.2.2.2.2.2.2.2.2.2.2.2.2.2.2 y_cc yh) := hD
      refine vx_widen (k := 1) (n := 8) (Nat.le_of_ble_eq_true rfl) (Nat.le_of_ble_eq_true rfl) ?_
      refine vx_catch (own := RL) (name := "java/lang/IllegalArgumentException") (E := "java/lang/IllegalArgumentException") hown [⟨0, 13, 14, 72⟩] ⟨0, 13, 20, 74⟩ [⟨0, 13, 26, 76⟩, ⟨0, 13, 32, 78⟩] (by rw [hTab]; rfl) (by
          intro z hz
          rcases List.mem_cons.mp hz with rfl | hz
          · exact Or.inr ⟨by decide, "java/lang/IndexOutOfBoundsException", (hts (.classLink RL 72 "java/lang/IndexOutOfBoundsException") (by decide +kernel)), hE.nc "java/lang/IllegalArgumentException" "java/lang/IndexOutOfBoundsException" (by decide +kernel)⟩
          cases hz) (by decide) (by decide) (hts (.classLink RL 74 "java/lang/IllegalArgumentException") (by decide +kernel)) (va_Nw.use rfl (hE.ca "java/lang/IllegalArgumentException" "java/lang/IllegalArgumentException" (by decide +kernel))) hce hcv hcl ?_
      refine lv_astore (lv' := [(7, .ref q9), (0, .ref (X 0)), (1, .int 4), (2, .int a1), (3, .int a2), (4, .int a3), (5, .int a4), (6, .int a5)]) hx hb dL_deed_20 hl (by decide) rfl (fun ls hl => ?_)
      refine lv_sipush (v := (-2002)) hx hb dL_deed_22 (by decide) ?_
      exact END_0 (-2002) 0 0 0 0 0 0 0 0 t_10.2.2.2.2.2.2.2.2.2.2.2.1 t_10.2.2.2.2.2.2.2.2.2.2.2.2.1 t_10.2.2.2.2.2.2.2.2.2.2.2.2.2.1 t_10.2.2.2.2.2.2.2.2.2.2.2.2.2.2 hT _ _ hP hD hS _ _ dL_deed_25
    · cases hEq
      rw [if_neg (show ¬ t_10.1 = 0 by rw [c_3]; decide)] at hT
      rw [if_neg (show ¬ t_10.1 = 1 by rw [c_3]; decide)] at hT
      rw [if_neg (show ¬ t_10.1 = 2 by rw [c_3]; decide)] at hT
      have hP : va_P D vwCl (wW_k_L_deed_4 ty X y0 y1 y2 pn rn tn en pl rf hn kn on t_10.2.2.2.2.2.2.2.2.2.2.2.2.2.1 pu gw an ch cg fb mh ml ih lb t_10.2.2.2.2.2.2.2.2.2.2.2.1 nn t_10.2.2.2.2.2.2.2.2.2.2.2.2.1 y_k y_p y_lo y_up y_sp y_we y_le t_10.2.2.2.2.2.2.2.2.2.2.2.2.2.2 y_cc yh) H := hP
      have hD : va_D A (wW_k_L_deed_4 ty X y0 y1 y2 pn rn tn en pl rf hn kn on t_10.2.2.2.2.2.2.2.2.2.2.2.2.2.1 pu gw an ch cg fb mh ml ih lb t_10.2.2.2.2.2.2.2.2.2.2.2.1 nn t_10.2.2.2.2.2.2.2.2.2.2.2.2.1 y_k y_p y_lo y_up y_sp y_we y_le t_10.2.2.2.2.2.2.2.2.2.2.2.2.2.2 y_cc yh) := hD
      refine vx_widen (k := 1) (n := 8) (Nat.le_of_ble_eq_true rfl) (Nat.le_of_ble_eq_true rfl) ?_
      refine vx_catch (own := RL) (name := "java/lang/IllegalStateException") (E := "java/lang/IllegalStateException") hown [⟨0, 13, 14, 72⟩, ⟨0, 13, 20, 74⟩] ⟨0, 13, 26, 76⟩ [⟨0, 13, 32, 78⟩] (by rw [hTab]; rfl) (by
          intro z hz
          rcases List.mem_cons.mp hz with rfl | hz
          · exact Or.inr ⟨by decide, "java/lang/IndexOutOfBoundsException", (hts (.classLink RL 72 "java/lang/IndexOutOfBoundsException") (by decide +kernel)), hE.nc "java/lang/IllegalStateException" "java/lang/IndexOutOfBoundsException" (by decide +kernel)⟩
          rcases List.mem_cons.mp hz with rfl | hz
          · exact Or.inr ⟨by decide, "java/lang/IllegalArgumentException", (hts (.classLink RL 74 "java/lang/IllegalArgumentException") (by decide +kernel)), hE.nc "java/lang/IllegalStateException" "java/lang/IllegalArgumentException" (by decide +kernel)⟩
          cases hz) (by decide) (by decide) (hts (.classLink RL 76 "java/lang/IllegalStateException") (by decide +kernel)) (va_Nw.use rfl (hE.ca "java/lang/IllegalStateException" "java/lang/IllegalStateException" (by decide +kernel))) hce hcv hcl ?_
      refine lv_astore (lv' := [(7, .ref q9), (0, .ref (X 0)), (1, .int 4), (2, .int a1), (3, .int a2), (4, .int a3), (5, .int a4), (6, .int a5)]) hx hb dL_deed_26 hl (by decide) rfl (fun ls hl => ?_)
      refine lv_sipush (v := (-2003)) hx hb dL_deed_28 (by decide) ?_
      exact END_0 (-2003) 0 0 0 0 0 0 0 0 t_10.2.2.2.2.2.2.2.2.2.2.2.1 t_10.2.2.2.2.2.2.2.2.2.2.2.2.1 t_10.2.2.2.2.2.2.2.2.2.2.2.2.2.1 t_10.2.2.2.2.2.2.2.2.2.2.2.2.2.2 hT _ _ hP hD hS _ _ dL_deed_31
  · rcases hw with ⟨q_10_1, c_4, c_5, rfl, rfl⟩ | ⟨q_10_1, c_6, c_7, rfl, rfl⟩
    · rw [if_pos c_4] at hT
      rw [if_pos c_5] at hT
      have hP : va_P D vwCl ((wW_k_L_deed_4 ty X y0 y1 y2 pn rn tn en pl rf hn kn on t_10.2.2.2.2.2.2.2.2.2.2.2.2.2.1 pu gw an ch cg fb mh ml ih lb t_10.2.2.2.2.2.2.2.2.2.2.2.1 nn t_10.2.2.2.2.2.2.2.2.2.2.2.2.1 y_k y_p y_lo y_up y_sp y_we y_le t_10.2.2.2.2.2.2.2.2.2.2.2.2.2.2 y_cc yh) ++ [(q_10_1, .inr (6, [.int t_10.2.2.2.1, .int t_10.2.2.2.2.1, .int t_10.2.2.2.2.2.1, .int t_10.2.2.2.2.2.2.1, .int t_10.2.2.2.2.2.2.2.1, .int t_10.2.2.2.2.2.2.2.2.1, .int t_10.2.2.2.2.2.2.2.2.2.1, .int t_10.2.2.2.2.2.2.2.2.2.2.1]))]) H := hP
      have hD : va_D A ((wW_k_L_deed_4 ty X y0 y1 y2 pn rn tn en pl rf hn kn on t_10.2.2.2.2.2.2.2.2.2.2.2.2.2.1 pu gw an ch cg fb mh ml ih lb t_10.2.2.2.2.2.2.2.2.2.2.2.1 nn t_10.2.2.2.2.2.2.2.2.2.2.2.2.1 y_k y_p y_lo y_up y_sp y_we y_le t_10.2.2.2.2.2.2.2.2.2.2.2.2.2.2 y_cc yh) ++ [(q_10_1, .inr (6, [.int t_10.2.2.2.1, .int t_10.2.2.2.2.1, .int t_10.2.2.2.2.2.1, .int t_10.2.2.2.2.2.2.1, .int t_10.2.2.2.2.2.2.2.1, .int t_10.2.2.2.2.2.2.2.2.1, .int t_10.2.2.2.2.2.2.2.2.2.1, .int t_10.2.2.2.2.2.2.2.2.2.2.1]))]) := hD
      refine W.widen (k := 1) (n := 8) (Nat.le_of_ble_eq_true rfl) (Nat.le_of_ble_eq_true rfl) ?_
      exact END_1 q_10_1 t_10.2.2.1 t_10.2.2.2.1 t_10.2.2.2.2.1 t_10.2.2.2.2.2.1 t_10.2.2.2.2.2.2.1 t_10.2.2.2.2.2.2.2.1 t_10.2.2.2.2.2.2.2.2.1 t_10.2.2.2.2.2.2.2.2.2.1 t_10.2.2.2.2.2.2.2.2.2.2.1 t_10.2.2.2.2.2.2.2.2.2.2.2.1 t_10.2.2.2.2.2.2.2.2.2.2.2.2.1 t_10.2.2.2.2.2.2.2.2.2.2.2.2.2.1 t_10.2.2.2.2.2.2.2.2.2.2.2.2.2.2 hT _ _ hP hD hS _ _ dL_deed_13
    · rw [if_pos c_6] at hT
      rw [if_neg (show ¬ t_10.2.1 = 0 by rw [c_7]; decide)] at hT
      have hP : va_P D vwCl ((wW_k_L_deed_4 ty X y0 y1 y2 pn rn tn en pl rf hn kn on t_10.2.2.2.2.2.2.2.2.2.2.2.2.2.1 pu gw an ch cg fb mh ml ih lb t_10.2.2.2.2.2.2.2.2.2.2.2.1 nn t_10.2.2.2.2.2.2.2.2.2.2.2.2.1 y_k y_p y_lo y_up y_sp y_we y_le t_10.2.2.2.2.2.2.2.2.2.2.2.2.2.2 y_cc (va_up yh y_hc.toNatClampNeg (some q_10_1))) ++ [(q_10_1, .inr (6, [.int t_10.2.2.2.1, .int t_10.2.2.2.2.1, .int t_10.2.2.2.2.2.1, .int t_10.2.2.2.2.2.2.1, .int t_10.2.2.2.2.2.2.2.1, .int t_10.2.2.2.2.2.2.2.2.1, .int t_10.2.2.2.2.2.2.2.2.2.1, .int t_10.2.2.2.2.2.2.2.2.2.2.1]))]) H := hP
      have hD : va_D A ((wW_k_L_deed_4 ty X y0 y1 y2 pn rn tn en pl rf hn kn on t_10.2.2.2.2.2.2.2.2.2.2.2.2.2.1 pu gw an ch cg fb mh ml ih lb t_10.2.2.2.2.2.2.2.2.2.2.2.1 nn t_10.2.2.2.2.2.2.2.2.2.2.2.2.1 y_k y_p y_lo y_up y_sp y_we y_le t_10.2.2.2.2.2.2.2.2.2.2.2.2.2.2 y_cc (va_up yh y_hc.toNatClampNeg (some q_10_1))) ++ [(q_10_1, .inr (6, [.int t_10.2.2.2.1, .int t_10.2.2.2.2.1, .int t_10.2.2.2.2.2.1, .int t_10.2.2.2.2.2.2.1, .int t_10.2.2.2.2.2.2.2.1, .int t_10.2.2.2.2.2.2.2.2.1, .int t_10.2.2.2.2.2.2.2.2.2.1, .int t_10.2.2.2.2.2.2.2.2.2.2.1]))]) := hD
      refine W.widen (k := 1) (n := 8) (Nat.le_of_ble_eq_true rfl) (Nat.le_of_ble_eq_true rfl) ?_
      exact END_2 q_10_1 t_10.2.2.1 t_10.2.2.2.1 t_10.2.2.2.2.1 t_10.2.2.2.2.2.1 t_10.2.2.2.2.2.2.1 t_10.2.2.2.2.2.2.2.1 t_10.2.2.2.2.2.2.2.2.1 t_10.2.2.2.2.2.2.2.2.2.1 t_10.2.2.2.2.2.2.2.2.2.2.1 t_10.2.2.2.2.2.2.2.2.2.2.2.1 t_10.2.2.2.2.2.2.2.2.2.2.2.2.1 t_10.2.2.2.2.2.2.2.2.2.2.2.2.2.1 t_10.2.2.2.2.2.2.2.2.2.2.2.2.2.2 hT _ _ hP hD hS _ _ dL_deed_13
