abbrev r_k_X10_commonest : Type := Int32 × Int32
def m_k_X10_commonest_24 : r_k_X10_commonest :=
  (5, 0)
def m_k_X10_commonest_84 (rec_41 : Int32 → Int32 → Int32 → r_k_X10_commonest) (v3_41 : Int32) (v1_84 : Int32) (v2_84 : Int32) : r_k_X10_commonest :=
  rec_41 v1_84 v2_84 (v3_41 + 1)
def m_k_X10_commonest_41s (on : Int32) (su : Nat → Int64) (oa : Nat → Int32) (ob : Nat → Int32) (nn : Int32) (se : Nat → Int32) (rec_41 : Int32 → Int32 → Int32 → r_k_X10_commonest) (v1_41 : Int32) (v2_41 : Int32) (v3_41 : Int32) : r_k_X10_commonest :=
  if on ≤ v3_41 then
    (0, (((100 * (v2_41 / 64)) + (10 * ((v2_41 - v2_41 / 64 * 64) / 8))) + (v2_41 - v2_41 / 8 * 8)))
  else
    lE (m_k_X3_openAtomAt oa v3_41) (fun t_58 =>
      lE (m_k_X10_answersWith on su ob nn se t_58) (fun t_61 =>
        if t_61 ≤ v1_41 then
          m_k_X10_commonest_84 rec_41 v3_41 v1_41 v2_41
        else
          lE (m_k_X3_openAtomAt oa v3_41) (fun t_80 =>
            m_k_X10_commonest_84 rec_41 v3_41 t_61 t_80)))
def m_k_X10_commonest_41 (on : Int32) (su : Nat → Int64) (oa : Nat → Int32) (ob : Nat → Int32) (nn : Int32) (se : Nat → Int32) : Nat → Int32 → Int32 → Int32 → r_k_X10_commonest
  | 0, _, _, _ => (0, 0)
  | n + 1, v1_41, v2_41, v3_41 => m_k_X10_commonest_41s on su oa ob nn se (fun v1_41 v2_41 v3_41 => m_k_X10_commonest_41 on su oa ob nn se n v1_41 v2_41 v3_41) v1_41 v2_41 v3_41
theorem m_k_X10_commonest_41_succ (on : Int32) (su : Nat → Int64) (oa : Nat → Int32) (ob : Nat → Int32) (nn : Int32) (se : Nat → Int32) (n : Nat) (v1_41 : Int32) (v2_41 : Int32) (v3_41 : Int32) : m_k_X10_commonest_41 on su oa ob nn se (n + 1) v1_41 v2_41 v3_41 = m_k_X10_commonest_41s on su oa ob nn se (m_k_X10_commonest_41 on su oa ob nn se n) v1_41 v2_41 v3_41 := rfl
def m_k_X10_commonest (on : Int32) (su : Nat → Int64) (oa : Nat → Int32) (ob : Nat → Int32) (nn : Int32) (kp : Int32) (se : Nat → Int32) : r_k_X10_commonest :=
  lE (m_k_X10_checkWalk kp) (fun t_1 =>
    if t_1 = 0 then
      if on ≤ 0 then
        m_k_X10_commonest_24
      else
        if 0 < nn then
          m_k_X10_commonest_41 on su oa ob nn se wF (-1) 0 0
        else
          m_k_X10_commonest_24
    else
      (3, 0))
def vs_k_X10_commonest : List Cond := .code yX10_commonest cX10_commonest 5 (some .int) :: ([.methodLink RX10 312 yX10_checkWalk, .instanceMethod yX10_checkWalk, .selects RX10 yX10_checkWalk yX10_checkWalk, .initialized RX10, .fieldLink RX10 21 "AnswerFold" "grounding" "LAnswerFold$Grounding;", .classLink RX10 333 "java/util/NoSuchElementException", .initialized "java/util/NoSuchElementException", .fieldLink RX10 56 "AnswerFold" "answers" "LAnswerFold$Answers;", .methodLink RX10 345 yX3_openAtomAt, .instanceMethod yX3_openAtomAt, .selects RX3 yX3_openAtomAt yX3_openAtomAt, .initialized RX3, .methodLink RX10 326 yX10_answersWith, .instanceMethod yX10_answersWith, .selects RX10 yX10_answersWith yX10_answersWith] ++ (vs_k_X10_checkWalk ++ (u_ws RX10 TX10 7 ++ (u_ws RX3 TX3 16 ++ ((vx_atS RX10 337 "java/util/NoSuchElementException" ["java/lang/RuntimeException", "java/lang/Exception"]).filter goodWord ++ (u_ws RX0 TX0 4 ++ (vs_k_X3_openAtomAt ++ (vs_k_X10_answersWith))))))))
theorem iv_k_X10_commonest_X0 : ∀ w ∈ u_ws RX0 TX0 4, w ∈ vs_k_X10_commonest := (fun _ h => List.mem_cons_of_mem _ (List.mem_append_right _ (List.mem_append_right _ (List.mem_append_right _ (List.mem_append_right _ (List.mem_append_right _ (List.mem_append_left _ h)))))))
theorem iv_k_X10_commonest_X10 : ∀ w ∈ u_ws RX10 TX10 7, w ∈ vs_k_X10_commonest := (fun _ h => List.mem_cons_of_mem _ (List.mem_append_right _ (List.mem_append_right _ (List.mem_append_left _ h))))
theorem iv_k_X10_commonest_X3 : ∀ w ∈ u_ws RX3 TX3 16, w ∈ vs_k_X10_commonest := (fun _ h => List.mem_cons_of_mem _ (List.mem_append_right _ (List.mem_append_right _ (List.mem_append_right _ (List.mem_append_left _ h)))))
set_option maxRecDepth 20000 in
theorem gv_k_X10_commonest_0 : GoodIn vs_k_X10_commonest (wsV RX10 312 RX10 yX10_checkWalk vs_k_X10_checkWalk) := goodIn_app (goodIn_sub (by decide +kernel) (by decide +kernel)) (goodIn_sub (fun _ h => List.mem_cons_of_mem _ (List.mem_append_right _ (List.mem_append_left _ h))) (by decide +kernel))
set_option maxRecDepth 20000 in
theorem gv_k_X10_commonest_1 : GoodIn vs_k_X10_commonest (wsV RX10 345 RX3 yX3_openAtomAt vs_k_X3_openAtomAt) := goodIn_app (goodIn_sub (by decide +kernel) (by decide +kernel)) (goodIn_sub (fun _ h => List.mem_cons_of_mem _ (List.mem_append_right _ (List.mem_append_right _ (List.mem_append_right _ (List.mem_append_right _ (List.mem_append_right _ (List.mem_append_right _ (List.mem_append_left _ h)))))))) (by decide +kernel))
set_option maxRecDepth 20000 in
theorem gv_k_X10_commonest_2 : GoodIn vs_k_X10_commonest (wsV RX10 326 RX10 yX10_answersWith vs_k_X10_answersWith) := goodIn_app (goodIn_sub (by decide +kernel) (by decide +kernel)) (goodIn_sub (fun _ h => List.mem_cons_of_mem _ (List.mem_append_right _ (List.mem_append_right _ (List.mem_append_right _ (List.mem_append_right _ (List.mem_append_right _ (List.mem_append_right _ (List.mem_append_right _ (h))))))))) (by decide +kernel))
set_option maxRecDepth 20000 in
theorem gv_k_X10_commonest_3 : GoodIn vs_k_X10_commonest (wsV RX10 345 RX3 yX3_openAtomAt vs_k_X3_openAtomAt) := goodIn_app (goodIn_sub (by decide +kernel) (by decide +kernel)) (goodIn_sub (fun _ h => List.mem_cons_of_mem _ (List.mem_append_right _ (List.mem_append_right _ (List.mem_append_right _ (List.mem_append_right _ (List.mem_append_right _ (List.mem_append_right _ (List.mem_append_left _ h)))))))) (by decide +kernel))
theorem ix_k_X10_commonest_337 : ∀ w ∈ (vx_atS RX10 337 "java/util/NoSuchElementException" ["java/lang/RuntimeException", "java/lang/Exception"]).filter goodWord, w ∈ vs_k_X10_commonest := (fun _ h => List.mem_cons_of_mem _ (List.mem_append_right _ (List.mem_append_right _ (List.mem_append_right _ (List.mem_append_right _ (List.mem_append_left _ h))))))
set_option maxHeartbeats 4000000 in
set_option maxRecDepth 100000 in
theorem k_X10_commonest (l : Launch) (hl9 : l.stackTraces = false) (D : va_G) (ty : Nat → ClassId) (td mi sz : Nat) (X : Nat → Nat) (hn : Int32) (kn : Int32) (on : Int32) (cu : Int32) (pu : Int32) (gw : Int32) (su : Nat → Int64) (oa : Nat → Int32) (ob : Nat → Int32) (an : Int32) (ch : Int32) (cg : Int32) (fb : Int32) (mh : Int32) (ml : Int32) (ih : Int32) (lb : Int32) (ic : Int32) (nn : Int32) (kp : Int32) (se : Nat → Int32) (TT : r_k_X10_commonest) (hTT : TT = m_k_X10_commonest on su oa ob nn kp se) : vx_Met l yX10_commonest vs_k_X10_commonest { frames := 7, cells := 2, slots := 12, locals := 102 } (va_Pc [.ref (X 0)] (wq_P D ty td mi (wW_k_X10_commonest ty X hn kn on cu pu gw su oa ob an ch cg fb mh ml ih lb ic nn kp se) sz)) (va_Qi (fun (r : Int32) (u : va_W) => (TT.1 = 0 ∧ r = TT.2 ∧ (u = (wW_k_X10_commonest ty X hn kn on cu pu gw su oa ob an ch cg fb mh ml ih lb ic nn kp se)))) (wq_B D (va_A (wW_k_X10_commonest ty X hn kn on cu pu gw su oa ob an ch cg fb mh ml ih lb ic nn kp se) sz)) (va_A (wW_k_X10_commonest ty X hn kn on cu pu gw su oa ob an ch cg fb mh ml ih lb ic nn kp se) sz)) (vx_X (fun u : String × va_W => (TT.1 = 3 ∧ u = ("java/lang/IllegalStateException", (wW_k_X10_commonest ty X hn kn on cu pu gw su oa ob an ch cg fb mh ml ih lb ic nn kp se))) ∨ (TT.1 = 5 ∧ u = ("java/util/NoSuchElementException", (wW_k_X10_commonest ty X hn kn on cu pu gw su oa ob an ch cg fb mh ml ih lb ic nn kp se)))) (wq_BX D (va_A (wW_k_X10_commonest ty X hn kn on cu pu gw su oa ob an ch cg fb mh ml ih lb ic nn kp se) sz)) (va_A (wW_k_X10_commonest ty X hn kn on cu pu gw su oa ob an ch cg fb mh ml ih lb ic nn kp se) sz)) 2 12 (va_A (wW_k_X10_commonest ty X hn kn on cu pu gw su oa ob an ch cg fb mh ml ih lb ic nn kp se) sz) := by
  refine vx_ofW (cc := cX10_commonest) (maxL := 5) (ret := (some .int)) (by decide) rfl ?_
  intro p e s m args below meth c s₁ B hml hEx hv
  obtain ⟨rfl, hsz, hP, hK, hD0, hE⟩ := hv
  have hx := B.exec
  have hb := B.bytes
  have hr := B.returns
  have hts := atoms_spec (ws := vs_k_X10_commonest) B.pre
  have hown : s.vm.findClass RX10 = some m.cls := findClass_of_methodNamed B.named
  have hlocks := B.notSynchronized
  subst hsz
  have hD := hD0.self (sz := s.heap.size)
  generalize hAe : va_A (wW_k_X10_commonest ty X hn kn on cu pu gw su oa ob an ch cg fb mh ml ih lb ic nn kp se) s.heap.size = A at hD hE ⊢
  have hA : ∀ q : Nat, s.heap.size ≤ q → A q := fun q h => by rw [← hAe]; exact Or.inr h
  have hS : va_S A s.heap s.heap [] := va_S.rf
  have hP : va_P D vwCl (wW_k_X10_commonest ty X hn kn on cu pu gw su oa ob an ch cg fb mh ml ih lb ic nn kp se) s.heap := hP
  have hl := lv_entry ([.ref (X 0)]) (n := 5) (Nat.le_of_ble_eq_true rfl)
  rw [lg_entry_eq]
  generalize (lg_sl ([.ref (X 0)]) ++ List.replicate (5 - (lg_sl ([.ref (X 0)])).length) Slot.unset).toArray = ls at hl ⊢
  have hl : lv_has ls 5 [(0, .ref (X 0))] := hl
  have END : ∀ (r : Int32), TT = (0, r) → ∀ (H : Heap) (locs : List Loc), va_P D vwCl (wW_k_X10_commonest ty X hn kn on cu pu gw su oa ob an ch cg fb mh ml ih lb ic nn kp se) H → va_D A (wW_k_X10_commonest ty X hn kn on cu pu gw su oa ob an ch cg fb mh ml ih lb ic nn kp se) → va_S A s.heap H locs → ∀ (ls : Array Slot) (pc : Nat), decode cX10_commonest pc = .ok (.ireturn, 1) → W p l e (headSpec vs_k_X10_commonest { frames := 7, cells := 2, slots := 12, locals := 102 }).room s m ([.ref (X 0)] : List Value).toArray below meth c H locs 2 12 (vx_MQ below (va_Qi (fun (r : Int32) (u : va_W) => (TT.1 = 0 ∧ r = TT.2 ∧ (u = (wW_k_X10_commonest ty X hn kn on cu pu gw su oa ob an ch cg fb mh ml ih lb ic nn kp se)))) (wq_B D A) A) (vx_X (fun u : String × va_W => (TT.1 = 3 ∧ u = ("java/lang/IllegalStateException", (wW_k_X10_commonest ty X hn kn on cu pu gw su oa ob an ch cg fb mh ml ih lb ic nn kp se))) ∨ (TT.1 = 5 ∧ u = ("java/util/NoSuchElementException", (wW_k_X10_commonest ty X hn kn on cu pu gw su oa ob an ch cg fb mh ml ih lb ic nn kp se)))) (wq_BX D A) A) ([.ref (X 0)] : List Value).toArray s 2 12 A) (F0 m pc ls [.int r]) := by
    intro r hT H locs hP hD hS ls pc hd
    have hM : TT = (0, r) := hT
    refine vx_ret ?_
    exact W.iret (v := r) hx hb hr (fun t ht hW => ⟨⟨r, (wW_k_X10_commonest ty X hn kn on cu pu gw su oa ob an ch cg fb mh ml ih lb ic nn kp se), rfl, ⟨(by rw [hM]), (by rw [hM]), rfl⟩, wq_B.of ht hP hD⟩, hS.F ht⟩) hS.2.2 hd
  have hT := hTT
  rw [m_k_X10_commonest] at hT
  refine lv_aload_n hx hb dX10_commonest_0 rfl (lv_at hl 0 rfl) ?_
  obtain ⟨t_1, ht_1⟩ : ∃ t, t = m_k_X10_checkWalk kp := ⟨_, rfl⟩
  rw [lE_eq ht_1] at hT
  refine wq_xvW (wc := (wW_k_X10_checkWalk ty X nn kp)) (vx_runV (As := []) (rest := []) ⟨hx, hb, hml, hown, hts⟩ (k_X10_checkWalk l hl9 D ty td mi s.heap.size X nn kp t_1 ht_1) (cwV 0 hts gv_k_X10_commonest_0 rfl rfl rfl (by decide +kernel) ⟨(Nat.le_of_ble_eq_true rfl), (Nat.le_of_ble_eq_true rfl)⟩) (wm_V (wm_preS hP hD hK hE hS hA [true, false, false, false, false, false, false, true] rfl) (va_recv (q0 := 0) (ci := 12) hK hP rfl rfl)) rfl rfl hl.1 rfl (lv_room (Nat.le_of_ble_eq_true rfl)) dX10_commonest_1 ⟨(Nat.le_of_ble_eq_true rfl), (Nat.le_of_ble_eq_true rfl)⟩) hS hA hP hD [true, false, false, false, false, false, false, true] rfl (fun _ h => by rcases h with ⟨-, rfl⟩; rfl) (fun _ _ h => by rcases h with ⟨-, h⟩ <;> (cases h; rfl)) (fun E9 u H locs q9 ce hw hP hD hS hce hcv hcl => ?_) (fun u H locs hw hP hD hS => ?_)
  · obtain ⟨c_1, hEq⟩ := hw
    cases hEq
    rw [if_neg (show ¬ t_1 = 0 by rw [c_1]; decide)] at hT
    have hP : va_P D vwCl (wW_k_X10_commonest ty X hn kn on cu pu gw su oa ob an ch cg fb mh ml ih lb ic nn kp se) H := hP
    have hD : va_D A (wW_k_X10_commonest ty X hn kn on cu pu gw su oa ob an ch cg fb mh ml ih lb ic nn kp se) := hD
    refine vx_widen (k := 2) (n := 12) (Nat.le_of_ble_eq_true rfl) (Nat.le_of_ble_eq_true rfl) ?_
    exact vx_out (E := "java/lang/IllegalStateException") (fun x hx => (hEx x hx).elim) hlocks hce hcv hcl (fun t ht ha => wq_thrW0 (W := (wW_k_X10_commonest ty X hn kn on cu pu gw su oa ob an ch cg fb mh ml ih lb ic nn kp se)) hS hP hD (by exact (Or.inl ⟨(by rw [hT]), (by first | rw [hT] | rfl)⟩)) ht) hS.2.2 (Nat.le_refl _) (Nat.le_refl _)
  · obtain ⟨c_2, rfl⟩ := hw
    rw [if_pos c_2] at hT
    have hP : va_P D vwCl (wW_k_X10_commonest ty X hn kn on cu pu gw su oa ob an ch cg fb mh ml ih lb ic nn kp se) H := hP
    have hD : va_D A (wW_k_X10_commonest ty X hn kn on cu pu gw su oa ob an ch cg fb mh ml ih lb ic nn kp se) := hD
    refine W.widen (k := 1) (n := 6) (Nat.le_of_ble_eq_true rfl) (Nat.le_of_ble_eq_true rfl) ?_
    refine lv_aload_n hx hb dX10_commonest_4 rfl (lv_at hl 0 rfl) ?_
    refine va_get (D := D) (ci := 12) (v := .ref (X 8)) (C := RX10) (T := TX10) (N := 7) hx hb hts iv_k_X10_commonest_X10 hown hK hP 0 rfl rfl 1 (by decide) (hts (.fieldLink RX10 21 "AnswerFold" "grounding" "LAnswerFold$Grounding;") (by decide +kernel)) (fun _ h9 => h9) rfl dX10_commonest_5 ?_
    refine va_getN (D := D) (ci := 5) (v := .int on) (C := RX3) (T := TX3) (N := 16) hx hb hts iv_k_X10_commonest_X3 hown hK hP 1 rfl rfl 12 (by decide) (hE.at (.fieldLinkNest "AnswerFold" 263 "AnswerFold$Grounding" "openCount" "I" "AnswerFold") (by decide +kernel)) (fun _ h9 => h9) rfl dX10_commonest_8 ?_
    have J_24 : ∀ (_ : Unit), TT = m_k_X10_commonest_24 → ∀ (H : Heap) (locs : List Loc), va_P D vwCl (wW_k_X10_commonest ty X hn kn on cu pu gw su oa ob an ch cg fb mh ml ih lb ic nn kp se) H → va_D A (wW_k_X10_commonest ty X hn kn on cu pu gw su oa ob an ch cg fb mh ml ih lb ic nn kp se) → va_S A s.heap H locs → ∀ ls : Array Slot, lv_has ls 5 [] → W p l e (headSpec vs_k_X10_commonest { frames := 7, cells := 2, slots := 12, locals := 102 }).room s m ([.ref (X 0)] : List Value).toArray below meth c H locs 1 6 (vx_MQ below (va_Qi (fun (r : Int32) (u : va_W) => (TT.1 = 0 ∧ r = TT.2 ∧ (u = (wW_k_X10_commonest ty X hn kn on cu pu gw su oa ob an ch cg fb mh ml ih lb ic nn kp se)))) (wq_B D A) A) (vx_X (fun u : String × va_W => (TT.1 = 3 ∧ u = ("java/lang/IllegalStateException", (wW_k_X10_commonest ty X hn kn on cu pu gw su oa ob an ch cg fb mh ml ih lb ic nn kp se))) ∨ (TT.1 = 5 ∧ u = ("java/util/NoSuchElementException", (wW_k_X10_commonest ty X hn kn on cu pu gw su oa ob an ch cg fb mh ml ih lb ic nn kp se)))) (wq_BX D A) A) ([.ref (X 0)] : List Value).toArray s 2 12 A) (F0 m 24 ls []) := by
      intro _ hT  H locs hP hD hS ls hl
      rw [m_k_X10_commonest_24] at hT
      obtain ⟨sa, hsa⟩ := hE.st 343 "no open atom or no answer" (by decide +kernel)
      exact vx_throwSW (own := RX10) (cls := "java/util/NoSuchElementException") (text := "no open atom or no answer") (names := ["java/lang/RuntimeException", "java/lang/Exception"]) (ik := 333) (is := 343) (ic := 337) (sa := sa) (A := A) hx hb hl9 hown (by decide +kernel) (by decide +kernel) (hts (.classLink RX10 333 "java/util/NoSuchElementException") (by decide +kernel)) (hts (.initialized "java/util/NoSuchElementException") (by decide +kernel)) hsa (wq_hat hE hts ix_k_X10_commonest_337 (by decide +kernel) (by decide +kernel)) (by decide +kernel) hE.zu hE.zs hS (hl.1.trans hml.symm) dX10_commonest_24 dX10_commonest_27 dX10_commonest_28 dX10_commonest_31 dX10_commonest_34 (fun x hx => (hEx x hx).elim) (Nat.le_of_ble_eq_true rfl) (Nat.le_of_ble_eq_true rfl) (Nat.le_of_ble_eq_true rfl) (Nat.le_of_ble_eq_true rfl) hlocks (fun t ha hz hk => wq_thrW (W := (wW_k_X10_commonest ty X hn kn on cu pu gw su oa ob an ch cg fb mh ml ih lb ic nn kp se)) hS hP hD (by exact (Or.inr ⟨(by rw [hT]), (by first | rw [hT] | rfl)⟩)) hz hk) hS.2.2 (Nat.le_of_ble_eq_true rfl) (Nat.le_of_ble_eq_true rfl)
    refine lv_if_le (tgt := 24) hx hb dX10_commonest_11 (by decide) (fun c_4 => ?_) (fun c_4 => ?_)
    · rw [if_pos c_4] at hT
      exact J_24 () hT _ _ hP hD hS _ (lv_sub hl [] rfl)
    · rw [if_neg c_4] at hT
      refine lv_aload_n hx hb dX10_commonest_14 rfl (lv_at hl 0 rfl) ?_
      refine va_get (D := D) (ci := 12) (v := .ref (X 45)) (C := RX10) (T := TX10) (N := 7) hx hb hts iv_k_X10_commonest_X10 hown hK hP 0 rfl rfl 6 (by decide) (hts (.fieldLink RX10 56 "AnswerFold" "answers" "LAnswerFold$Answers;") (by decide +kernel)) (fun _ h9 => h9) rfl dX10_commonest_15 ?_
      refine va_getN (D := D) (ci := 2) (v := .int nn) (C := RX0) (T := TX0) (N := 4) hx hb hts iv_k_X10_commonest_X0 hown hK hP 7 rfl rfl 2 (by decide) (hE.at (.fieldLinkNest "AnswerFold" 280 "AnswerFold$Answers" "count" "I" "AnswerFold") (by decide +kernel)) (fun _ h9 => h9) rfl dX10_commonest_18 ?_
      refine lv_if_gt (tgt := 35) hx hb dX10_commonest_21 (by decide) (fun c_5 => ?_) (fun c_5 => ?_)
      · rw [if_pos c_5] at hT
        refine lv_iconst (v := (-1)) hx hb dX10_commonest_35 (by decide) ?_
        refine lv_istore_n (lv' := [(1, .int (-1)), (0, .ref (X 0))]) hx hb dX10_commonest_36 rfl hl (by decide) rfl (fun ls hl => ?_)
        refine lv_iconst (v := 0) hx hb dX10_commonest_37 (by decide) ?_
        refine lv_istore_n (lv' := [(2, .int 0), (1, .int (-1)), (0, .ref (X 0))]) hx hb dX10_commonest_38 rfl hl (by decide) rfl (fun ls hl => ?_)
        refine lv_iconst (v := 0) hx hb dX10_commonest_39 (by decide) ?_
        refine lv_istore_n (lv' := [(3, .int 0), (2, .int 0), (1, .int (-1)), (0, .ref (X 0))]) hx hb dX10_commonest_40 rfl hl (by decide) rfl (fun ls hl => ?_)
        have L_41 : ∀ (n_41 : Nat) (v1_41 : Int32) (v2_41 : Int32) (v3_41 : Int32), (2147483648 - v3_41.toInt).toNat < n_41 → TT = m_k_X10_commonest_41 on su oa ob nn se n_41 v1_41 v2_41 v3_41 → 0 ≤ v3_41.toInt → ∀ (H : Heap) (locs : List Loc), va_P D vwCl (wW_k_X10_commonest ty X hn kn on cu pu gw su oa ob an ch cg fb mh ml ih lb ic nn kp se) H → va_D A (wW_k_X10_commonest ty X hn kn on cu pu gw su oa ob an ch cg fb mh ml ih lb ic nn kp se) → va_S A s.heap H locs → ∀ ls : Array Slot, lv_has ls 5 [(0, .ref (X 0)), (1, .int v1_41), (2, .int v2_41), (3, .int v3_41)] → W p l e (headSpec vs_k_X10_commonest { frames := 7, cells := 2, slots := 12, locals := 102 }).room s m ([.ref (X 0)] : List Value).toArray below meth c H locs 1 6 (vx_MQ below (va_Qi (fun (r : Int32) (u : va_W) => (TT.1 = 0 ∧ r = TT.2 ∧ (u = (wW_k_X10_commonest ty X hn kn on cu pu gw su oa ob an ch cg fb mh ml ih lb ic nn kp se)))) (wq_B D A) A) (vx_X (fun u : String × va_W => (TT.1 = 3 ∧ u = ("java/lang/IllegalStateException", (wW_k_X10_commonest ty X hn kn on cu pu gw su oa ob an ch cg fb mh ml ih lb ic nn kp se))) ∨ (TT.1 = 5 ∧ u = ("java/util/NoSuchElementException", (wW_k_X10_commonest ty X hn kn on cu pu gw su oa ob an ch cg fb mh ml ih lb ic nn kp se)))) (wq_BX D A) A) ([.ref (X 0)] : List Value).toArray s 2 12 A) (F0 m 41 ls []) := by
          intro n_41
          induction n_41 with
          | zero => intro v1_41 v2_41 v3_41 hu; exact absurd hu (Nat.not_lt_zero _)
          | succ n_41 ih_41 =>
            intro v1_41 v2_41 v3_41 hu_41 hT hn_41 H locs hP hD hS ls hl
            rw [m_k_X10_commonest_41_succ, m_k_X10_commonest_41s] at hT
            refine lv_iload_n hx hb dX10_commonest_41 rfl (lv_at hl 3 rfl) ?_
            refine lv_aload_n hx hb dX10_commonest_42 rfl (lv_at hl 0 rfl) ?_
            refine va_get (D := D) (ci := 12) (v := .ref (X 8)) (C := RX10) (T := TX10) (N := 7) hx hb hts iv_k_X10_commonest_X10 hown hK hP 0 rfl rfl 1 (by decide) (hts (.fieldLink RX10 21 "AnswerFold" "grounding" "LAnswerFold$Grounding;") (by decide +kernel)) (fun _ h9 => h9) rfl dX10_commonest_43 ?_
            refine va_getN (D := D) (ci := 5) (v := .int on) (C := RX3) (T := TX3) (N := 16) hx hb hts iv_k_X10_commonest_X3 hown hK hP 1 rfl rfl 12 (by decide) (hE.at (.fieldLinkNest "AnswerFold" 263 "AnswerFold$Grounding" "openCount" "I" "AnswerFold") (by decide +kernel)) (fun _ h9 => h9) rfl dX10_commonest_46 ?_
            refine lv_icmp_ge (tgt := 90) hx hb dX10_commonest_49 (by decide) (fun c_6 => ?_) (fun c_6 => ?_)
            · rw [if_pos c_6] at hT
              refine lv_bipush (v := 100) hx hb dX10_commonest_90 (by decide) ?_
              refine lv_iload_n hx hb dX10_commonest_92 rfl (lv_at hl 2 rfl) ?_
              refine lv_bipush (v := 64) hx hb dX10_commonest_93 (by decide) ?_
              refine lv_idiv hx hb dX10_commonest_95 (by decide) ?_
              refine lv_imul hx hb dX10_commonest_96 ?_
              refine lv_bipush (v := 10) hx hb dX10_commonest_97 (by decide) ?_
              refine lv_iload_n hx hb dX10_commonest_99 rfl (lv_at hl 2 rfl) ?_
              refine lv_bipush (v := 64) hx hb dX10_commonest_100 (by decide) ?_
              refine lv_irem hx hb dX10_commonest_102 (by decide) ?_
              refine lv_bipush (v := 8) hx hb dX10_commonest_103 (by decide) ?_
              refine lv_idiv hx hb dX10_commonest_105 (by decide) ?_
              refine lv_imul hx hb dX10_commonest_106 ?_
              refine lv_iadd hx hb dX10_commonest_107 ?_
              refine lv_iload_n hx hb dX10_commonest_108 rfl (lv_at hl 2 rfl) ?_
              refine lv_bipush (v := 8) hx hb dX10_commonest_109 (by decide) ?_
              refine lv_irem hx hb dX10_commonest_111 (by decide) ?_
              refine lv_iadd hx hb dX10_commonest_112 ?_
              refine W.widen (k := 2) (n := 12) (Nat.le_of_ble_eq_true rfl) (Nat.le_of_ble_eq_true rfl) ?_
              exact END (((100 * (v2_41 / 64)) + (10 * ((v2_41 - v2_41 / 64 * 64) / 8))) + (v2_41 - v2_41 / 8 * 8)) hT _ _ hP hD hS _ _ dX10_commonest_113
            · rw [if_neg c_6] at hT
              refine lv_aload_n hx hb dX10_commonest_52 rfl (lv_at hl 0 rfl) ?_
              refine lv_aload_n hx hb dX10_commonest_53 rfl (lv_at hl 0 rfl) ?_
              refine va_get (D := D) (ci := 12) (v := .ref (X 8)) (C := RX10) (T := TX10) (N := 7) hx hb hts iv_k_X10_commonest_X10 hown hK hP 0 rfl rfl 1 (by decide) (hts (.fieldLink RX10 21 "AnswerFold" "grounding" "LAnswerFold$Grounding;") (by decide +kernel)) (fun _ h9 => h9) rfl dX10_commonest_54 ?_
              refine lv_iload_n hx hb dX10_commonest_57 rfl (lv_at hl 3 rfl) ?_
              obtain ⟨t_58, ht_58⟩ : ∃ t, t = m_k_X3_openAtomAt oa v3_41 := ⟨_, rfl⟩
              rw [lE_eq ht_58] at hT
              refine wq_iW (wc := (wW_k_X3_openAtomAt ty X hn kn on cu pu gw oa)) (va_runV (As := [.int v3_41]) (rest := [.ref (X 0)]) ⟨hx, hb, hml, hown, hts⟩ (k_X3_openAtomAt l D ty td mi H.size X hn kn on cu pu gw oa v3_41 t_58 ht_58) (cwV 1 hts gv_k_X10_commonest_1 rfl rfl rfl (by decide +kernel) ⟨(Nat.le_of_ble_eq_true rfl), (Nat.le_of_ble_eq_true rfl)⟩) (wm_V (wm_preS hP hD hK hE hS hA [false, true, false, false, true] rfl) (va_recv (q0 := 1) (ci := 5) hK hP rfl rfl)) rfl rfl hl.1 rfl (lv_room (Nat.le_of_ble_eq_true rfl)) dX10_commonest_58 ⟨(Nat.le_of_ble_eq_true rfl), (Nat.le_of_ble_eq_true rfl)⟩) hS hA hP hD [false, true, false, false, true] rfl (fun _ _ h => by rcases h with ⟨-, rfl⟩; rfl) (fun r u H locs hw hP hD hS => ?_)
              obtain ⟨hr0, rfl⟩ := hw
              subst r
              have hP : va_P D vwCl (wW_k_X10_commonest ty X hn kn on cu pu gw su oa ob an ch cg fb mh ml ih lb ic nn kp se) H := hP
              have hD : va_D A (wW_k_X10_commonest ty X hn kn on cu pu gw su oa ob an ch cg fb mh ml ih lb ic nn kp se) := hD
              refine W.widen (k := 1) (n := 6) (Nat.le_of_ble_eq_true rfl) (Nat.le_of_ble_eq_true rfl) ?_
              obtain ⟨t_61, ht_61⟩ : ∃ t, t = m_k_X10_answersWith on su ob nn se t_58 := ⟨_, rfl⟩
              rw [lE_eq ht_61] at hT
              refine wq_iW (wc := (wW_k_X10_answersWith ty X hn kn on cu pu gw su ob an ch cg fb mh ml ih lb ic nn kp se)) (va_runV (As := [.int t_58]) (rest := []) ⟨hx, hb, hml, hown, hts⟩ (k_X10_answersWith l D ty td mi H.size X hn kn on cu pu gw su ob an ch cg fb mh ml ih lb ic nn kp se t_58 t_61 ht_61) (cwV 1 hts gv_k_X10_commonest_2 rfl rfl rfl (by decide +kernel) ⟨(Nat.le_of_ble_eq_true rfl), (Nat.le_of_ble_eq_true rfl)⟩) (wm_V (wm_preS hP hD hK hE hS hA [true, true, true, true, false, true, true, true, true] rfl) (va_recv (q0 := 0) (ci := 12) hK hP rfl rfl)) rfl rfl hl.1 rfl (lv_room (Nat.le_of_ble_eq_true rfl)) dX10_commonest_61 ⟨(Nat.le_of_ble_eq_true rfl), (Nat.le_of_ble_eq_true rfl)⟩) hS hA hP hD [true, true, true, true, false, true, true, true, true] rfl (fun _ _ h => by rcases h with ⟨-, rfl⟩; rfl) (fun r u H locs hw hP hD hS => ?_)
              obtain ⟨hr0, rfl⟩ := hw
              subst r
              have hP : va_P D vwCl (wW_k_X10_commonest ty X hn kn on cu pu gw su oa ob an ch cg fb mh ml ih lb ic nn kp se) H := hP
              have hD : va_D A (wW_k_X10_commonest ty X hn kn on cu pu gw su oa ob an ch cg fb mh ml ih lb ic nn kp se) := hD
              refine W.widen (k := 1) (n := 6) (Nat.le_of_ble_eq_true rfl) (Nat.le_of_ble_eq_true rfl) ?_
              refine lv_istore (lv' := [(4, .int t_61), (0, .ref (X 0)), (1, .int v1_41), (2, .int v2_41), (3, .int v3_41)]) hx hb dX10_commonest_64 hl (by decide) rfl (fun ls hl => ?_)
              refine lv_iload hx hb dX10_commonest_66 (lv_at hl 0 rfl) ?_
              refine lv_iload_n hx hb dX10_commonest_68 rfl (lv_at hl 2 rfl) ?_
              have J_84 : ∀ (v1_84 : Int32) (v2_84 : Int32), TT = m_k_X10_commonest_84 (m_k_X10_commonest_41 on su oa ob nn se n_41) v3_41 v1_84 v2_84 → ∀ (H : Heap) (locs : List Loc), va_P D vwCl (wW_k_X10_commonest ty X hn kn on cu pu gw su oa ob an ch cg fb mh ml ih lb ic nn kp se) H → va_D A (wW_k_X10_commonest ty X hn kn on cu pu gw su oa ob an ch cg fb mh ml ih lb ic nn kp se) → va_S A s.heap H locs → ∀ ls : Array Slot, lv_has ls 5 [(0, .ref (X 0)), (1, .int v1_84), (2, .int v2_84), (3, .int v3_41)] → W p l e (headSpec vs_k_X10_commonest { frames := 7, cells := 2, slots := 12, locals := 102 }).room s m ([.ref (X 0)] : List Value).toArray below meth c H locs 1 6 (vx_MQ below (va_Qi (fun (r : Int32) (u : va_W) => (TT.1 = 0 ∧ r = TT.2 ∧ (u = (wW_k_X10_commonest ty X hn kn on cu pu gw su oa ob an ch cg fb mh ml ih lb ic nn kp se)))) (wq_B D A) A) (vx_X (fun u : String × va_W => (TT.1 = 3 ∧ u = ("java/lang/IllegalStateException", (wW_k_X10_commonest ty X hn kn on cu pu gw su oa ob an ch cg fb mh ml ih lb ic nn kp se))) ∨ (TT.1 = 5 ∧ u = ("java/util/NoSuchElementException", (wW_k_X10_commonest ty X hn kn on cu pu gw su oa ob an ch cg fb mh ml ih lb ic nn kp se)))) (wq_BX D A) A) ([.ref (X 0)] : List Value).toArray s 2 12 A) (F0 m 84 ls []) := by
                intro v1_84 v2_84 hT  H locs hP hD hS ls hl
                rw [m_k_X10_commonest_84] at hT
                refine lv_iinc (v := v3_41 + 1) (lv' := [(3, .int (v3_41 + 1)), (0, .ref (X 0)), (1, .int v1_84), (2, .int v2_84)]) hx hb dX10_commonest_84 hl (k := 3) rfl (by rfl) (by decide) rfl (fun ls hl => ?_)
                refine lv_goto (tgt := 41) hx hb dX10_commonest_87 (by decide) ?_
                exact ih_41 v1_84 v2_84 (v3_41 + 1) (wi_up hu_41 (Int32.not_le.mp c_6)) hT (wi_inc hn_41 (Int32.not_le.mp c_6)) _ _ hP hD hS _ (lv_sub hl [1, 2, 3, 0] rfl)
              refine lv_icmp_le (tgt := 84) hx hb dX10_commonest_69 (by decide) (fun c_11 => ?_) (fun c_11 => ?_)
              · rw [if_pos c_11] at hT
                exact J_84 v1_41 v2_41 hT _ _ hP hD hS _ (lv_sub hl [1, 2, 3, 4] rfl)
              · rw [if_neg c_11] at hT
                refine lv_iload hx hb dX10_commonest_72 (lv_at hl 0 rfl) ?_
                refine lv_istore_n (lv' := [(1, .int t_61), (4, .int t_61), (0, .ref (X 0)), (2, .int v2_41), (3, .int v3_41)]) hx hb dX10_commonest_74 rfl hl (by decide) rfl (fun ls hl => ?_)
                refine lv_aload_n hx hb dX10_commonest_75 rfl (lv_at hl 2 rfl) ?_
                refine va_get (D := D) (ci := 12) (v := .ref (X 8)) (C := RX10) (T := TX10) (N := 7) hx hb hts iv_k_X10_commonest_X10 hown hK hP 0 rfl rfl 1 (by decide) (hts (.fieldLink RX10 21 "AnswerFold" "grounding" "LAnswerFold$Grounding;") (by decide +kernel)) (fun _ h9 => h9) rfl dX10_commonest_76 ?_
                refine lv_iload_n hx hb dX10_commonest_79 rfl (lv_at hl 4 rfl) ?_
                obtain ⟨t_80, ht_80⟩ : ∃ t, t = m_k_X3_openAtomAt oa v3_41 := ⟨_, rfl⟩
                rw [lE_eq ht_80] at hT
                refine wq_iW (wc := (wW_k_X3_openAtomAt ty X hn kn on cu pu gw oa)) (va_runV (As := [.int v3_41]) (rest := []) ⟨hx, hb, hml, hown, hts⟩ (k_X3_openAtomAt l D ty td mi H.size X hn kn on cu pu gw oa v3_41 t_80 ht_80) (cwV 1 hts gv_k_X10_commonest_3 rfl rfl rfl (by decide +kernel) ⟨(Nat.le_of_ble_eq_true rfl), (Nat.le_of_ble_eq_true rfl)⟩) (wm_V (wm_preS hP hD hK hE hS hA [false, true, false, false, true] rfl) (va_recv (q0 := 1) (ci := 5) hK hP rfl rfl)) rfl rfl hl.1 rfl (lv_room (Nat.le_of_ble_eq_true rfl)) dX10_commonest_80 ⟨(Nat.le_of_ble_eq_true rfl), (Nat.le_of_ble_eq_true rfl)⟩) hS hA hP hD [false, true, false, false, true] rfl (fun _ _ h => by rcases h with ⟨-, rfl⟩; rfl) (fun r u H locs hw hP hD hS => ?_)
                obtain ⟨hr0, rfl⟩ := hw
                subst r
                have hP : va_P D vwCl (wW_k_X10_commonest ty X hn kn on cu pu gw su oa ob an ch cg fb mh ml ih lb ic nn kp se) H := hP
                have hD : va_D A (wW_k_X10_commonest ty X hn kn on cu pu gw su oa ob an ch cg fb mh ml ih lb ic nn kp se) := hD
                refine W.widen (k := 1) (n := 6) (Nat.le_of_ble_eq_true rfl) (Nat.le_of_ble_eq_true rfl) ?_
                refine lv_istore_n (lv' := [(2, .int t_80), (1, .int t_61), (4, .int t_61), (0, .ref (X 0)), (3, .int v3_41)]) hx hb dX10_commonest_83 rfl hl (by decide) rfl (fun ls hl => ?_)
                exact J_84 t_61 t_80 hT _ _ hP hD hS _ (lv_sub hl [3, 1, 0, 4] rfl)
        exact L_41 wF (-1) 0 0 (wF_up 0) hT (by decide) _ _ hP hD hS _ (lv_sub hl [3, 2, 1, 0] rfl)
      · rw [if_neg c_5] at hT
        exact J_24 () hT _ _ hP hD hS _ (lv_sub hl [] rfl)
theorem dX4_slotOf_0 : decode cX4_slotOf 0 = .ok (.iload_n 0, 1) := by decide +kernel
theorem dX4_slotOf_1 : decode cX4_slotOf 1 = .ok (.bipush 8, 2) := by decide +kernel
theorem dX4_slotOf_3 : decode cX4_slotOf 3 = .ok (.if_icmp .ge 5, 3) := by decide +kernel
theorem dX4_slotOf_6 : decode cX4_slotOf 6 = .ok (.iconst 0, 1) := by decide +kernel
theorem dX4_slotOf_7 : decode cX4_slotOf 7 = .ok (.ireturn, 1) := by decide +kernel
theorem dX4_slotOf_8 : decode cX4_slotOf 8 = .ok (.iload_n 0, 1) := by decide +kernel
theorem dX4_slotOf_9 : decode cX4_slotOf 9 = .ok (.bipush 40, 2) := by decide +kernel
theorem dX4_slotOf_11 : decode cX4_slotOf 11 = .ok (.if_icmp .lt 7, 3) := by decide +kernel
theorem dX4_slotOf_14 : decode cX4_slotOf 14 = .ok (.iconst 4, 1) := by decide +kernel
theorem dX4_slotOf_15 : decode cX4_slotOf 15 = .ok (.goto 9, 3) := by decide +kernel
theorem dX4_slotOf_18 : decode cX4_slotOf 18 = .ok (.iconst 1, 1) := by decide +kernel
theorem dX4_slotOf_19 : decode cX4_slotOf 19 = .ok (.iload_n 0, 1) := by decide +kernel
theorem dX4_slotOf_20 : decode cX4_slotOf 20 = .ok (.bipush 10, 2) := by decide +kernel
theorem dX4_slotOf_22 : decode cX4_slotOf 22 = .ok (.irem, 1) := by decide +kernel
theorem dX4_slotOf_23 : decode cX4_slotOf 23 = .ok (.iadd, 1) := by decide +kernel
theorem dX4_slotOf_24 : decode cX4_slotOf 24 = .ok (.ireturn, 1) := by decide +kernel
abbrev r_k_X4_slotOf : Type := Int32
def m_k_X4_slotOf (a1 : Int32) : r_k_X4_slotOf :=
  if 8 ≤ a1 then
    if a1 < 40 then
      (1 + (a1 - a1 / 10 * 10))
    else
      4
  else
    0
def vs_k_X4_slotOf : List Cond := .code yX4_slotOf cX4_slotOf 1 (some .int) :: ([])
set_option maxHeartbeats 4000000 in
set_option maxRecDepth 100000 in
theorem k_X4_slotOf (l : Launch) (D : va_G) (ty : Nat → ClassId) (td mi sz : Nat) (a1 : Int32) (TT : r_k_X4_slotOf) (hTT : TT = m_k_X4_slotOf a1) : Met l yX4_slotOf vs_k_X4_slotOf { frames := 0, cells := 0, slots := 0, locals := 0 } (va_Pc [.int a1] (wq_P D ty td mi [] sz)) (va_Qi (fun (r : Int32) (u : va_W) => (r = TT ∧ (u = []))) (wq_B D (va_A [] sz)) (va_A [] sz)) 0 0 (va_A [] sz) := by
  refine Met.ofW (cc := cX4_slotOf) (maxL := 1) (ret := (some .int)) (by decide) rfl ?_
  intro p e s m args below meth c s₁ B hml hv
  obtain ⟨rfl, hsz, hP, hK, hD0, hE⟩ := hv
  have hx := B.exec
  have hb := B.bytes
  have hr := B.returns
  have hts := atoms_spec (ws := vs_k_X4_slotOf) B.pre
  have hown : s.vm.findClass RX4 = some m.cls := findClass_of_methodNamed B.named
  have hlocks := B.notSynchronized
  subst hsz
  have hD := hD0.self (sz := s.heap.size)
  generalize hAe : va_A [] s.heap.size = A at hD hE ⊢
  have hA : ∀ q : Nat, s.heap.size ≤ q → A q := fun q h => by rw [← hAe]; exact Or.inr h
  have hS : va_S A s.heap s.heap [] := va_S.rf
  have hP : va_P D vwCl [] s.heap := hP
  have hl := lv_entry ([.int a1]) (n := 1) (Nat.le_of_ble_eq_true rfl)
  rw [lg_entry_eq]
  generalize (lg_sl ([.int a1]) ++ List.replicate (1 - (lg_sl ([.int a1])).length) Slot.unset).toArray = ls at hl ⊢
  have hl : lv_has ls 1 [(0, .int a1)] := hl
  have END : ∀ (r : Int32), TT = r → ∀ (H : Heap) (locs : List Loc), va_P D vwCl [] H → va_D A [] → va_S A s.heap H locs → ∀ (ls : Array Slot) (pc : Nat), decode cX4_slotOf pc = .ok (.ireturn, 1) → W p l e (headSpec vs_k_X4_slotOf { frames := 0, cells := 0, slots := 0, locals := 0 }).room s m ([.int a1] : List Value).toArray below meth c H locs 0 0 (MQ below (va_Qi (fun (r : Int32) (u : va_W) => (r = TT ∧ (u = []))) (wq_B D A) A) ([.int a1] : List Value).toArray s 0 0 A) (F0 m pc ls [.int r]) := by
    intro r hT H locs hP hD hS ls pc hd
    have hM : TT = r := hT
    exact W.iret (v := r) hx hb hr (fun t ht hW => ⟨⟨r, [], rfl, ⟨(by rw [hM]), rfl⟩, wq_B.of ht hP hD⟩, hS.F ht⟩) hS.2.2 hd
  have hT := hTT
  rw [m_k_X4_slotOf] at hT
  refine lv_iload_n hx hb dX4_slotOf_0 rfl (lv_at hl 0 rfl) ?_
  refine lv_bipush (v := 8) hx hb dX4_slotOf_1 (by decide) ?_
  refine lv_icmp_ge (tgt := 8) hx hb dX4_slotOf_3 (by decide) (fun c_1 => ?_) (fun c_1 => ?_)
  · rw [if_pos c_1] at hT
    refine lv_iload_n hx hb dX4_slotOf_8 rfl (lv_at hl 0 rfl) ?_
    refine lv_bipush (v := 40) hx hb dX4_slotOf_9 (by decide) ?_
    refine lv_icmp_lt (tgt := 18) hx hb dX4_slotOf_11 (by decide) (fun c_2 => ?_) (fun c_2 => ?_)
    · rw [if_pos c_2] at hT
      refine lv_iconst (v := 1) hx hb dX4_slotOf_18 (by decide) ?_
      refine lv_iload_n hx hb dX4_slotOf_19 rfl (lv_at hl 0 rfl) ?_
      refine lv_bipush (v := 10) hx hb dX4_slotOf_20 (by decide) ?_
      refine lv_irem hx hb dX4_slotOf_22 (by decide) ?_
      refine lv_iadd hx hb dX4_slotOf_23 ?_
      exact END (1 + (a1 - a1 / 10 * 10)) hT _ _ hP hD hS _ _ dX4_slotOf_24
    · rw [if_neg c_2] at hT
      refine lv_iconst (v := 4) hx hb dX4_slotOf_14 (by decide) ?_
      refine lv_goto (tgt := 24) hx hb dX4_slotOf_15 (by decide) ?_
      exact END 4 hT _ _ hP hD hS _ _ dX4_slotOf_24
  · rw [if_neg c_1] at hT
    refine lv_iconst (v := 0) hx hb dX4_slotOf_6 (by decide) ?_
    exact END 0 hT _ _ hP hD hS _ _ dX4_slotOf_7
theorem dX4_shiftOf_0 : decode cX4_shiftOf 0 = .ok (.iload_n 0, 1) := by decide +kernel
theorem dX4_shiftOf_1 : decode cX4_shiftOf 1 = .ok (.bipush 8, 2) := by decide +kernel
theorem dX4_shiftOf_3 : decode cX4_shiftOf 3 = .ok (.if_icmp .ge 5, 3) := by decide +kernel
theorem dX4_shiftOf_6 : decode cX4_shiftOf 6 = .ok (.iload_n 0, 1) := by decide +kernel
theorem dX4_shiftOf_7 : decode cX4_shiftOf 7 = .ok (.ireturn, 1) := by decide +kernel
theorem dX4_shiftOf_8 : decode cX4_shiftOf 8 = .ok (.iload_n 0, 1) := by decide +kernel
theorem dX4_shiftOf_9 : decode cX4_shiftOf 9 = .ok (.bipush 20, 2) := by decide +kernel
theorem dX4_shiftOf_11 : decode cX4_shiftOf 11 = .ok (.if_icmp .lt 11, 3) := by decide +kernel
theorem dX4_shiftOf_14 : decode cX4_shiftOf 14 = .ok (.iload_n 0, 1) := by decide +kernel
theorem dX4_shiftOf_15 : decode cX4_shiftOf 15 = .ok (.bipush 30, 2) := by decide +kernel
theorem dX4_shiftOf_17 : decode cX4_shiftOf 17 = .ok (.if_icmp .ge 5, 3) := by decide +kernel
theorem dX4_shiftOf_20 : decode cX4_shiftOf 20 = .ok (.iconst 1, 1) := by decide +kernel
theorem dX4_shiftOf_21 : decode cX4_shiftOf 21 = .ok (.ireturn, 1) := by decide +kernel
theorem dX4_shiftOf_22 : decode cX4_shiftOf 22 = .ok (.iload_n 0, 1) := by decide +kernel
theorem dX4_shiftOf_23 : decode cX4_shiftOf 23 = .ok (.bipush 30, 2) := by decide +kernel
theorem dX4_shiftOf_25 : decode cX4_shiftOf 25 = .ok (.if_icmp .lt 13, 3) := by decide +kernel
theorem dX4_shiftOf_28 : decode cX4_shiftOf 28 = .ok (.iload_n 0, 1) := by decide +kernel
theorem dX4_shiftOf_29 : decode cX4_shiftOf 29 = .ok (.bipush 40, 2) := by decide +kernel
theorem dX4_shiftOf_31 : decode cX4_shiftOf 31 = .ok (.if_icmp .eq 7, 3) := by decide +kernel
theorem dX4_shiftOf_34 : decode cX4_shiftOf 34 = .ok (.iconst (-1), 1) := by decide +kernel
theorem dX4_shiftOf_35 : decode cX4_shiftOf 35 = .ok (.goto 4, 3) := by decide +kernel
theorem dX4_shiftOf_38 : decode cX4_shiftOf 38 = .ok (.iconst 0, 1) := by decide +kernel
theorem dX4_shiftOf_39 : decode cX4_shiftOf 39 = .ok (.ireturn, 1) := by decide +kernel
abbrev r_k_X4_shiftOf : Type := Int32
def m_k_X4_shiftOf_22 (a1 : Int32) : r_k_X4_shiftOf :=
  if a1 < 30 then
    0
  else
    if a1 = 40 then
      0
    else
      (-1)
def m_k_X4_shiftOf (a1 : Int32) : r_k_X4_shiftOf :=
  if 8 ≤ a1 then
    if a1 < 20 then
      m_k_X4_shiftOf_22 a1
    else
      if 30 ≤ a1 then
        m_k_X4_shiftOf_22 a1
      else
        1
  else
    a1
def vs_k_X4_shiftOf : List Cond := .code yX4_shiftOf cX4_shiftOf 1 (some .int) :: ([])
set_option maxHeartbeats 4000000 in
set_option maxRecDepth 100000 in
theorem k_X4_shiftOf (l : Launch) (D : va_G) (ty : Nat → ClassId) (td mi sz : Nat) (a1 : Int32) (TT : r_k_X4_shiftOf) (hTT : TT = m_k_X4_shiftOf a1) : Met l yX4_shiftOf vs_k_X4_shiftOf { frames := 0, cells := 0, slots := 0, locals := 0 } (va_Pc [.int a1] (wq_P D ty td mi [] sz)) (va_Qi (fun (r : Int32) (u : va_W) => (r = TT ∧ (u = []))) (wq_B D (va_A [] sz)) (va_A [] sz)) 0 0 (va_A [] sz) := by
  refine Met.ofW (cc := cX4_shiftOf) (maxL := 1) (ret := (some .int)) (by decide) rfl ?_
  intro p e s m args below meth c s₁ B hml hv
  obtain ⟨rfl, hsz, hP, hK, hD0, hE⟩ := hv
  have hx := B.exec
  have hb := B.bytes
  have hr := B.returns
  have hts := atoms_spec (ws := vs_k_X4_shiftOf) B.pre
  have hown : s.vm.findClass RX4 = some m.cls := findClass_of_methodNamed B.named
  have hlocks := B.notSynchronized
  subst hsz
  have hD := hD0.self (sz := s.heap.size)
  generalize hAe : va_A [] s.heap.size = A at hD hE ⊢
  have hA : ∀ q : Nat, s.heap.size ≤ q → A q := fun q h => by rw [← hAe]; exact Or.inr h
  have hS : va_S A s.heap s.heap [] := va_S.rf
  have hP : va_P D vwCl [] s.heap := hP
  have hl := lv_entry ([.int a1]) (n := 1) (Nat.le_of_ble_eq_true rfl)
  rw [lg_entry_eq]
  generalize (lg_sl ([.int a1]) ++ List.replicate (1 - (lg_sl ([.int a1])).length) Slot.unset).toArray = ls at hl ⊢
  have hl : lv_has ls 1 [(0, .int a1)] := hl
  have END : ∀ (r : Int32), TT = r → ∀ (H : Heap) (locs : List Loc), va_P D vwCl [] H → va_D A [] → va_S A s.heap H locs → ∀ (ls : Array Slot) (pc : Nat), decode cX4_shiftOf pc = .ok (.ireturn, 1) → W p l e (headSpec vs_k_X4_shiftOf { frames := 0, cells := 0, slots := 0, locals := 0 }).room s m ([.int a1] : List Value).toArray below meth c H locs 0 0 (MQ below (va_Qi (fun (r : Int32) (u : va_W) => (r = TT ∧ (u = []))) (wq_B D A) A) ([.int a1] : List Value).toArray s 0 0 A) (F0 m pc ls [.int r]) := by
    intro r hT H locs hP hD hS ls pc hd
    have hM : TT = r := hT
    exact W.iret (v := r) hx hb hr (fun t ht hW => ⟨⟨r, [], rfl, ⟨(by rw [hM]), rfl⟩, wq_B.of ht hP hD⟩, hS.F ht⟩) hS.2.2 hd
  have hT := hTT
  rw [m_k_X4_shiftOf] at hT
  refine lv_iload_n hx hb dX4_shiftOf_0 rfl (lv_at hl 0 rfl) ?_
  refine lv_bipush (v := 8) hx hb dX4_shiftOf_1 (by decide) ?_
  refine lv_icmp_ge (tgt := 8) hx hb dX4_shiftOf_3 (by decide) (fun c_1 => ?_) (fun c_1 => ?_)
  · rw [if_pos c_1] at hT
    refine lv_iload_n hx hb dX4_shiftOf_8 rfl (lv_at hl 0 rfl) ?_
    refine lv_bipush (v := 20) hx hb dX4_shiftOf_9 (by decide) ?_
    have J_22 : ∀ (_ : Unit), TT = m_k_X4_shiftOf_22 a1 → ∀ (H : Heap) (locs : List Loc), va_P D vwCl [] H → va_D A [] → va_S A s.heap H locs → ∀ ls : Array Slot, lv_has ls 1 [(0, .int a1)] → W p l e (headSpec vs_k_X4_shiftOf { frames := 0, cells := 0, slots := 0, locals := 0 }).room s m ([.int a1] : List Value).toArray below meth c H locs 0 0 (MQ below (va_Qi (fun (r : Int32) (u : va_W) => (r = TT ∧ (u = []))) (wq_B D A) A) ([.int a1] : List Value).toArray s 0 0 A) (F0 m 22 ls []) := by
      intro _ hT  H locs hP hD hS ls hl
      rw [m_k_X4_shiftOf_22] at hT
      refine lv_iload_n hx hb dX4_shiftOf_22 rfl (lv_at hl 0 rfl) ?_
      refine lv_bipush (v := 30) hx hb dX4_shiftOf_23 (by decide) ?_
      refine lv_icmp_lt (tgt := 38) hx hb dX4_shiftOf_25 (by decide) (fun c_2 => ?_) (fun c_2 => ?_)
      · rw [if_pos c_2] at hT
        refine lv_iconst (v := 0) hx hb dX4_shiftOf_38 (by decide) ?_
        exact END 0 hT _ _ hP hD hS _ _ dX4_shiftOf_39
      · rw [if_neg c_2] at hT
        refine lv_iload_n hx hb dX4_shiftOf_28 rfl (lv_at hl 0 rfl) ?_
        refine lv_bipush (v := 40) hx hb dX4_shiftOf_29 (by decide) ?_
        refine lv_icmp_eq (tgt := 38) hx hb dX4_shiftOf_31 (by decide) (fun c_3 => ?_) (fun c_3 => ?_)
        · rw [if_pos c_3] at hT
          refine lv_iconst (v := 0) hx hb dX4_shiftOf_38 (by decide) ?_
          exact END 0 hT _ _ hP hD hS _ _ dX4_shiftOf_39
        · rw [if_neg c_3] at hT
          refine lv_iconst (v := (-1)) hx hb dX4_shiftOf_34 (by decide) ?_
          refine lv_goto (tgt := 39) hx hb dX4_shiftOf_35 (by decide) ?_
          exact END (-1) hT _ _ hP hD hS _ _ dX4_shiftOf_39
    refine lv_icmp_lt (tgt := 22) hx hb dX4_shiftOf_11 (by decide) (fun c_4 => ?_) (fun c_4 => ?_)
    · rw [if_pos c_4] at hT
      exact J_22 () hT _ _ hP hD hS _ (lv_sub hl [0] rfl)
    · rw [if_neg c_4] at hT
      refine lv_iload_n hx hb dX4_shiftOf_14 rfl (lv_at hl 0 rfl) ?_
      refine lv_bipush (v := 30) hx hb dX4_shiftOf_15 (by decide) ?_
      refine lv_icmp_ge (tgt := 22) hx hb dX4_shiftOf_17 (by decide) (fun c_5 => ?_) (fun c_5 => ?_)
      · rw [if_pos c_5] at hT
        exact J_22 () hT _ _ hP hD hS _ (lv_sub hl [0] rfl)
      · rw [if_neg c_5] at hT
        refine lv_iconst (v := 1) hx hb dX4_shiftOf_20 (by decide) ?_
        exact END 1 hT _ _ hP hD hS _ _ dX4_shiftOf_21
  · rw [if_neg c_1] at hT
    refine lv_iload_n hx hb dX4_shiftOf_6 rfl (lv_at hl 0 rfl) ?_
    exact END a1 hT _ _ hP hD hS _ _ dX4_shiftOf_7
theorem dX4_init_0 : decode cX4_init 0 = .ok (.aload_n 0, 1) := by decide +kernel
theorem dX4_init_1 : decode cX4_init 1 = .ok (.invokespecial 3, 3) := by decide +kernel
theorem dX4_init_4 : decode cX4_init 4 = .ok (.aload_n 0, 1) := by decide +kernel
theorem dX4_init_5 : decode cX4_init 5 = .ok (.iload_n 1, 1) := by decide +kernel
theorem dX4_init_6 : decode cX4_init 6 = .ok (.putfield 9, 3) := by decide +kernel
theorem dX4_init_9 : decode cX4_init 9 = .ok (.aload_n 0, 1) := by decide +kernel
theorem dX4_init_10 : decode cX4_init 10 = .ok (.iload_n 2, 1) := by decide +kernel
theorem dX4_init_11 : decode cX4_init 11 = .ok (.putfield 15, 3) := by decide +kernel
theorem dX4_init_14 : decode cX4_init 14 = .ok (.aload_n 0, 1) := by decide +kernel
theorem dX4_init_15 : decode cX4_init 15 = .ok (.iload_n 3, 1) := by decide +kernel
theorem dX4_init_16 : decode cX4_init 16 = .ok (.putfield 19, 3) := by decide +kernel
theorem dX4_init_19 : decode cX4_init 19 = .ok (.aload_n 0, 1) := by decide +kernel
theorem dX4_init_20 : decode cX4_init 20 = .ok (.iload 4, 2) := by decide +kernel
theorem dX4_init_22 : decode cX4_init 22 = .ok (.invokestatic 22, 3) := by decide +kernel
theorem dX4_init_25 : decode cX4_init 25 = .ok (.putfield 26, 3) := by decide +kernel
theorem dX4_init_28 : decode cX4_init 28 = .ok (.aload_n 0, 1) := by decide +kernel
theorem dX4_init_29 : decode cX4_init 29 = .ok (.iload 4, 2) := by decide +kernel
theorem dX4_init_31 : decode cX4_init 31 = .ok (.invokestatic 29, 3) := by decide +kernel
theorem dX4_init_34 : decode cX4_init 34 = .ok (.putfield 32, 3) := by decide +kernel
theorem dX4_init_37 : decode cX4_init 37 = .ok (.aload_n 0, 1) := by decide +kernel
theorem dX4_init_38 : decode cX4_init 38 = .ok (.iload 5, 2) := by decide +kernel
theorem dX4_init_40 : decode cX4_init 40 = .ok (.invokestatic 22, 3) := by decide +kernel
theorem dX4_init_43 : decode cX4_init 43 = .ok (.putfield 35, 3) := by decide +kernel
theorem dX4_init_46 : decode cX4_init 46 = .ok (.aload_n 0, 1) := by decide +kernel
theorem dX4_init_47 : decode cX4_init 47 = .ok (.iload 5, 2) := by decide +kernel
theorem dX4_init_49 : decode cX4_init 49 = .ok (.invokestatic 29, 3) := by decide +kernel
theorem dX4_init_52 : decode cX4_init 52 = .ok (.putfield 38, 3) := by decide +kernel
theorem dX4_init_55 : decode cX4_init 55 = .ok (.aload_n 0, 1) := by decide +kernel
theorem dX4_init_56 : decode cX4_init 56 = .ok (.aload_n 0, 1) := by decide +kernel
theorem dX4_init_57 : decode cX4_init 57 = .ok (.getfield 26, 3) := by decide +kernel
theorem dX4_init_60 : decode cX4_init 60 = .ok (.iconst 4, 1) := by decide +kernel
theorem dX4_init_61 : decode cX4_init 61 = .ok (.if_icmp .ne 7, 3) := by decide +kernel
theorem dX4_init_64 : decode cX4_init 64 = .ok (.iconst 0, 1) := by decide +kernel
theorem dX4_init_65 : decode cX4_init 65 = .ok (.goto 7, 3) := by decide +kernel
theorem dX4_init_68 : decode cX4_init 68 = .ok (.aload_n 0, 1) := by decide +kernel
theorem dX4_init_69 : decode cX4_init 69 = .ok (.getfield 26, 3) := by decide +kernel
theorem dX4_init_72 : decode cX4_init 72 = .ok (.aload_n 0, 1) := by decide +kernel
theorem dX4_init_73 : decode cX4_init 73 = .ok (.getfield 35, 3) := by decide +kernel
theorem dX4_init_76 : decode cX4_init 76 = .ok (.iconst 4, 1) := by decide +kernel
theorem dX4_init_77 : decode cX4_init 77 = .ok (.if_icmp .ne 7, 3) := by decide +kernel
theorem dX4_init_80 : decode cX4_init 80 = .ok (.iconst 0, 1) := by decide +kernel
theorem dX4_init_81 : decode cX4_init 81 = .ok (.goto 7, 3) := by decide +kernel
theorem dX4_init_84 : decode cX4_init 84 = .ok (.aload_n 0, 1) := by decide +kernel
theorem dX4_init_85 : decode cX4_init 85 = .ok (.getfield 35, 3) := by decide +kernel
theorem dX4_init_88 : decode cX4_init 88 = .ok (.invokestatic 41, 3) := by decide +kernel
theorem dX4_init_91 : decode cX4_init 91 = .ok (.putfield 47, 3) := by decide +kernel
theorem dX4_init_94 : decode cX4_init 94 = .ok (.return_, 1) := by decide +kernel
def wW_k_X4_init (ty : Nat → ClassId) (h0 : Nat) (z9_0 : Int32) (z9_1 : Int32) (z9_2 : Int32) (z9_3 : Int32) (z9_4 : Int32) (z9_5 : Int32) (z9_6 : Int32) (z9_7 : Int32) : va_W := [(h0, .inr (6, [.int z9_0, .int z9_1, .int z9_2, .int z9_3, .int z9_4, .int z9_5, .int z9_6, .int z9_7]))]
abbrev r_k_X4_init : Type := Int32 × Int32 × Int32 × Int32 × Int32 × Int32 × Int32 × Int32
def m_k_X4_init_88 (a1 : Int32) (a2 : Int32) (a3 : Int32) (s0_72 : Int32) (t_22 : r_k_X4_slotOf) (t_31 : r_k_X4_shiftOf) (t_40 : r_k_X4_slotOf) (t_49 : r_k_X4_shiftOf) (s0_88 : Int32) : r_k_X4_init :=
  (a1, a2, a3, t_22, t_31, t_40, t_49, if s0_72 < s0_88 then s0_88 else s0_72)
def m_k_X4_init_72 (a1 : Int32) (a2 : Int32) (a3 : Int32) (t_22 : r_k_X4_slotOf) (t_31 : r_k_X4_shiftOf) (t_40 : r_k_X4_slotOf) (t_49 : r_k_X4_shiftOf) (s0_72 : Int32) : r_k_X4_init :=
  if t_40 = 4 then
    m_k_X4_init_88 a1 a2 a3 s0_72 t_22 t_31 t_40 t_49 0
  else
    m_k_X4_init_88 a1 a2 a3 s0_72 t_22 t_31 t_40 t_49 t_40
def m_k_X4_init (a1 : Int32) (a2 : Int32) (a3 : Int32) (a4 : Int32) (a5 : Int32) : r_k_X4_init :=
  lE (m_k_X4_slotOf a4) (fun t_22 =>
    lE (m_k_X4_shiftOf a4) (fun t_31 =>
      lE (m_k_X4_slotOf a5) (fun t_40 =>
        lE (m_k_X4_shiftOf a5) (fun t_49 =>
          if t_22 = 4 then
            m_k_X4_init_72 a1 a2 a3 t_22 t_31 t_40 t_49 0
          else
            m_k_X4_init_72 a1 a2 a3 t_22 t_31 t_40 t_49 t_22))))
def vs_k_X4_init : List Cond := .code yX4_init cX4_init 6 none :: ([.methodLink RX4 3 objectInit, .instanceMethod objectInit, .code objectInit ⟨#[0xb1]⟩ 1 none, .fieldLink RX4 9 "AnswerFold$Literal" "kind" "C", .fieldLink RX4 15 "AnswerFold$Literal" "predicate" "I", .fieldLink RX4 19 "AnswerFold$Literal" "bound" "I", .methodLink RX4 22 yX4_slotOf, .static yX4_slotOf, .initialized RX4, .fieldLink RX4 26 "AnswerFold$Literal" "firstSlot" "I", .methodLink RX4 29 yX4_shiftOf, .static yX4_shiftOf, .fieldLink RX4 32 "AnswerFold$Literal" "firstShift" "I", .fieldLink RX4 35 "AnswerFold$Literal" "secondSlot" "I", .fieldLink RX4 38 "AnswerFold$Literal" "secondShift" "I", .methodLink RX4 41 Lib.Math.max.name, .static Lib.Math.max.name, .initialized "java/lang/Math", .code Lib.Math.max.name Lib.Math.max.code 2 (some .int), .fieldLink RX4 47 "AnswerFold$Literal" "depth" "I"] ++ (u_ws RX4 TX4 8 ++ (vs_k_X4_slotOf ++ (vs_k_X4_shiftOf))))
theorem iv_k_X4_init_X4 : ∀ w ∈ u_ws RX4 TX4 8, w ∈ vs_k_X4_init := (fun _ h => List.mem_cons_of_mem _ (List.mem_append_right _ (List.mem_append_left _ h)))
set_option maxRecDepth 20000 in
theorem gv_k_X4_init_0 : GoodIn vs_k_X4_init (va_wsS RX4 22 yX4_slotOf vs_k_X4_slotOf) := goodIn_app (goodIn_sub (by decide +kernel) (by decide +kernel)) (goodIn_sub (fun _ h => List.mem_cons_of_mem _ (List.mem_append_right _ (List.mem_append_right _ (List.mem_append_left _ h)))) (by decide +kernel))
set_option maxRecDepth 20000 in
theorem gv_k_X4_init_1 : GoodIn vs_k_X4_init (va_wsS RX4 29 yX4_shiftOf vs_k_X4_shiftOf) := goodIn_app (goodIn_sub (by decide +kernel) (by decide +kernel)) (goodIn_sub (fun _ h => List.mem_cons_of_mem _ (List.mem_append_right _ (List.mem_append_right _ (List.mem_append_right _ (h))))) (by decide +kernel))
set_option maxRecDepth 20000 in
theorem gv_k_X4_init_2 : GoodIn vs_k_X4_init (va_wsS RX4 22 yX4_slotOf vs_k_X4_slotOf) := goodIn_app (goodIn_sub (by decide +kernel) (by decide +kernel)) (goodIn_sub (fun _ h => List.mem_cons_of_mem _ (List.mem_append_right _ (List.mem_append_right _ (List.mem_append_left _ h)))) (by decide +kernel))
set_option maxRecDepth 20000 in
theorem gv_k_X4_init_3 : GoodIn vs_k_X4_init (va_wsS RX4 29 yX4_shiftOf vs_k_X4_shiftOf) := goodIn_app (goodIn_sub (by decide +kernel) (by decide +kernel)) (goodIn_sub (fun _ h => List.mem_cons_of_mem _ (List.mem_append_right _ (List.mem_append_right _ (List.mem_append_right _ (h))))) (by decide +kernel))
set_option maxHeartbeats 4000000 in
set_option maxRecDepth 100000 in
theorem k_X4_init (l : Launch) (D : va_G) (ty : Nat → ClassId) (td mi sz : Nat) (h0 : Nat) (a1 : Int32) (a2 : Int32) (a3 : Int32) (a4 : Int32) (a5 : Int32) (hcv_a1 : narrow .char (.int a1) = .int a1 ∧ fits .char (.int a1) = true) (TT : r_k_X4_init) (hTT : TT = m_k_X4_init a1 a2 a3 a4 a5) : Met l yX4_init vs_k_X4_init { frames := 1, cells := 0, slots := 0, locals := 20 } (va_Pc [.ref h0, .int a1, .int a2, .int a3, .int a4, .int a5] (wq_P D ty td mi (wW_k_X4_init ty h0 (0) (0) (0) (0) (0) (0) (0) (0)) sz)) (va_Qv (fun u : va_W => ((u = (wW_k_X4_init ty h0 TT.1 TT.2.1 TT.2.2.1 TT.2.2.2.1 TT.2.2.2.2.1 TT.2.2.2.2.2.1 TT.2.2.2.2.2.2.1 TT.2.2.2.2.2.2.2)))) (wq_B D (va_A (wW_k_X4_init ty h0 (0) (0) (0) (0) (0) (0) (0) (0)) sz)) (va_A (wW_k_X4_init ty h0 (0) (0) (0) (0) (0) (0) (0) (0)) sz)) 0 0 (va_A (wW_k_X4_init ty h0 (0) (0) (0) (0) (0) (0) (0) (0)) sz) := by
  refine Met.ofW (cc := cX4_init) (maxL := 6) (ret := none) (by decide) rfl ?_
  intro p e s m args below meth c s₁ B hml hv
  obtain ⟨rfl, hsz, hP, hK, hD0, hE⟩ := hv
  have hx := B.exec
  have hb := B.bytes
  have hr := B.returns
  have hts := atoms_spec (ws := vs_k_X4_init) B.pre
  have hown : s.vm.findClass RX4 = some m.cls := findClass_of_methodNamed B.named
  have hlocks := B.notSynchronized
  have hin : meth.name = "<init>" := (name_of_methodNamed B.named B.method).1
  subst hsz
  have hD := hD0.self (sz := s.heap.size)
  generalize hAe : va_A (wW_k_X4_init ty h0 (0) (0) (0) (0) (0) (0) (0) (0)) s.heap.size = A at hD hE ⊢
  have hA : ∀ q : Nat, s.heap.size ≤ q → A q := fun q h => by rw [← hAe]; exact Or.inr h
  have hS : va_S A s.heap s.heap [] := va_S.rf
  have hP : va_P D vwCl (wW_k_X4_init ty h0 (0) (0) (0) (0) (0) (0) (0) (0)) s.heap := hP
  have hl := lv_entry ([.ref h0, .int a1, .int a2, .int a3, .int a4, .int a5]) (n := 6) (Nat.le_of_ble_eq_true rfl)
  rw [lg_entry_eq]
  generalize (lg_sl ([.ref h0, .int a1, .int a2, .int a3, .int a4, .int a5]) ++ List.replicate (6 - (lg_sl ([.ref h0, .int a1, .int a2, .int a3, .int a4, .int a5])).length) Slot.unset).toArray = ls at hl ⊢
  have hl : lv_has ls 6 [(0, .ref h0), (1, .int a1), (2, .int a2), (3, .int a3), (4, .int a4), (5, .int a5)] := hl
  have END : ∀ (e0 : Int32) (e1 : Int32) (e2 : Int32) (e3 : Int32) (e4 : Int32) (e5 : Int32) (e6 : Int32) (e7 : Int32), TT = (e0, e1, e2, e3, e4, e5, e6, e7) → ∀ (H : Heap) (locs : List Loc), va_P D vwCl (wW_k_X4_init ty h0 e0 e1 e2 e3 e4 e5 e6 e7) H → va_D A (wW_k_X4_init ty h0 e0 e1 e2 e3 e4 e5 e6 e7) → va_S A s.heap H locs → ∀ (ls : Array Slot) (pc : Nat), decode cX4_init pc = .ok (.return_, 1) → W p l e (headSpec vs_k_X4_init { frames := 1, cells := 0, slots := 0, locals := 20 }).room s m ([.ref h0, .int a1, .int a2, .int a3, .int a4, .int a5] : List Value).toArray below meth c H locs 0 0 (MQ below (va_Qv (fun u : va_W => ((u = (wW_k_X4_init ty h0 TT.1 TT.2.1 TT.2.2.1 TT.2.2.2.1 TT.2.2.2.2.1 TT.2.2.2.2.2.1 TT.2.2.2.2.2.2.1 TT.2.2.2.2.2.2.2)))) (wq_B D A) A) ([.ref h0, .int a1, .int a2, .int a3, .int a4, .int a5] : List Value).toArray s 0 0 A) (F0 m pc ls []) := by
    intro e0 e1 e2 e3 e4 e5 e6 e7 hT H locs hP hD hS ls pc hd
    have hM : TT = (e0, e1, e2, e3, e4, e5, e6, e7) := hT
    exact W.vret hx hb hr (fun t ht hW => ⟨⟨(wW_k_X4_init ty h0 e0 e1 e2 e3 e4 e5 e6 e7), rfl, (by rw [hM]), wq_B.of ht hP hD⟩, hS.F ht⟩) hS.2.2 hd
  have hT := hTT
  rw [m_k_X4_init] at hT
  refine lv_aload_n hx hb dX4_init_0 rfl (lv_at hl 0 rfl) ?_
  refine W.objInit hx hb hown (hts (.methodLink RX4 3 objectInit) (by decide +kernel)) (hts (.instanceMethod objectInit) (by decide +kernel)) (hts (.code objectInit ⟨#[0xb1]⟩ 1 none) (by decide +kernel)) rfl (by rw [hml]; exact hl.1) rfl dX4_init_1 (Nat.le_of_ble_eq_true rfl) (Nat.le_of_ble_eq_true rfl) ?_
  refine W.eq (g2 := F0 m 4 ls []) rfl ?_
  refine lv_aload_n hx hb dX4_init_4 rfl (lv_at hl 0 rfl) ?_
  refine lv_iload_n hx hb dX4_init_5 rfl (lv_at hl 1 rfl) ?_
  refine va_putF (D := D) (ci := 6) (v := .int a1) (ty := tyX4 0) (C := RX4) (T := TX4) (N := 8) hx hb hts iv_k_X4_init_X4 tyX4 tyX4_ok nmX4 hown hK hP hD hS 0 rfl rfl 0 (by decide) (hts (.fieldLink RX4 9 "AnswerFold$Literal" "kind" "C") (by decide +kernel)) (fun _ h9 => h9) rfl hin rfl (by decide +kernel) hcv_a1.1 hcv_a1.2 (Nat.le_of_ble_eq_true rfl) dX4_init_6 (fun H locs hP hD hS => ?_)
  have hP : va_P D vwCl (wW_k_X4_init ty h0 a1 (0) (0) (0) (0) (0) (0) (0)) H := hP
  have hD : va_D A (wW_k_X4_init ty h0 a1 (0) (0) (0) (0) (0) (0) (0)) := hD
  refine lv_aload_n hx hb dX4_init_9 rfl (lv_at hl 0 rfl) ?_
  refine lv_iload_n hx hb dX4_init_10 rfl (lv_at hl 2 rfl) ?_
  refine va_putF (D := D) (ci := 6) (v := .int a2) (ty := tyX4 1) (C := RX4) (T := TX4) (N := 8) hx hb hts iv_k_X4_init_X4 tyX4 tyX4_ok nmX4 hown hK hP hD hS 0 rfl rfl 1 (by decide) (hts (.fieldLink RX4 15 "AnswerFold$Literal" "predicate" "I") (by decide +kernel)) (fun _ h9 => h9) rfl hin rfl (by decide +kernel) rfl rfl (Nat.le_of_ble_eq_true rfl) dX4_init_11 (fun H locs hP hD hS => ?_)
  have hP : va_P D vwCl (wW_k_X4_init ty h0 a1 a2 (0) (0) (0) (0) (0) (0)) H := hP
  have hD : va_D A (wW_k_X4_init ty h0 a1 a2 (0) (0) (0) (0) (0) (0)) := hD
  refine lv_aload_n hx hb dX4_init_14 rfl (lv_at hl 0 rfl) ?_
  refine lv_iload_n hx hb dX4_init_15 rfl (lv_at hl 3 rfl) ?_
  refine va_putF (D := D) (ci := 6) (v := .int a3) (ty := tyX4 2) (C := RX4) (T := TX4) (N := 8) hx hb hts iv_k_X4_init_X4 tyX4 tyX4_ok nmX4 hown hK hP hD hS 0 rfl rfl 2 (by decide) (hts (.fieldLink RX4 19 "AnswerFold$Literal" "bound" "I") (by decide +kernel)) (fun _ h9 => h9) rfl hin rfl (by decide +kernel) rfl rfl (Nat.le_of_ble_eq_true rfl) dX4_init_16 (fun H locs hP hD hS => ?_)
  have hP : va_P D vwCl (wW_k_X4_init ty h0 a1 a2 a3 (0) (0) (0) (0) (0)) H := hP
  have hD : va_D A (wW_k_X4_init ty h0 a1 a2 a3 (0) (0) (0) (0) (0)) := hD
  refine lv_aload_n hx hb dX4_init_19 rfl (lv_at hl 0 rfl) ?_
  refine lv_iload hx hb dX4_init_20 (lv_at hl 4 rfl) ?_
  obtain ⟨t_22, ht_22⟩ : ∃ t, t = m_k_X4_slotOf a4 := ⟨_, rfl⟩
  rw [lE_eq ht_22] at hT
  refine wq_iW (wc := []) (va_runS (As := [.int a4]) (rest := [.ref h0]) ⟨hx, hb, hml, hown, hts⟩ (k_X4_slotOf l D ty td mi H.size a4 t_22 ht_22) (va_cwS 1 hts gv_k_X4_init_0 rfl rfl rfl (by decide +kernel) ⟨(Nat.le_of_ble_eq_true rfl), (Nat.le_of_ble_eq_true rfl)⟩) (wm_preS hP hD hK hE hS hA [] rfl) rfl rfl hl.1 rfl (lv_room (Nat.le_of_ble_eq_true rfl)) dX4_init_22 ⟨(Nat.le_of_ble_eq_true rfl), (Nat.le_of_ble_eq_true rfl)⟩) hS hA hP hD [] rfl (fun _ _ h => by rcases h with ⟨-, rfl⟩; rfl) (fun r u H locs hw hP hD hS => ?_)
  obtain ⟨hr0, rfl⟩ := hw
  subst r
  have hP : va_P D vwCl (wW_k_X4_init ty h0 a1 a2 a3 (0) (0) (0) (0) (0)) H := hP
  have hD : va_D A (wW_k_X4_init ty h0 a1 a2 a3 (0) (0) (0) (0) (0)) := hD
  refine W.widen (k := 0) (n := 0) (Nat.le_of_ble_eq_true rfl) (Nat.le_of_ble_eq_true rfl) ?_
  refine va_putF (D := D) (ci := 6) (v := .int t_22) (ty := tyX4 3) (C := RX4) (T := TX4) (N := 8) hx hb hts iv_k_X4_init_X4 tyX4 tyX4_ok nmX4 hown hK hP hD hS 0 rfl rfl 3 (by decide) (hts (.fieldLink RX4 26 "AnswerFold$Literal" "firstSlot" "I") (by decide +kernel)) (fun _ h9 => h9) rfl hin rfl (by decide +kernel) rfl rfl (Nat.le_of_ble_eq_true rfl) dX4_init_25 (fun H locs hP hD hS => ?_)
  have hP : va_P D vwCl (wW_k_X4_init ty h0 a1 a2 a3 t_22 (0) (0) (0) (0)) H := hP
  have hD : va_D A (wW_k_X4_init ty h0 a1 a2 a3 t_22 (0) (0) (0) (0)) := hD
  refine lv_aload_n hx hb dX4_init_28 rfl (lv_at hl 0 rfl) ?_
  refine lv_iload hx hb dX4_init_29 (lv_at hl 4 rfl) ?_
  obtain ⟨t_31, ht_31⟩ : ∃ t, t = m_k_X4_shiftOf a4 := ⟨_, rfl⟩
  rw [lE_eq ht_31] at hT
  refine wq_iW (wc := []) (va_runS (As := [.int a4]) (rest := [.ref h0]) ⟨hx, hb, hml, hown, hts⟩ (k_X4_shiftOf l D ty td mi H.size a4 t_31 ht_31) (va_cwS 1 hts gv_k_X4_init_1 rfl rfl rfl (by decide +kernel) ⟨(Nat.le_of_ble_eq_true rfl), (Nat.le_of_ble_eq_true rfl)⟩) (wm_preS hP hD hK hE hS hA [] rfl) rfl rfl hl.1 rfl (lv_room (Nat.le_of_ble_eq_true rfl)) dX4_init_31 ⟨(Nat.le_of_ble_eq_true rfl), (Nat.le_of_ble_eq_true rfl)⟩) hS hA hP hD [] rfl (fun _ _ h => by rcases h with ⟨-, rfl⟩; rfl) (fun r u H locs hw hP hD hS => ?_)
  obtain ⟨hr0, rfl⟩ := hw
  subst r
  have hP : va_P D vwCl (wW_k_X4_init ty h0 a1 a2 a3 t_22 (0) (0) (0) (0)) H := hP
  have hD : va_D A (wW_k_X4_init ty h0 a1 a2 a3 t_22 (0) (0) (0) (0)) := hD
  refine W.widen (k := 0) (n := 0) (Nat.le_of_ble_eq_true rfl) (Nat.le_of_ble_eq_true rfl) ?_
  refine va_putF (D := D) (ci := 6) (v := .int t_31) (ty := tyX4 4) (C := RX4) (T := TX4) (N := 8) hx hb hts iv_k_X4_init_X4 tyX4 tyX4_ok nmX4 hown hK hP hD hS 0 rfl rfl 4 (by decide) (hts (.fieldLink RX4 32 "AnswerFold$Literal" "firstShift" "I") (by decide +kernel)) (fun _ h9 => h9) rfl hin rfl (by decide +kernel) rfl rfl (Nat.le_of_ble_eq_true rfl) dX4_init_34 (fun H locs hP hD hS => ?_)
  have hP : va_P D vwCl (wW_k_X4_init ty h0 a1 a2 a3 t_22 t_31 (0) (0) (0)) H := hP
  have hD : va_D A (wW_k_X4_init ty h0 a1 a2 a3 t_22 t_31 (0) (0) (0)) := hD
  refine lv_aload_n hx hb dX4_init_37 rfl (lv_at hl 0 rfl) ?_
  refine lv_iload hx hb dX4_init_38 (lv_at hl 5 rfl) ?_
  obtain ⟨t_40, ht_40⟩ : ∃ t, t = m_k_X4_slotOf a5 := ⟨_, rfl⟩
  rw [lE_eq ht_40] at hT
  refine wq_iW (wc := []) (va_runS (As := [.int a5]) (rest := [.ref h0]) ⟨hx, hb, hml, hown, hts⟩ (k_X4_slotOf l D ty td mi H.size a5 t_40 ht_40) (va_cwS 1 hts gv_k_X4_init_2 rfl rfl rfl (by decide +kernel) ⟨(Nat.le_of_ble_eq_true rfl), (Nat.le_of_ble_eq_true rfl)⟩) (wm_preS hP hD hK hE hS hA [] rfl) rfl rfl hl.1 rfl (lv_room (Nat.le_of_ble_eq_true rfl)) dX4_init_40 ⟨(Nat.le_of_ble_eq_true rfl), (Nat.le_of_ble_eq_true rfl)⟩) hS hA hP hD [] rfl (fun _ _ h => by rcases h with ⟨-, rfl⟩; rfl) (fun r u H locs hw hP hD hS => ?_)
  obtain ⟨hr0, rfl⟩ := hw
  subst r
  have hP : va_P D vwCl (wW_k_X4_init ty h0 a1 a2 a3 t_22 t_31 (0) (0) (0)) H := hP
  have hD : va_D A (wW_k_X4_init ty h0 a1 a2 a3 t_22 t_31 (0) (0) (0)) := hD
  refine W.widen (k := 0) (n := 0) (Nat.le_of_ble_eq_true rfl) (Nat.le_of_ble_eq_true rfl) ?_
  refine va_putF (D := D) (ci := 6) (v := .int t_40) (ty := tyX4 5) (C := RX4) (T := TX4) (N := 8) hx hb hts iv_k_X4_init_X4 tyX4 tyX4_ok nmX4 hown hK hP hD hS 0 rfl rfl 5 (by decide) (hts (.fieldLink RX4 35 "AnswerFold$Literal" "secondSlot" "I") (by decide +kernel)) (fun _ h9 => h9) rfl hin rfl (by decide +kernel) rfl rfl (Nat.le_of_ble_eq_true rfl) dX4_init_43 (fun H locs hP hD hS => ?_)
  have hP : va_P D vwCl (wW_k_X4_init ty h0 a1 a2 a3 t_22 t_31 t_40 (0) (0)) H := hP
  have hD : va_D A (wW_k_X4_init ty h0 a1 a2 a3 t_22 t_31 t_40 (0) (0)) := hD
  refine lv_aload_n hx hb dX4_init_46 rfl (lv_at hl 0 rfl) ?_
  refine lv_iload hx hb dX4_init_47 (lv_at hl 5 rfl) ?_
  obtain ⟨t_49, ht_49⟩ : ∃ t, t = m_k_X4_shiftOf a5 := ⟨_, rfl⟩
  rw [lE_eq ht_49] at hT
  refine wq_iW (wc := []) (va_runS (As := [.int a5]) (rest := [.ref h0]) ⟨hx, hb, hml, hown, hts⟩ (k_X4_shiftOf l D ty td mi H.size a5 t_49 ht_49) (va_cwS 1 hts gv_k_X4_init_3 rfl rfl rfl (by decide +kernel) ⟨(Nat.le_of_ble_eq_true rfl), (Nat.le_of_ble_eq_true rfl)⟩) (wm_preS hP hD hK hE hS hA [] rfl) rfl rfl hl.1 rfl (lv_room (Nat.le_of_ble_eq_true rfl)) dX4_init_49 ⟨(Nat.le_of_ble_eq_true rfl), (Nat.le_of_ble_eq_true rfl)⟩) hS hA hP hD [] rfl (fun _ _ h => by rcases h with ⟨-, rfl⟩; rfl) (fun r u H locs hw hP hD hS => ?_)
  obtain ⟨hr0, rfl⟩ := hw
  subst r
  have hP : va_P D vwCl (wW_k_X4_init ty h0 a1 a2 a3 t_22 t_31 t_40 (0) (0)) H := hP
  have hD : va_D A (wW_k_X4_init ty h0 a1 a2 a3 t_22 t_31 t_40 (0) (0)) := hD
  refine W.widen (k := 0) (n := 0) (Nat.le_of_ble_eq_true rfl) (Nat.le_of_ble_eq_true rfl) ?_
  refine va_putF (D := D) (ci := 6) (v := .int t_49) (ty := tyX4 6) (C := RX4) (T := TX4) (N := 8) hx hb hts iv_k_X4_init_X4 tyX4 tyX4_ok nmX4 hown hK hP hD hS 0 rfl rfl 6 (by decide) (hts (.fieldLink RX4 38 "AnswerFold$Literal" "secondShift" "I") (by decide +kernel)) (fun _ h9 => h9) rfl hin rfl (by decide +kernel) rfl rfl (Nat.le_of_ble_eq_true rfl) dX4_init_52 (fun H locs hP hD hS => ?_)
  have hP : va_P D vwCl (wW_k_X4_init ty h0 a1 a2 a3 t_22 t_31 t_40 t_49 (0)) H := hP
  have hD : va_D A (wW_k_X4_init ty h0 a1 a2 a3 t_22 t_31 t_40 t_49 (0)) := hD
  refine lv_aload_n hx hb dX4_init_55 rfl (lv_at hl 0 rfl) ?_
  refine lv_aload_n hx hb dX4_init_56 rfl (lv_at hl 0 rfl) ?_
  refine va_get (D := D) (ci := 6) (v := .int t_22) (C := RX4) (T := TX4) (N := 8) hx hb hts iv_k_X4_init_X4 hown hK hP 0 rfl rfl 3 (by decide) (hts (.fieldLink RX4 26 "AnswerFold$Literal" "firstSlot" "I") (by decide +kernel)) (fun _ h9 => h9) rfl dX4_init_57 ?_
  refine lv_iconst (v := 4) hx hb dX4_init_60 (by decide) ?_
  have J_72 : ∀ (s0_72 : Int32), TT = m_k_X4_init_72 a1 a2 a3 t_22 t_31 t_40 t_49 s0_72 → ∀ (H : Heap) (locs : List Loc), va_P D vwCl (wW_k_X4_init ty h0 a1 a2 a3 t_22 t_31 t_40 t_49 (0)) H → va_D A (wW_k_X4_init ty h0 a1 a2 a3 t_22 t_31 t_40 t_49 (0)) → va_S A s.heap H locs → ∀ ls : Array Slot, lv_has ls 6 [(0, .ref h0)] → W p l e (headSpec vs_k_X4_init { frames := 1, cells := 0, slots := 0, locals := 20 }).room s m ([.ref h0, .int a1, .int a2, .int a3, .int a4, .int a5] : List Value).toArray below meth c H locs 0 0 (MQ below (va_Qv (fun u : va_W => ((u = (wW_k_X4_init ty h0 TT.1 TT.2.1 TT.2.2.1 TT.2.2.2.1 TT.2.2.2.2.1 TT.2.2.2.2.2.1 TT.2.2.2.2.2.2.1 TT.2.2.2.2.2.2.2)))) (wq_B D A) A) ([.ref h0, .int a1, .int a2, .int a3, .int a4, .int a5] : List Value).toArray s 0 0 A) (F0 m 72 ls [.int s0_72, .ref h0]) := by
    intro s0_72 hT  H locs hP hD hS ls hl
    rw [m_k_X4_init_72] at hT
    refine lv_aload_n hx hb dX4_init_72 rfl (lv_at hl 0 rfl) ?_
    refine va_get (D := D) (ci := 6) (v := .int t_40) (C := RX4) (T := TX4) (N := 8) hx hb hts iv_k_X4_init_X4 hown hK hP 0 rfl rfl 5 (by decide) (hts (.fieldLink RX4 35 "AnswerFold$Literal" "secondSlot" "I") (by decide +kernel)) (fun _ h9 => h9) rfl dX4_init_73 ?_
    refine lv_iconst (v := 4) hx hb dX4_init_76 (by decide) ?_
    have J_88 : ∀ (s0_88 : Int32), TT = m_k_X4_init_88 a1 a2 a3 s0_72 t_22 t_31 t_40 t_49 s0_88 → ∀ (H : Heap) (locs : List Loc), va_P D vwCl (wW_k_X4_init ty h0 a1 a2 a3 t_22 t_31 t_40 t_49 (0)) H → va_D A (wW_k_X4_init ty h0 a1 a2 a3 t_22 t_31 t_40 t_49 (0)) → va_S A s.heap H locs → ∀ ls : Array Slot, lv_has ls 6 [] → W p l e (headSpec vs_k_X4_init { frames := 1, cells := 0, slots := 0, locals := 20 }).room s m ([.ref h0, .int a1, .int a2, .int a3, .int a4, .int a5] : List Value).toArray below meth c H locs 0 0 (MQ below (va_Qv (fun u : va_W => ((u = (wW_k_X4_init ty h0 TT.1 TT.2.1 TT.2.2.1 TT.2.2.2.1 TT.2.2.2.2.1 TT.2.2.2.2.2.1 TT.2.2.2.2.2.2.1 TT.2.2.2.2.2.2.2)))) (wq_B D A) A) ([.ref h0, .int a1, .int a2, .int a3, .int a4, .int a5] : List Value).toArray s 0 0 A) (F0 m 88 ls [.int s0_88, .int s0_72, .ref h0]) := by
      intro s0_88 hT  H locs hP hD hS ls hl
      rw [m_k_X4_init_88] at hT
      refine va_mmax hx hb (hml.trans hl.1.symm) hown (hts (.methodLink RX4 41 Lib.Math.max.name) (by decide +kernel)) (hts (.static Lib.Math.max.name) (by decide +kernel)) (hts (.initialized "java/lang/Math") (by decide +kernel)) (hts (.code Lib.Math.max.name Lib.Math.max.code 2 (some .int)) (by decide +kernel)) (Nat.le_of_ble_eq_true rfl) (Nat.le_of_ble_eq_true rfl) (Nat.le_of_ble_eq_true rfl) (Nat.le_of_ble_eq_true rfl) dX4_init_88 ?_
      refine va_putF (D := D) (ci := 6) (v := .int (if s0_72 < s0_88 then s0_88 else s0_72)) (ty := tyX4 7) (C := RX4) (T := TX4) (N := 8) hx hb hts iv_k_X4_init_X4 tyX4 tyX4_ok nmX4 hown hK hP hD hS 0 rfl rfl 7 (by decide) (hts (.fieldLink RX4 47 "AnswerFold$Literal" "depth" "I") (by decide +kernel)) (fun _ h9 => h9) rfl hin rfl (by decide +kernel) rfl rfl (Nat.le_of_ble_eq_true rfl) dX4_init_91 (fun H locs hP hD hS => ?_)
      have hP : va_P D vwCl (wW_k_X4_init ty h0 a1 a2 a3 t_22 t_31 t_40 t_49 (if s0_72 < s0_88 then s0_88 else s0_72)) H := hP
      have hD : va_D A (wW_k_X4_init ty h0 a1 a2 a3 t_22 t_31 t_40 t_49 (if s0_72 < s0_88 then s0_88 else s0_72)) := hD
      exact END a1 a2 a3 t_22 t_31 t_40 t_49 (if s0_72 < s0_88 then s0_88 else s0_72) hT _ _ hP hD hS _ _ dX4_init_94
    refine lv_icmp_ne (tgt := 84) hx hb dX4_init_77 (by decide) (fun c_9 => ?_) (fun c_9 => ?_)
    · rw [if_neg c_9] at hT
      refine lv_aload_n hx hb dX4_init_84 rfl (lv_at hl 0 rfl) ?_
      refine va_get (D := D) (ci := 6) (v := .int t_40) (C := RX4) (T := TX4) (N := 8) hx hb hts iv_k_X4_init_X4 hown hK hP 0 rfl rfl 5 (by decide) (hts (.fieldLink RX4 35 "AnswerFold$Literal" "secondSlot" "I") (by decide +kernel)) (fun _ h9 => h9) rfl dX4_init_85 ?_
      exact J_88 t_40 hT _ _ hP hD hS _ (lv_sub hl [] rfl)
    · rw [if_pos c_9] at hT
      refine lv_iconst (v := 0) hx hb dX4_init_80 (by decide) ?_
      refine lv_goto (tgt := 88) hx hb dX4_init_81 (by decide) ?_
      exact J_88 0 hT _ _ hP hD hS _ (lv_sub hl [] rfl)
  refine lv_icmp_ne (tgt := 68) hx hb dX4_init_61 (by decide) (fun c_10 => ?_) (fun c_10 => ?_)
  · rw [if_neg c_10] at hT
    refine lv_aload_n hx hb dX4_init_68 rfl (lv_at hl 0 rfl) ?_
    refine va_get (D := D) (ci := 6) (v := .int t_22) (C := RX4) (T := TX4) (N := 8) hx hb hts iv_k_X4_init_X4 hown hK hP 0 rfl rfl 3 (by decide) (hts (.fieldLink RX4 26 "AnswerFold$Literal" "firstSlot" "I") (by decide +kernel)) (fun _ h9 => h9) rfl dX4_init_69 ?_
    exact J_72 t_22 hT _ _ hP hD hS _ (lv_sub hl [0] rfl)
  · rw [if_pos c_10] at hT
    refine lv_iconst (v := 0) hx hb dX4_init_64 (by decide) ?_
    refine lv_goto (tgt := 72) hx hb dX4_init_65 (by decide) ?_
    exact J_72 0 hT _ _ hP hD hS _ (lv_sub hl [0] rfl)
theorem dX8_init_0 : decode cX8_init 0 = .ok (.aload_n 0, 1) := by decide +kernel
theorem dX8_init_1 : decode cX8_init 1 = .ok (.invokespecial 3, 3) := by decide +kernel
theorem dX8_init_4 : decode cX8_init 4 = .ok (.aload_n 0, 1) := by decide +kernel
theorem dX8_init_5 : decode cX8_init 5 = .ok (.iconst (-1), 1) := by decide +kernel
theorem dX8_init_6 : decode cX8_init 6 = .ok (.putfield 9, 3) := by decide +kernel
theorem dX8_init_9 : decode cX8_init 9 = .ok (.aload_n 0, 1) := by decide +kernel
theorem dX8_init_10 : decode cX8_init 10 = .ok (.iconst 2, 1) := by decide +kernel
theorem dX8_init_11 : decode cX8_init 11 = .ok (.anewarray 15, 3) := by decide +kernel
theorem dX8_init_14 : decode cX8_init 14 = .ok (.putfield 17, 3) := by decide +kernel
theorem dX8_init_17 : decode cX8_init 17 = .ok (.aload_n 0, 1) := by decide +kernel
theorem dX8_init_18 : decode cX8_init 18 = .ok (.iconst 5, 1) := by decide +kernel
theorem dX8_init_19 : decode cX8_init 19 = .ok (.anewarray 15, 3) := by decide +kernel
theorem dX8_init_22 : decode cX8_init 22 = .ok (.putfield 21, 3) := by decide +kernel
theorem dX8_init_25 : decode cX8_init 25 = .ok (.aload_n 0, 1) := by decide +kernel
theorem dX8_init_26 : decode cX8_init 26 = .ok (.iload_n 1, 1) := by decide +kernel
theorem dX8_init_27 : decode cX8_init 27 = .ok (.putfield 24, 3) := by decide +kernel
theorem dX8_init_30 : decode cX8_init 30 = .ok (.aload_n 0, 1) := by decide +kernel
theorem dX8_init_31 : decode cX8_init 31 = .ok (.iload_n 2, 1) := by decide +kernel
theorem dX8_init_32 : decode cX8_init 32 = .ok (.putfield 28, 3) := by decide +kernel
theorem dX8_init_35 : decode cX8_init 35 = .ok (.return_, 1) := by decide +kernel
def vs_k_X8_init_100 : List Cond := .code yX8_init cX8_init 3 none :: ([.methodLink RX8 3 objectInit, .instanceMethod objectInit, .code objectInit ⟨#[0xb1]⟩ 1 none, .fieldLink RX8 9 "AnswerFold$Rule" "span" "I", .classLink RX8 15 RX4, .fieldLink RX8 17 "AnswerFold$Rule" "heads" "[LAnswerFold$Literal;", .fieldLink RX8 21 "AnswerFold$Rule" "conditions" "[LAnswerFold$Literal;", .fieldLink RX8 24 "AnswerFold$Rule" "kind" "C", .fieldLink RX8 28 "AnswerFold$Rule" "part" "I"] ++ (u_ws RX8 TX8 11))
theorem iv_k_X8_init_100_X8 : ∀ w ∈ u_ws RX8 TX8 11, w ∈ vs_k_X8_init_100 := (fun _ h => List.mem_cons_of_mem _ (List.mem_append_right _ (h)))
set_option maxHeartbeats 4000000 in
set_option maxRecDepth 100000 in
theorem k_X8_init_100 (l : Launch) (D : va_G) (ty : Nat → ClassId) (td mi sz : Nat) (h0 : Nat) (a2 : Int32) : Met l yX8_init vs_k_X8_init_100 { frames := 1, cells := 2, slots := 7, locals := 12 } (va_Pc [.ref h0, .int 100, .int a2] (wq_P D ty td mi [(h0, .inr (10, [.int 0, .int 0, .int 0, .int 0, .int 0, .int 0, .int 0, .null, .int 0, .null, .int 0]))] sz)) (va_Qv (fun u : va_W => (∃ (q1 : Nat) (q2 : Nat), (u = [(h0, .inr (10, [.int 100, .int a2, .int 0, .int 0, .int (-1), .int 0, .int 0, .ref q1, .int 0, .ref q2, .int 0])), (q1, .inl (ty 5, 2, .inr (.inr (.inr (.inr (fun _ => none)))))), (q2, .inl (ty 5, 5, .inr (.inr (.inr (.inr (fun _ => none))))))]))) (wq_B D (va_A [(h0, .inr (10, [.int 0, .int 0, .int 0, .int 0, .int 0, .int 0, .int 0, .null, .int 0, .null, .int 0]))] sz)) (va_A [(h0, .inr (10, [.int 0, .int 0, .int 0, .int 0, .int 0, .int 0, .int 0, .null, .int 0, .null, .int 0]))] sz)) 2 7 (va_A [(h0, .inr (10, [.int 0, .int 0, .int 0, .int 0, .int 0, .int 0, .int 0, .null, .int 0, .null, .int 0]))] sz) := by
  refine Met.ofW (cc := cX8_init) (maxL := 3) (ret := none) (by decide) rfl ?_
  intro p e s m args below meth c s₁ B hml hv
  obtain ⟨rfl, hsz, hP, hK, hD0, hE⟩ := hv
  have hx := B.exec
  have hb := B.bytes
  have hr := B.returns
  have hts := atoms_spec (ws := vs_k_X8_init_100) B.pre
  have hown : s.vm.findClass RX8 = some m.cls := findClass_of_methodNamed B.named
  have hlocks := B.notSynchronized
  have hin : meth.name = "<init>" := (name_of_methodNamed B.named B.method).1
  subst hsz
  have hD := hD0.self (sz := s.heap.size)
  generalize hAe : va_A [(h0, .inr (10, [.int 0, .int 0, .int 0, .int 0, .int 0, .int 0, .int 0, .null, .int 0, .null, .int 0]))] s.heap.size = A at hD hE ⊢
  have hA : ∀ q : Nat, s.heap.size ≤ q → A q := fun q h => by rw [← hAe]; exact Or.inr h
  have hS : va_S A s.heap s.heap [] := va_S.rf
  have hP : va_P D vwCl [(h0, .inr (10, [.int 0, .int 0, .int 0, .int 0, .int 0, .int 0, .int 0, .null, .int 0, .null, .int 0]))] s.heap := hP
  have hl := lv_entry ([.ref h0, .int 100, .int a2]) (n := 3) (Nat.le_of_ble_eq_true rfl)
  rw [lg_entry_eq]
  generalize (lg_sl ([.ref h0, .int 100, .int a2]) ++ List.replicate (3 - (lg_sl ([.ref h0, .int 100, .int a2])).length) Slot.unset).toArray = ls at hl ⊢
  have hl : lv_has ls 3 [(0, .ref h0), (1, .int 100), (2, .int a2)] := hl
  refine lv_aload_n hx hb dX8_init_0 rfl (lv_at hl 0 rfl) ?_
  refine W.objInit hx hb hown (hts (.methodLink RX8 3 objectInit) (by decide +kernel)) (hts (.instanceMethod objectInit) (by decide +kernel)) (hts (.code objectInit ⟨#[0xb1]⟩ 1 none) (by decide +kernel)) rfl (by rw [hml]; exact hl.1) rfl dX8_init_1 (Nat.le_of_ble_eq_true rfl) (Nat.le_of_ble_eq_true rfl) ?_
  refine W.eq (g2 := F0 m 4 ls []) rfl ?_
  refine lv_aload_n hx hb dX8_init_4 rfl (lv_at hl 0 rfl) ?_
  refine lv_iconst (v := (-1)) hx hb dX8_init_5 (by decide) ?_
  refine va_put (D := D) (ci := 10) (v := .int (-1)) (ty := tyX8 4) (C := RX8) (T := TX8) (N := 11) hx hb hts iv_k_X8_init_100_X8 tyX8 tyX8_ok nmX8 hown hK hP hD hS 0 rfl rfl 4 (by decide) (hts (.fieldLink RX8 9 "AnswerFold$Rule" "span" "I") (by decide +kernel)) (fun _ h9 => h9) rfl (by decide +kernel) rfl rfl (Nat.le_of_ble_eq_true rfl) dX8_init_6 (fun H locs hP hD hS => ?_)
  have hP : va_P D vwCl [(h0, .inr (10, [.int 0, .int 0, .int 0, .int 0, .int (-1), .int 0, .int 0, .null, .int 0, .null, .int 0]))] H := hP
  have hD : va_D A [(h0, .inr (10, [.int 0, .int 0, .int 0, .int 0, .int (-1), .int 0, .int 0, .null, .int 0, .null, .int 0]))] := hD
  refine lv_aload_n hx hb dX8_init_9 rfl (lv_at hl 0 rfl) ?_
  refine lv_iconst (v := 2) hx hb dX8_init_10 (by decide) ?_
  refine wq_newq (C := RX4) hx hb hown (hts (.classLink RX8 15 RX4) (by decide +kernel)) (hE.ao (by decide +kernel)) hK hP hD hS hA 5 rfl (n := 2) (N' := 2) (by decide) (by decide) (Nat.le_of_ble_eq_true rfl) (Nat.le_of_ble_eq_true rfl) (Nat.le_of_ble_eq_true rfl) dX8_init_11 (fun q1 H hP hD hS => ?_)
  have hP : va_P D vwCl [(h0, .inr (10, [.int 0, .int 0, .int 0, .int 0, .int (-1), .int 0, .int 0, .null, .int 0, .null, .int 0])), (q1, .inl (ty 5, 2, .inr (.inr (.inr (.inr (fun _ => none))))))] H := hP
  have hD : va_D A [(h0, .inr (10, [.int 0, .int 0, .int 0, .int 0, .int (-1), .int 0, .int 0, .null, .int 0, .null, .int 0])), (q1, .inl (ty 5, 2, .inr (.inr (.inr (.inr (fun _ => none))))))] := hD
  refine W.widen (k := 1) (n := 2) (Nat.le_of_ble_eq_true rfl) (Nat.le_of_ble_eq_true rfl) ?_
  refine va_putF (D := D) (ci := 10) (v := .ref q1) (ty := tyX8 7) (C := RX8) (T := TX8) (N := 11) hx hb hts iv_k_X8_init_100_X8 tyX8 tyX8_ok nmX8 hown hK hP hD hS 0 rfl rfl 7 (by decide) (hts (.fieldLink RX8 17 "AnswerFold$Rule" "heads" "[LAnswerFold$Literal;") (by decide +kernel)) (fun _ h9 => h9) rfl hin rfl (by decide +kernel) rfl rfl (Nat.le_of_ble_eq_true rfl) dX8_init_14 (fun H locs hP hD hS => ?_)
  have hP : va_P D vwCl [(h0, .inr (10, [.int 0, .int 0, .int 0, .int 0, .int (-1), .int 0, .int 0, .ref q1, .int 0, .null, .int 0])), (q1, .inl (ty 5, 2, .inr (.inr (.inr (.inr (fun _ => none))))))] H := hP
  have hD : va_D A [(h0, .inr (10, [.int 0, .int 0, .int 0, .int 0, .int (-1), .int 0, .int 0, .ref q1, .int 0, .null, .int 0])), (q1, .inl (ty 5, 2, .inr (.inr (.inr (.inr (fun _ => none))))))] := hD
  refine lv_aload_n hx hb dX8_init_17 rfl (lv_at hl 0 rfl) ?_
  refine lv_iconst (v := 5) hx hb dX8_init_18 (by decide) ?_
  refine wq_newq (C := RX4) hx hb hown (hts (.classLink RX8 15 RX4) (by decide +kernel)) (hE.ao (by decide +kernel)) hK hP hD hS hA 5 rfl (n := 5) (N' := 5) (by decide) (by decide) (Nat.le_of_ble_eq_true rfl) (Nat.le_of_ble_eq_true rfl) (Nat.le_of_ble_eq_true rfl) dX8_init_19 (fun q2 H hP hD hS => ?_)
  have hP : va_P D vwCl [(h0, .inr (10, [.int 0, .int 0, .int 0, .int 0, .int (-1), .int 0, .int 0, .ref q1, .int 0, .null, .int 0])), (q1, .inl (ty 5, 2, .inr (.inr (.inr (.inr (fun _ => none)))))), (q2, .inl (ty 5, 5, .inr (.inr (.inr (.inr (fun _ => none))))))] H := hP
  have hD : va_D A [(h0, .inr (10, [.int 0, .int 0, .int 0, .int 0, .int (-1), .int 0, .int 0, .ref q1, .int 0, .null, .int 0])), (q1, .inl (ty 5, 2, .inr (.inr (.inr (.inr (fun _ => none)))))), (q2, .inl (ty 5, 5, .inr (.inr (.inr (.inr (fun _ => none))))))] := hD
  refine W.widen (k := 2) (n := 7) (Nat.le_of_ble_eq_true rfl) (Nat.le_of_ble_eq_true rfl) ?_
  refine va_putF (D := D) (ci := 10) (v := .ref q2) (ty := tyX8 9) (C := RX8) (T := TX8) (N := 11) hx hb hts iv_k_X8_init_100_X8 tyX8 tyX8_ok nmX8 hown hK hP hD hS 0 rfl rfl 9 (by decide) (hts (.fieldLink RX8 21 "AnswerFold$Rule" "conditions" "[LAnswerFold$Literal;") (by decide +kernel)) (fun _ h9 => h9) rfl hin rfl (by decide +kernel) rfl rfl (Nat.le_of_ble_eq_true rfl) dX8_init_22 (fun H locs hP hD hS => ?_)
  have hP : va_P D vwCl [(h0, .inr (10, [.int 0, .int 0, .int 0, .int 0, .int (-1), .int 0, .int 0, .ref q1, .int 0, .ref q2, .int 0])), (q1, .inl (ty 5, 2, .inr (.inr (.inr (.inr (fun _ => none)))))), (q2, .inl (ty 5, 5, .inr (.inr (.inr (.inr (fun _ => none))))))] H := hP
  have hD : va_D A [(h0, .inr (10, [.int 0, .int 0, .int 0, .int 0, .int (-1), .int 0, .int 0, .ref q1, .int 0, .ref q2, .int 0])), (q1, .inl (ty 5, 2, .inr (.inr (.inr (.inr (fun _ => none)))))), (q2, .inl (ty 5, 5, .inr (.inr (.inr (.inr (fun _ => none))))))] := hD
  refine lv_aload_n hx hb dX8_init_25 rfl (lv_at hl 0 rfl) ?_
  refine lv_iload_n hx hb dX8_init_26 rfl (lv_at hl 1 rfl) ?_
  refine va_putF (D := D) (ci := 10) (v := .int 100) (ty := tyX8 0) (C := RX8) (T := TX8) (N := 11) hx hb hts iv_k_X8_init_100_X8 tyX8 tyX8_ok nmX8 hown hK hP hD hS 0 rfl rfl 0 (by decide) (hts (.fieldLink RX8 24 "AnswerFold$Rule" "kind" "C") (by decide +kernel)) (fun _ h9 => h9) rfl hin rfl (by decide +kernel) rfl rfl (Nat.le_of_ble_eq_true rfl) dX8_init_27 (fun H locs hP hD hS => ?_)
  have hP : va_P D vwCl [(h0, .inr (10, [.int 100, .int 0, .int 0, .int 0, .int (-1), .int 0, .int 0, .ref q1, .int 0, .ref q2, .int 0])), (q1, .inl (ty 5, 2, .inr (.inr (.inr (.inr (fun _ => none)))))), (q2, .inl (ty 5, 5, .inr (.inr (.inr (.inr (fun _ => none))))))] H := hP
  have hD : va_D A [(h0, .inr (10, [.int 100, .int 0, .int 0, .int 0, .int (-1), .int 0, .int 0, .ref q1, .int 0, .ref q2, .int 0])), (q1, .inl (ty 5, 2, .inr (.inr (.inr (.inr (fun _ => none)))))), (q2, .inl (ty 5, 5, .inr (.inr (.inr (.inr (fun _ => none))))))] := hD
  refine lv_aload_n hx hb dX8_init_30 rfl (lv_at hl 0 rfl) ?_
  refine lv_iload_n hx hb dX8_init_31 rfl (lv_at hl 2 rfl) ?_
  refine va_putF (D := D) (ci := 10) (v := .int a2) (ty := tyX8 1) (C := RX8) (T := TX8) (N := 11) hx hb hts iv_k_X8_init_100_X8 tyX8 tyX8_ok nmX8 hown hK hP hD hS 0 rfl rfl 1 (by decide) (hts (.fieldLink RX8 28 "AnswerFold$Rule" "part" "I") (by decide +kernel)) (fun _ h9 => h9) rfl hin rfl (by decide +kernel) rfl rfl (Nat.le_of_ble_eq_true rfl) dX8_init_32 (fun H locs hP hD hS => ?_)
  have hP : va_P D vwCl [(h0, .inr (10, [.int 100, .int a2, .int 0, .int 0, .int (-1), .int 0, .int 0, .ref q1, .int 0, .ref q2, .int 0])), (q1, .inl (ty 5, 2, .inr (.inr (.inr (.inr (fun _ => none)))))), (q2, .inl (ty 5, 5, .inr (.inr (.inr (.inr (fun _ => none))))))] H := hP
  have hD : va_D A [(h0, .inr (10, [.int 100, .int a2, .int 0, .int 0, .int (-1), .int 0, .int 0, .ref q1, .int 0, .ref q2, .int 0])), (q1, .inl (ty 5, 2, .inr (.inr (.inr (.inr (fun _ => none)))))), (q2, .inl (ty 5, 5, .inr (.inr (.inr (.inr (fun _ => none))))))] := hD
  have hP9 := hP.sub (ws' := [(h0, .inr (10, [.int 100, .int a2, .int 0, .int 0, .int (-1), .int 0, .int 0, .ref q1, .int 0, .ref q2, .int 0])), (q1, .inl (ty 5, 2, .inr (.inr (.inr (.inr (fun _ => none)))))), (q2, .inl (ty 5, 5, .inr (.inr (.inr (.inr (fun _ => none))))))]) [0, 1, 2] rfl
  have hD9 := hD.sub (ws' := [(h0, .inr (10, [.int 100, .int a2, .int 0, .int 0, .int (-1), .int 0, .int 0, .ref q1, .int 0, .ref q2, .int 0])), (q1, .inl (ty 5, 2, .inr (.inr (.inr (.inr (fun _ => none)))))), (q2, .inl (ty 5, 5, .inr (.inr (.inr (.inr (fun _ => none))))))]) [0, 1, 2] (by decide) rfl
  refine W.widen (k := 2) (n := 7) (Nat.le_of_ble_eq_true rfl) (Nat.le_of_ble_eq_true rfl) ?_
  exact W.vret hx hb hr (fun t ht hW => ⟨⟨[(h0, .inr (10, [.int 100, .int a2, .int 0, .int 0, .int (-1), .int 0, .int 0, .ref q1, .int 0, .ref q2, .int 0])), (q1, .inl (ty 5, 2, .inr (.inr (.inr (.inr (fun _ => none)))))), (q2, .inl (ty 5, 5, .inr (.inr (.inr (.inr (fun _ => none))))))], rfl, ⟨q1, q2, rfl⟩, wq_B.of ht hP9 hD9⟩, hS.F ht⟩) hS.2.2 dX8_init_35
def vs_k_X8_init_99 : List Cond := .code yX8_init cX8_init 3 none :: ([.methodLink RX8 3 objectInit, .instanceMethod objectInit, .code objectInit ⟨#[0xb1]⟩ 1 none, .fieldLink RX8 9 "AnswerFold$Rule" "span" "I", .classLink RX8 15 RX4, .fieldLink RX8 17 "AnswerFold$Rule" "heads" "[LAnswerFold$Literal;", .fieldLink RX8 21 "AnswerFold$Rule" "conditions" "[LAnswerFold$Literal;", .fieldLink RX8 24 "AnswerFold$Rule" "kind" "C", .fieldLink RX8 28 "AnswerFold$Rule" "part" "I"] ++ (u_ws RX8 TX8 11))
theorem iv_k_X8_init_99_X8 : ∀ w ∈ u_ws RX8 TX8 11, w ∈ vs_k_X8_init_99 := (fun _ h => List.mem_cons_of_mem _ (List.mem_append_right _ (h)))
set_option maxHeartbeats 4000000 in
set_option maxRecDepth 100000 in
theorem k_X8_init_99 (l : Launch) (D : va_G) (ty : Nat → ClassId) (td mi sz : Nat) (h0 : Nat) (a2 : Int32) : Met l yX8_init vs_k_X8_init_99 { frames := 1, cells := 2, slots := 7, locals := 12 } (va_Pc [.ref h0, .int 99, .int a2] (wq_P D ty td mi [(h0, .inr (10, [.int 0, .int 0, .int 0, .int 0, .int 0, .int 0, .int 0, .null, .int 0, .null, .int 0]))] sz)) (va_Qv (fun u : va_W => (∃ (q3 : Nat) (q4 : Nat), (u = [(h0, .inr (10, [.int 99, .int a2, .int 0, .int 0, .int (-1), .int 0, .int 0, .ref q3, .int 0, .ref q4, .int 0])), (q3, .inl (ty 5, 2, .inr (.inr (.inr (.inr (fun _ => none)))))), (q4, .inl (ty 5, 5, .inr (.inr (.inr (.inr (fun _ => none))))))]))) (wq_B D (va_A [(h0, .inr (10, [.int 0, .int 0, .int 0, .int 0, .int 0, .int 0, .int 0, .null, .int 0, .null, .int 0]))] sz)) (va_A [(h0, .inr (10, [.int 0, .int 0, .int 0, .int 0, .int 0, .int 0, .int 0, .null, .int 0, .null, .int 0]))] sz)) 2 7 (va_A [(h0, .inr (10, [.int 0, .int 0, .int 0, .int 0, .int 0, .int 0, .int 0, .null, .int 0, .null, .int 0]))] sz) := by
  refine Met.ofW (cc := cX8_init) (maxL := 3) (ret := none) (by decide) rfl ?_
  intro p e s m args below meth c s₁ B hml hv
  obtain ⟨rfl, hsz, hP, hK, hD0, hE⟩ := hv
  have hx := B.exec
  have hb := B.bytes
  have hr := B.returns
  have hts := atoms_spec (ws := vs_k_X8_init_99) B.pre
  have hown : s.vm.findClass RX8 = some m.cls := findClass_of_methodNamed B.named
  have hlocks := B.notSynchronized
  have hin : meth.name = "<init>" := (name_of_methodNamed B.named B.method).1
  subst hsz
  have hD := hD0.self (sz := s.heap.size)
  generalize hAe : va_A [(h0, .inr (10, [.int 0, .int 0, .int 0, .int 0, .int 0, .int 0, .int 0, .null, .int 0, .null, .int 0]))] s.heap.size = A at hD hE ⊢
  have hA : ∀ q : Nat, s.heap.size ≤ q → A q := fun q h => by rw [← hAe]; exact Or.inr h
  have hS : va_S A s.heap s.heap [] := va_S.rf
  have hP : va_P D vwCl [(h0, .inr (10, [.int 0, .int 0, .int 0, .int 0, .int 0, .int 0, .int 0, .null, .int 0, .null, .int 0]))] s.heap := hP
  have hl := lv_entry ([.ref h0, .int 99, .int a2]) (n := 3) (Nat.le_of_ble_eq_true rfl)
  rw [lg_entry_eq]
  generalize (lg_sl ([.ref h0, .int 99, .int a2]) ++ List.replicate (3 - (lg_sl ([.ref h0, .int 99, .int a2])).length) Slot.unset).toArray = ls at hl ⊢
  have hl : lv_has ls 3 [(0, .ref h0), (1, .int 99), (2, .int a2)] := hl
  refine lv_aload_n hx hb dX8_init_0 rfl (lv_at hl 0 rfl) ?_
  refine W.objInit hx hb hown (hts (.methodLink RX8 3 objectInit) (by decide +kernel)) (hts (.instanceMethod objectInit) (by decide +kernel)) (hts (.code objectInit ⟨#[0xb1]⟩ 1 none) (by decide +kernel)) rfl (by rw [hml]; exact hl.1) rfl dX8_init_1 (Nat.le_of_ble_eq_true rfl) (Nat.le_of_ble_eq_true rfl) ?_
  refine W.eq (g2 := F0 m 4 ls []) rfl ?_
  refine lv_aload_n hx hb dX8_init_4 rfl (lv_at hl 0 rfl) ?_
  refine lv_iconst (v := (-1)) hx hb dX8_init_5 (by decide) ?_
  refine va_put (D := D) (ci := 10) (v := .int (-1)) (ty := tyX8 4) (C := RX8) (T := TX8) (N := 11) hx hb hts iv_k_X8_init_99_X8 tyX8 tyX8_ok nmX8 hown hK hP hD hS 0 rfl rfl 4 (by decide) (hts (.fieldLink RX8 9 "AnswerFold$Rule" "span" "I") (by decide +kernel)) (fun _ h9 => h9) rfl (by decide +kernel) rfl rfl (Nat.le_of_ble_eq_true rfl) dX8_init_6 (fun H locs hP hD hS => ?_)
  have hP : va_P D vwCl [(h0, .inr (10, [.int 0, .int 0, .int 0, .int 0, .int (-1), .int 0, .int 0, .null, .int 0, .null, .int 0]))] H := hP
  have hD : va_D A [(h0, .inr (10, [.int 0, .int 0, .int 0, .int 0, .int (-1), .int 0, .int 0, .null, .int 0, .null, .int 0]))] := hD
  refine lv_aload_n hx hb dX8_init_9 rfl (lv_at hl 0 rfl) ?_
  refine lv_iconst (v := 2) hx hb dX8_init_10 (by decide) ?_
  refine wq_newq (C := RX4) hx hb hown (hts (.classLink RX8 15 RX4) (by decide +kernel)) (hE.ao (by decide +kernel)) hK hP hD hS hA 5 rfl (n := 2) (N' := 2) (by decide) (by decide) (Nat.le_of_ble_eq_true rfl) (Nat.le_of_ble_eq_true rfl) (Nat.le_of_ble_eq_true rfl) dX8_init_11 (fun q3 H hP hD hS => ?_)
  have hP : va_P D vwCl [(h0, .inr (10, [.int 0, .int 0, .int 0, .int 0, .int (-1), .int 0, .int 0, .null, .int 0, .null, .int 0])), (q3, .inl (ty 5, 2, .inr (.inr (.inr (.inr (fun _ => none))))))] H := hP
  have hD : va_D A [(h0, .inr (10, [.int 0, .int 0, .int 0, .int 0, .int (-1), .int 0, .int 0, .null, .int 0, .null, .int 0])), (q3, .inl (ty 5, 2, .inr (.inr (.inr (.inr (fun _ => none))))))] := hD
  refine W.widen (k := 1) (n := 2) (Nat.le_of_ble_eq_true rfl) (Nat.le_of_ble_eq_true rfl) ?_
  refine va_putF (D := D) (ci := 10) (v := .ref q3) (ty := tyX8 7) (C := RX8) (T := TX8) (N := 11) hx hb hts iv_k_X8_init_99_X8 tyX8 tyX8_ok nmX8 hown hK hP hD hS 0 rfl rfl 7 (by decide) (hts (.fieldLink RX8 17 "AnswerFold$Rule" "heads" "[LAnswerFold$Literal;") (by decide +kernel)) (fun _ h9 => h9) rfl hin rfl (by decide +kernel) rfl rfl (Nat.le_of_ble_eq_true rfl) dX8_init_14 (fun H locs hP hD hS => ?_)
  have hP : va_P D vwCl [(h0, .inr (10, [.int 0, .int 0, .int 0, .int 0, .int (-1), .int 0, .int 0, .ref q3, .int 0, .null, .int 0])), (q3, .inl (ty 5, 2, .inr (.inr (.inr (.inr (fun _ => none))))))] H := hP
  have hD : va_D A [(h0, .inr (10, [.int 0, .int 0, .int 0, .int 0, .int (-1), .int 0, .int 0, .ref q3, .int 0, .null, .int 0])), (q3, .inl (ty 5, 2, .inr (.inr (.inr (.inr (fun _ => none))))))] := hD
  refine lv_aload_n hx hb dX8_init_17 rfl (lv_at hl 0 rfl) ?_
  refine lv_iconst (v := 5) hx hb dX8_init_18 (by decide) ?_
  refine wq_newq (C := RX4) hx hb hown (hts (.classLink RX8 15 RX4) (by decide +kernel)) (hE.ao (by decide +kernel)) hK hP hD hS hA 5 rfl (n := 5) (N' := 5) (by decide) (by decide) (Nat.le_of_ble_eq_true rfl) (Nat.le_of_ble_eq_true rfl) (Nat.le_of_ble_eq_true rfl) dX8_init_19 (fun q4 H hP hD hS => ?_)
  have hP : va_P D vwCl [(h0, .inr (10, [.int 0, .int 0, .int 0, .int 0, .int (-1), .int 0, .int 0, .ref q3, .int 0, .null, .int 0])), (q3, .inl (ty 5, 2, .inr (.inr (.inr (.inr (fun _ => none)))))), (q4, .inl (ty 5, 5, .inr (.inr (.inr (.inr (fun _ => none))))))] H := hP
  have hD : va_D A [(h0, .inr (10, [.int 0, .int 0, .int 0, .int 0, .int (-1), .int 0, .int 0, .ref q3, .int 0, .null, .int 0])), (q3, .inl (ty 5, 2, .inr (.inr (.inr (.inr (fun _ => none)))))), (q4, .inl (ty 5, 5, .inr (.inr (.inr (.inr (fun _ => none))))))] := hD
  refine W.widen (k := 2) (n := 7) (Nat.le_of_ble_eq_true rfl) (Nat.le_of_ble_eq_true rfl) ?_
  refine va_putF (D := D) (ci := 10) (v := .ref q4) (ty := tyX8 9) (C := RX8) (T := TX8) (N := 11) hx hb hts iv_k_X8_init_99_X8 tyX8 tyX8_ok nmX8 hown hK hP hD hS 0 rfl rfl 9 (by decide) (hts (.fieldLink RX8 21 "AnswerFold$Rule" "conditions" "[LAnswerFold$Literal;") (by decide +kernel)) (fun _ h9 => h9) rfl hin rfl (by decide +kernel) rfl rfl (Nat.le_of_ble_eq_true rfl) dX8_init_22 (fun H locs hP hD hS => ?_)
  have hP : va_P D vwCl [(h0, .inr (10, [.int 0, .int 0, .int 0, .int 0, .int (-1), .int 0, .int 0, .ref q3, .int 0, .ref q4, .int 0])), (q3, .inl (ty 5, 2, .inr (.inr (.inr (.inr (fun _ => none)))))), (q4, .inl (ty 5, 5, .inr (.inr (.inr (.inr (fun _ => none))))))] H := hP
  have hD : va_D A [(h0, .inr (10, [.int 0, .int 0, .int 0, .int 0, .int (-1), .int 0, .int 0, .ref q3, .int 0, .ref q4, .int 0])), (q3, .inl (ty 5, 2, .inr (.inr (.inr (.inr (fun _ => none)))))), (q4, .inl (ty 5, 5, .inr (.inr (.inr (.inr (fun _ => none))))))] := hD
  refine lv_aload_n hx hb dX8_init_25 rfl (lv_at hl 0 rfl) ?_
  refine lv_iload_n hx hb dX8_init_26 rfl (lv_at hl 1 rfl) ?_
  refine va_putF (D := D) (ci := 10) (v := .int 99) (ty := tyX8 0) (C := RX8) (T := TX8) (N := 11) hx hb hts iv_k_X8_init_99_X8 tyX8 tyX8_ok nmX8 hown hK hP hD hS 0 rfl rfl 0 (by decide) (hts (.fieldLink RX8 24 "AnswerFold$Rule" "kind" "C") (by decide +kernel)) (fun _ h9 => h9) rfl hin rfl (by decide +kernel) rfl rfl (Nat.le_of_ble_eq_true rfl) dX8_init_27 (fun H locs hP hD hS => ?_)
  have hP : va_P D vwCl [(h0, .inr (10, [.int 99, .int 0, .int 0, .int 0, .int (-1), .int 0, .int 0, .ref q3, .int 0, .ref q4, .int 0])), (q3, .inl (ty 5, 2, .inr (.inr (.inr (.inr (fun _ => none)))))), (q4, .inl (ty 5, 5, .inr (.inr (.inr (.inr (fun _ => none))))))] H := hP
  have hD : va_D A [(h0, .inr (10, [.int 99, .int 0, .int 0, .int 0, .int (-1), .int 0, .int 0, .ref q3, .int 0, .ref q4, .int 0])), (q3, .inl (ty 5, 2, .inr (.inr (.inr (.inr (fun _ => none)))))), (q4, .inl (ty 5, 5, .inr (.inr (.inr (.inr (fun _ => none))))))] := hD
  refine lv_aload_n hx hb dX8_init_30 rfl (lv_at hl 0 rfl) ?_
  refine lv_iload_n hx hb dX8_init_31 rfl (lv_at hl 2 rfl) ?_
  refine va_putF (D := D) (ci := 10) (v := .int a2) (ty := tyX8 1) (C := RX8) (T := TX8) (N := 11) hx hb hts iv_k_X8_init_99_X8 tyX8 tyX8_ok nmX8 hown hK hP hD hS 0 rfl rfl 1 (by decide) (hts (.fieldLink RX8 28 "AnswerFold$Rule" "part" "I") (by decide +kernel)) (fun _ h9 => h9) rfl hin rfl (by decide +kernel) rfl rfl (Nat.le_of_ble_eq_true rfl) dX8_init_32 (fun H locs hP hD hS => ?_)
  have hP : va_P D vwCl [(h0, .inr (10, [.int 99, .int a2, .int 0, .int 0, .int (-1), .int 0, .int 0, .ref q3, .int 0, .ref q4, .int 0])), (q3, .inl (ty 5, 2, .inr (.inr (.inr (.inr (fun _ => none)))))), (q4, .inl (ty 5, 5, .inr (.inr (.inr (.inr (fun _ => none))))))] H := hP
  have hD : va_D A [(h0, .inr (10, [.int 99, .int a2, .int 0, .int 0, .int (-1), .int 0, .int 0, .ref q3, .int 0, .ref q4, .int 0])), (q3, .inl (ty 5, 2, .inr (.inr (.inr (.inr (fun _ => none)))))), (q4, .inl (ty 5, 5, .inr (.inr (.inr (.inr (fun _ => none))))))] := hD
  have hP9 := hP.sub (ws' := [(h0, .inr (10, [.int 99, .int a2, .int 0, .int 0, .int (-1), .int 0, .int 0, .ref q3, .int 0, .ref q4, .int 0])), (q3, .inl (ty 5, 2, .inr (.inr (.inr (.inr (fun _ => none)))))), (q4, .inl (ty 5, 5, .inr (.inr (.inr (.inr (fun _ => none))))))]) [0, 1, 2] rfl
  have hD9 := hD.sub (ws' := [(h0, .inr (10, [.int 99, .int a2, .int 0, .int 0, .int (-1), .int 0, .int 0, .ref q3, .int 0, .ref q4, .int 0])), (q3, .inl (ty 5, 2, .inr (.inr (.inr (.inr (fun _ => none)))))), (q4, .inl (ty 5, 5, .inr (.inr (.inr (.inr (fun _ => none))))))]) [0, 1, 2] (by decide) rfl
  refine W.widen (k := 2) (n := 7) (Nat.le_of_ble_eq_true rfl) (Nat.le_of_ble_eq_true rfl) ?_
  exact W.vret hx hb hr (fun t ht hW => ⟨⟨[(h0, .inr (10, [.int 99, .int a2, .int 0, .int 0, .int (-1), .int 0, .int 0, .ref q3, .int 0, .ref q4, .int 0])), (q3, .inl (ty 5, 2, .inr (.inr (.inr (.inr (fun _ => none)))))), (q4, .inl (ty 5, 5, .inr (.inr (.inr (.inr (fun _ => none))))))], rfl, ⟨q3, q4, rfl⟩, wq_B.of ht hP9 hD9⟩, hS.F ht⟩) hS.2.2 dX8_init_35
def vs_k_X8_init_119 : List Cond := .code yX8_init cX8_init 3 none :: ([.methodLink RX8 3 objectInit, .instanceMethod objectInit, .code objectInit ⟨#[0xb1]⟩ 1 none, .fieldLink RX8 9 "AnswerFold$Rule" "span" "I", .classLink RX8 15 RX4, .fieldLink RX8 17 "AnswerFold$Rule" "heads" "[LAnswerFold$Literal;", .fieldLink RX8 21 "AnswerFold$Rule" "conditions" "[LAnswerFold$Literal;", .fieldLink RX8 24 "AnswerFold$Rule" "kind" "C", .fieldLink RX8 28 "AnswerFold$Rule" "part" "I"] ++ (u_ws RX8 TX8 11))
theorem iv_k_X8_init_119_X8 : ∀ w ∈ u_ws RX8 TX8 11, w ∈ vs_k_X8_init_119 := (fun _ h => List.mem_cons_of_mem _ (List.mem_append_right _ (h)))
set_option maxHeartbeats 4000000 in
set_option maxRecDepth 100000 in
theorem k_X8_init_119 (l : Launch) (D : va_G) (ty : Nat → ClassId) (td mi sz : Nat) (h0 : Nat) (a2 : Int32) : Met l yX8_init vs_k_X8_init_119 { frames := 1, cells := 2, slots := 7, locals := 12 } (va_Pc [.ref h0, .int 119, .int a2] (wq_P D ty td mi [(h0, .inr (10, [.int 0, .int 0, .int 0, .int 0, .int 0, .int 0, .int 0, .null, .int 0, .null, .int 0]))] sz)) (va_Qv (fun u : va_W => (∃ (q5 : Nat) (q6 : Nat), (u = [(h0, .inr (10, [.int 119, .int a2, .int 0, .int 0, .int (-1), .int 0, .int 0, .ref q5, .int 0, .ref q6, .int 0])), (q5, .inl (ty 5, 2, .inr (.inr (.inr (.inr (fun _ => none)))))), (q6, .inl (ty 5, 5, .inr (.inr (.inr (.inr (fun _ => none))))))]))) (wq_B D (va_A [(h0, .inr (10, [.int 0, .int 0, .int 0, .int 0, .int 0, .int 0, .int 0, .null, .int 0, .null, .int 0]))] sz)) (va_A [(h0, .inr (10, [.int 0, .int 0, .int 0, .int 0, .int 0, .int 0, .int 0, .null, .int 0, .null, .int 0]))] sz)) 2 7 (va_A [(h0, .inr (10, [.int 0, .int 0, .int 0, .int 0, .int 0, .int 0, .int 0, .null, .int 0, .null, .int 0]))] sz) := by
  refine Met.ofW (cc := cX8_init) (maxL := 3) (ret := none) (by decide) rfl ?_
  intro p e s m args below meth c s₁ B hml hv
  obtain ⟨rfl, hsz, hP, hK, hD0, hE⟩ := hv
  have hx := B.exec
  have hb := B.bytes
  have hr := B.returns
  have hts := atoms_spec (ws := vs_k_X8_init_119) B.pre
  have hown : s.vm.findClass RX8 = some m.cls := findClass_of_methodNamed B.named
  have hlocks := B.notSynchronized
  have hin : meth.name = "<init>" := (name_of_methodNamed B.named B.method).1
  subst hsz
  have hD := hD0.self (sz := s.heap.size)
  generalize hAe : va_A [(h0, .inr (10, [.int 0, .int 0, .int 0, .int 0, .int 0, .int 0, .int 0, .null, .int 0, .null, .int 0]))] s.heap.size = A at hD hE ⊢
  have hA : ∀ q : Nat, s.heap.size ≤ q → A q := fun q h => by rw [← hAe]; exact Or.inr h
  have hS : va_S A s.heap s.heap [] := va_S.rf
  have hP : va_P D vwCl [(h0, .inr (10, [.int 0, .int 0, .int 0, .int 0, .int 0, .int 0, .int 0, .null, .int 0, .null, .int 0]))] s.heap := hP
  have hl := lv_entry ([.ref h0, .int 119, .int a2]) (n := 3) (Nat.le_of_ble_eq_true rfl)
  rw [lg_entry_eq]
  generalize (lg_sl ([.ref h0, .int 119, .int a2]) ++ List.replicate (3 - (lg_sl ([.ref h0, .int 119, .int a2])).length) Slot.unset).toArray = ls at hl ⊢
  have hl : lv_has ls 3 [(0, .ref h0), (1, .int 119), (2, .int a2)] := hl
  refine lv_aload_n hx hb dX8_init_0 rfl (lv_at hl 0 rfl) ?_
  refine W.objInit hx hb hown (hts (.methodLink RX8 3 objectInit) (by decide +kernel)) (hts (.instanceMethod objectInit) (by decide +kernel)) (hts (.code objectInit ⟨#[0xb1]⟩ 1 none) (by decide +kernel)) rfl (by rw [hml]; exact hl.1) rfl dX8_init_1 (Nat.le_of_ble_eq_true rfl) (Nat.le_of_ble_eq_true rfl) ?_
  refine W.eq (g2 := F0 m 4 ls []) rfl ?_
  refine lv_aload_n hx hb dX8_init_4 rfl (lv_at hl 0 rfl) ?_
  refine lv_iconst (v := (-1)) hx hb dX8_init_5 (by decide) ?_
  refine va_put (D := D) (ci := 10) (v := .int (-1)) (ty := tyX8 4) (C := RX8) (T := TX8) (N := 11) hx hb hts iv_k_X8_init_119_X8 tyX8 tyX8_ok nmX8 hown hK hP hD hS 0 rfl rfl 4 (by decide) (hts (.fieldLink RX8 9 "AnswerFold$Rule" "span" "I") (by decide +kernel)) (fun _ h9 => h9) rfl (by decide +kernel) rfl rfl (Nat.le_of_ble_eq_true rfl) dX8_init_6 (fun H locs hP hD hS => ?_)
  have hP : va_P D vwCl [(h0, .inr (10, [.int 0, .int 0, .int 0, .int 0, .int (-1), .int 0, .int 0, .null, .int 0, .null, .int 0]))] H := hP
  have hD : va_D A [(h0, .inr (10, [.int 0, .int 0, .int 0, .int 0, .int (-1), .int 0, .int 0, .null, .int 0, .null, .int 0]))] := hD
  refine lv_aload_n hx hb dX8_init_9 rfl (lv_at hl 0 rfl) ?_
  refine lv_iconst (v := 2) hx hb dX8_init_10 (by decide) ?_
  refine wq_newq (C := RX4) hx hb hown (hts (.classLink RX8 15 RX4) (by decide +kernel)) (hE.ao (by decide +kernel)) hK hP hD hS hA 5 rfl (n := 2) (N' := 2) (by decide) (by decide) (Nat.le_of_ble_eq_true rfl) (Nat.le_of_ble_eq_true rfl) (Nat.le_of_ble_eq_true rfl) dX8_init_11 (fun q5 H hP hD hS => ?_)
  have hP : va_P D vwCl [(h0, .inr (10, [.int 0, .int 0, .int 0, .int 0, .int (-1), .int 0, .int 0, .null, .int 0, .null, .int 0])), (q5, .inl (ty 5, 2, .inr (.inr (.inr (.inr (fun _ => none))))))] H := hP
  have hD : va_D A [(h0, .inr (10, [.int 0, .int 0, .int 0, .int 0, .int (-1), .int 0, .int 0, .null, .int 0, .null, .int 0])), (q5, .inl (ty 5, 2, .inr (.inr (.inr (.inr (fun _ => none))))))] := hD
  refine W.widen (k := 1) (n := 2) (Nat.le_of_ble_eq_true rfl) (Nat.le_of_ble_eq_true rfl) ?_
  refine va_putF (D := D) (ci := 10) (v := .ref q5) (ty := tyX8 7) (C := RX8) (T := TX8) (N := 11) hx hb hts iv_k_X8_init_119_X8 tyX8 tyX8_ok nmX8 hown hK hP hD hS 0 rfl rfl 7 (by decide) (hts (.fieldLink RX8 17 "AnswerFold$Rule" "heads" "[LAnswerFold$Literal;") (by decide +kernel)) (fun _ h9 => h9) rfl hin rfl (by decide +kernel) rfl rfl (Nat.le_of_ble_eq_true rfl) dX8_init_14 (fun H locs hP hD hS => ?_)
  have hP : va_P D vwCl [(h0, .inr (10, [.int 0, .int 0, .int 0, .int 0, .int (-1), .int 0, .int 0, .ref q5, .int 0, .null, .int 0])), (q5, .inl (ty 5, 2, .inr (.inr (.inr (.inr (fun _ => none))))))] H := hP
  have hD : va_D A [(h0, .inr (10, [.int 0, .int 0, .int 0, .int 0, .int (-1), .int 0, .int 0, .ref q5, .int 0, .null, .int 0])), (q5, .inl (ty 5, 2, .inr (.inr (.inr (.inr (fun _ => none))))))] := hD
  refine lv_aload_n hx hb dX8_init_17 rfl (lv_at hl 0 rfl) ?_
  refine lv_iconst (v := 5) hx hb dX8_init_18 (by decide) ?_
  refine wq_newq (C := RX4) hx hb hown (hts (.classLink RX8 15 RX4) (by decide +kernel)) (hE.ao (by decide +kernel)) hK hP hD hS hA 5 rfl (n := 5) (N' := 5) (by decide) (by decide) (Nat.le_of_ble_eq_true rfl) (Nat.le_of_ble_eq_true rfl) (Nat.le_of_ble_eq_true rfl) dX8_init_19 (fun q6 H hP hD hS => ?_)
  have hP : va_P D vwCl [(h0, .inr (10, [.int 0, .int 0, .int 0, .int 0, .int (-1), .int 0, .int 0, .ref q5, .int 0, .null, .int 0])), (q5, .inl (ty 5, 2, .inr (.inr (.inr (.inr (fun _ => none)))))), (q6, .inl (ty 5, 5, .inr (.inr (.inr (.inr (fun _ => none))))))] H := hP
  have hD : va_D A [(h0, .inr (10, [.int 0, .int 0, .int 0, .int 0, .int (-1), .int 0, .int 0, .ref q5, .int 0, .null, .int 0])), (q5, .inl (ty 5, 2, .inr (.inr (.inr (.inr (fun _ => none)))))), (q6, .inl (ty 5, 5, .inr (.inr (.inr (.inr (fun _ => none))))))] := hD
  refine W.widen (k := 2) (n := 7) (Nat.le_of_ble_eq_true rfl) (Nat.le_of_ble_eq_true rfl) ?_
  refine va_putF (D := D) (ci := 10) (v := .ref q6) (ty := tyX8 9) (C := RX8) (T := TX8) (N := 11) hx hb hts iv_k_X8_init_119_X8 tyX8 tyX8_ok nmX8 hown hK hP hD hS 0 rfl rfl 9 (by decide) (hts (.fieldLink RX8 21 "AnswerFold$Rule" "conditions" "[LAnswerFold$Literal;") (by decide +kernel)) (fun _ h9 => h9) rfl hin rfl (by decide +kernel) rfl rfl (Nat.le_of_ble_eq_true rfl) dX8_init_22 (fun H locs hP hD hS => ?_)
  have hP : va_P D vwCl [(h0, .inr (10, [.int 0, .int 0, .int 0, .int 0, .int (-1), .int 0, .int 0, .ref q5, .int 0, .ref q6, .int 0])), (q5, .inl (ty 5, 2, .inr (.inr (.inr (.inr (fun _ => none)))))), (q6, .inl (ty 5, 5, .inr (.inr (.inr (.inr (fun _ => none))))))] H := hP
  have hD : va_D A [(h0, .inr (10, [.int 0, .int 0, .int 0, .int 0, .int (-1), .int 0, .int 0, .ref q5, .int 0, .ref q6, .int 0])), (q5, .inl (ty 5, 2, .inr (.inr (.inr (.inr (fun _ => none)))))), (q6, .inl (ty 5, 5, .inr (.inr (.inr (.inr (fun _ => none))))))] := hD
  refine lv_aload_n hx hb dX8_init_25 rfl (lv_at hl 0 rfl) ?_
  refine lv_iload_n hx hb dX8_init_26 rfl (lv_at hl 1 rfl) ?_
  refine va_putF (D := D) (ci := 10) (v := .int 119) (ty := tyX8 0) (C := RX8) (T := TX8) (N := 11) hx hb hts iv_k_X8_init_119_X8 tyX8 tyX8_ok nmX8 hown hK hP hD hS 0 rfl rfl 0 (by decide) (hts (.fieldLink RX8 24 "AnswerFold$Rule" "kind" "C") (by decide +kernel)) (fun _ h9 => h9) rfl hin rfl (by decide +kernel) rfl rfl (Nat.le_of_ble_eq_true rfl) dX8_init_27 (fun H locs hP hD hS => ?_)
  have hP : va_P D vwCl [(h0, .inr (10, [.int 119, .int 0, .int 0, .int 0, .int (-1), .int 0, .int 0, .ref q5, .int 0, .ref q6, .int 0])), (q5, .inl (ty 5, 2, .inr (.inr (.inr (.inr (fun _ => none)))))), (q6, .inl (ty 5, 5, .inr (.inr (.inr (.inr (fun _ => none))))))] H := hP
  have hD : va_D A [(h0, .inr (10, [.int 119, .int 0, .int 0, .int 0, .int (-1), .int 0, .int 0, .ref q5, .int 0, .ref q6, .int 0])), (q5, .inl (ty 5, 2, .inr (.inr (.inr (.inr (fun _ => none)))))), (q6, .inl (ty 5, 5, .inr (.inr (.inr (.inr (fun _ => none))))))] := hD
  refine lv_aload_n hx hb dX8_init_30 rfl (lv_at hl 0 rfl) ?_
  refine lv_iload_n hx hb dX8_init_31 rfl (lv_at hl 2 rfl) ?_
  refine va_putF (D := D) (ci := 10) (v := .int a2) (ty := tyX8 1) (C := RX8) (T := TX8) (N := 11) hx hb hts iv_k_X8_init_119_X8 tyX8 tyX8_ok nmX8 hown hK hP hD hS 0 rfl rfl 1 (by decide) (hts (.fieldLink RX8 28 "AnswerFold$Rule" "part" "I") (by decide +kernel)) (fun _ h9 => h9) rfl hin rfl (by decide +kernel) rfl rfl (Nat.le_of_ble_eq_true rfl) dX8_init_32 (fun H locs hP hD hS => ?_)
  have hP : va_P D vwCl [(h0, .inr (10, [.int 119, .int a2, .int 0, .int 0, .int (-1), .int 0, .int 0, .ref q5, .int 0, .ref q6, .int 0])), (q5, .inl (ty 5, 2, .inr (.inr (.inr (.inr (fun _ => none)))))), (q6, .inl (ty 5, 5, .inr (.inr (.inr (.inr (fun _ => none))))))] H := hP
  have hD : va_D A [(h0, .inr (10, [.int 119, .int a2, .int 0, .int 0, .int (-1), .int 0, .int 0, .ref q5, .int 0, .ref q6, .int 0])), (q5, .inl (ty 5, 2, .inr (.inr (.inr (.inr (fun _ => none)))))), (q6, .inl (ty 5, 5, .inr (.inr (.inr (.inr (fun _ => none))))))] := hD
  have hP9 := hP.sub (ws' := [(h0, .inr (10, [.int 119, .int a2, .int 0, .int 0, .int (-1), .int 0, .int 0, .ref q5, .int 0, .ref q6, .int 0])), (q5, .inl (ty 5, 2, .inr (.inr (.inr (.inr (fun _ => none)))))), (q6, .inl (ty 5, 5, .inr (.inr (.inr (.inr (fun _ => none))))))]) [0, 1, 2] rfl
  have hD9 := hD.sub (ws' := [(h0, .inr (10, [.int 119, .int a2, .int 0, .int 0, .int (-1), .int 0, .int 0, .ref q5, .int 0, .ref q6, .int 0])), (q5, .inl (ty 5, 2, .inr (.inr (.inr (.inr (fun _ => none)))))), (q6, .inl (ty 5, 5, .inr (.inr (.inr (.inr (fun _ => none))))))]) [0, 1, 2] (by decide) rfl
  refine W.widen (k := 2) (n := 7) (Nat.le_of_ble_eq_true rfl) (Nat.le_of_ble_eq_true rfl) ?_
  exact W.vret hx hb hr (fun t ht hW => ⟨⟨[(h0, .inr (10, [.int 119, .int a2, .int 0, .int 0, .int (-1), .int 0, .int 0, .ref q5, .int 0, .ref q6, .int 0])), (q5, .inl (ty 5, 2, .inr (.inr (.inr (.inr (fun _ => none)))))), (q6, .inl (ty 5, 5, .inr (.inr (.inr (.inr (fun _ => none))))))], rfl, ⟨q5, q6, rfl⟩, wq_B.of ht hP9 hD9⟩, hS.F ht⟩) hS.2.2 dX8_init_35
theorem dX8_tellHead_0 : decode cX8_tellHead 0 = .ok (.aload_n 0, 1) := by decide +kernel
theorem dX8_tellHead_1 : decode cX8_tellHead 1 = .ok (.getfield 31, 3) := by decide +kernel
theorem dX8_tellHead_4 : decode cX8_tellHead 4 = .ok (.ifCond .lt 31, 3) := by decide +kernel
theorem dX8_tellHead_7 : decode cX8_tellHead 7 = .ok (.aload_n 0, 1) := by decide +kernel
theorem dX8_tellHead_8 : decode cX8_tellHead 8 = .ok (.getfield 31, 3) := by decide +kernel
theorem dX8_tellHead_11 : decode cX8_tellHead 11 = .ok (.iconst 2, 1) := by decide +kernel
theorem dX8_tellHead_12 : decode cX8_tellHead 12 = .ok (.if_icmp .ge 23, 3) := by decide +kernel
theorem dX8_tellHead_15 : decode cX8_tellHead 15 = .ok (.aload_n 0, 1) := by decide +kernel
theorem dX8_tellHead_16 : decode cX8_tellHead 16 = .ok (.getfield 17, 3) := by decide +kernel
theorem dX8_tellHead_19 : decode cX8_tellHead 19 = .ok (.aload_n 0, 1) := by decide +kernel
theorem dX8_tellHead_20 : decode cX8_tellHead 20 = .ok (.getfield 31, 3) := by decide +kernel
theorem dX8_tellHead_23 : decode cX8_tellHead 23 = .ok (.aload_n 1, 1) := by decide +kernel
theorem dX8_tellHead_24 : decode cX8_tellHead 24 = .ok (.aastore, 1) := by decide +kernel
theorem dX8_tellHead_25 : decode cX8_tellHead 25 = .ok (.aload_n 0, 1) := by decide +kernel
theorem dX8_tellHead_26 : decode cX8_tellHead 26 = .ok (.dup, 1) := by decide +kernel
theorem dX8_tellHead_27 : decode cX8_tellHead 27 = .ok (.getfield 31, 3) := by decide +kernel
theorem dX8_tellHead_30 : decode cX8_tellHead 30 = .ok (.iconst 1, 1) := by decide +kernel
theorem dX8_tellHead_31 : decode cX8_tellHead 31 = .ok (.iadd, 1) := by decide +kernel
theorem dX8_tellHead_32 : decode cX8_tellHead 32 = .ok (.putfield 31, 3) := by decide +kernel
theorem dX8_tellHead_35 : decode cX8_tellHead 35 = .ok (.aload_n 0, 1) := by decide +kernel
theorem dX8_tellHead_36 : decode cX8_tellHead 36 = .ok (.getfield 31, 3) := by decide +kernel
theorem dX8_tellHead_39 : decode cX8_tellHead 39 = .ok (.ireturn, 1) := by decide +kernel
def wW_k_X8_tellHead (ty : Nat → ClassId) (y0 : Nat) (y1 : Nat) (y2 : Nat) (z0 : Nat) (z9_0 : Int32) (z9_1 : Int32) (z9_2 : Int32) (z9_3 : Int32) (z9_4 : Int32) (z9_5 : Int32) (z9_6 : Int32) (z9_7 : Int32) (z9_8 : Int32) (z9_9 : Nat → Option Nat) (z9_10 : Int32) (z9_11 : Int32) (z9_12 : Int32) (z9_13 : Int32) (z9_14 : Int32) (z9_15 : Int32) (z9_16 : Int32) (z9_17 : Int32) : va_W := [(y0, .inr (10, [.int z9_0, .int z9_1, .int z9_2, .int z9_3, .int z9_4, .int z9_5, .int z9_6, .ref y1, .int z9_7, .ref y2, .int z9_8])), (y1, .inl (ty 5, 2, .inr (.inr (.inr (.inr z9_9))))), (z0, .inr (6, [.int z9_10, .int z9_11, .int z9_12, .int z9_13, .int z9_14, .int z9_15, .int z9_16, .int z9_17]))]
abbrev r_k_X8_tellHead : Type := Int32 × Int32 × Int32
def m_k_X8_tellHead (y_hc : Int32) : r_k_X8_tellHead :=
  if y_hc < 0 then
    (0, y_hc, y_hc)
  else
    if 2 ≤ y_hc then
      (0, y_hc, y_hc)
    else
      (1, (y_hc + 1), y_hc + 1)
def vs_k_X8_tellHead : List Cond := .code yX8_tellHead cX8_tellHead 2 (some .int) :: ([.fieldLink RX8 31 "AnswerFold$Rule" "headCount" "I", .fieldLink RX8 17 "AnswerFold$Rule" "heads" "[LAnswerFold$Literal;"] ++ (u_ws RX8 TX8 11))
theorem iv_k_X8_tellHead_X8 : ∀ w ∈ u_ws RX8 TX8 11, w ∈ vs_k_X8_tellHead := (fun _ h => List.mem_cons_of_mem _ (List.mem_append_right _ (h)))
set_option maxHeartbeats 4000000 in
set_option maxRecDepth 100000 in
theorem k_X8_tellHead (l : Launch) (D : va_G) (ty : Nat → ClassId) (td mi sz : Nat) (y0 : Nat) (y_k : Int32) (y_p : Int32) (y_lo : Int32) (y_up : Int32) (y_sp : Int32) (y_we : Int32) (y_le : Int32) (y1 : Nat) (y_hc : Int32) (y2 : Nat) (y_cc : Int32) (yh : Nat → Option Nat) (z0 : Nat) (z1 : Int32) (z2 : Int32) (z3 : Int32) (z4 : Int32) (z5 : Int32) (z6 : Int32) (z7 : Int32) (z8 : Int32) (TT : r_k_X8_tellHead) (hTT : TT = m_k_X8_tellHead y_hc) : Met l yX8_tellHead vs_k_X8_tellHead { frames := 0, cells := 0, slots := 0, locals := 0 } (va_Pc [.ref y0, .ref z0] (wq_P D ty td mi (wW_k_X8_tellHead ty y0 y1 y2 z0 y_k y_p y_lo y_up y_sp y_we y_le y_hc y_cc yh z1 z2 z3 z4 z5 z6 z7 z8) sz)) (va_Qi (fun (r : Int32) (u : va_W) => (TT.1 = 0 ∧ r = TT.2.1 ∧ (u = (wW_k_X8_tellHead ty y0 y1 y2 z0 y_k y_p y_lo y_up y_sp y_we y_le TT.2.2 y_cc yh z1 z2 z3 z4 z5 z6 z7 z8))) ∨ (TT.1 = 1 ∧ r = TT.2.1 ∧ (u = (wW_k_X8_tellHead ty y0 y1 y2 z0 y_k y_p y_lo y_up y_sp y_we y_le TT.2.2 y_cc (va_up yh y_hc.toNatClampNeg (some z0)) z1 z2 z3 z4 z5 z6 z7 z8)))) (wq_B D (va_A (wW_k_X8_tellHead ty y0 y1 y2 z0 y_k y_p y_lo y_up y_sp y_we y_le y_hc y_cc yh z1 z2 z3 z4 z5 z6 z7 z8) sz)) (va_A (wW_k_X8_tellHead ty y0 y1 y2 z0 y_k y_p y_lo y_up y_sp y_we y_le y_hc y_cc yh z1 z2 z3 z4 z5 z6 z7 z8) sz)) 0 0 (va_A (wW_k_X8_tellHead ty y0 y1 y2 z0 y_k y_p y_lo y_up y_sp y_we y_le y_hc y_cc yh z1 z2 z3 z4 z5 z6 z7 z8) sz) := by
  refine Met.ofW (cc := cX8_tellHead) (maxL := 2) (ret := (some .int)) (by decide) rfl ?_
  intro p e s m args below meth c s₁ B hml hv
  obtain ⟨rfl, hsz, hP, hK, hD0, hE⟩ := hv
  have hx := B.exec
  have hb := B.bytes
  have hr := B.returns
  have hts := atoms_spec (ws := vs_k_X8_tellHead) B.pre
  have hown : s.vm.findClass RX8 = some m.cls := findClass_of_methodNamed B.named
  have hlocks := B.notSynchronized
  subst hsz
  have hD := hD0.self (sz := s.heap.size)
  generalize hAe : va_A (wW_k_X8_tellHead ty y0 y1 y2 z0 y_k y_p y_lo y_up y_sp y_we y_le y_hc y_cc yh z1 z2 z3 z4 z5 z6 z7 z8) s.heap.size = A at hD hE ⊢
  have hA : ∀ q : Nat, s.heap.size ≤ q → A q := fun q h => by rw [← hAe]; exact Or.inr h
  have hS : va_S A s.heap s.heap [] := va_S.rf
  have hP : va_P D vwCl (wW_k_X8_tellHead ty y0 y1 y2 z0 y_k y_p y_lo y_up y_sp y_we y_le y_hc y_cc yh z1 z2 z3 z4 z5 z6 z7 z8) s.heap := hP
  have hl := lv_entry ([.ref y0, .ref z0]) (n := 2) (Nat.le_of_ble_eq_true rfl)
  rw [lg_entry_eq]
  generalize (lg_sl ([.ref y0, .ref z0]) ++ List.replicate (2 - (lg_sl ([.ref y0, .ref z0])).length) Slot.unset).toArray = ls at hl ⊢
  have hl : lv_has ls 2 [(0, .ref y0), (1, .ref z0)] := hl
  have END_0 : ∀ (r : Int32) (e0 : Int32), TT = (0, r, e0) → ∀ (H : Heap) (locs : List Loc), va_P D vwCl (wW_k_X8_tellHead ty y0 y1 y2 z0 y_k y_p y_lo y_up y_sp y_we y_le e0 y_cc yh z1 z2 z3 z4 z5 z6 z7 z8) H → va_D A (wW_k_X8_tellHead ty y0 y1 y2 z0 y_k y_p y_lo y_up y_sp y_we y_le e0 y_cc yh z1 z2 z3 z4 z5 z6 z7 z8) → va_S A s.heap H locs → ∀ (ls : Array Slot) (pc : Nat), decode cX8_tellHead pc = .ok (.ireturn, 1) → W p l e (headSpec vs_k_X8_tellHead { frames := 0, cells := 0, slots := 0, locals := 0 }).room s m ([.ref y0, .ref z0] : List Value).toArray below meth c H locs 0 0 (MQ below (va_Qi (fun (r : Int32) (u : va_W) => (TT.1 = 0 ∧ r = TT.2.1 ∧ (u = (wW_k_X8_tellHead ty y0 y1 y2 z0 y_k y_p y_lo y_up y_sp y_we y_le TT.2.2 y_cc yh z1 z2 z3 z4 z5 z6 z7 z8))) ∨ (TT.1 = 1 ∧ r = TT.2.1 ∧ (u = (wW_k_X8_tellHead ty y0 y1 y2 z0 y_k y_p y_lo y_up y_sp y_we y_le TT.2.2 y_cc (va_up yh y_hc.toNatClampNeg (some z0)) z1 z2 z3 z4 z5 z6 z7 z8)))) (wq_B D A) A) ([.ref y0, .ref z0] : List Value).toArray s 0 0 A) (F0 m pc ls [.int r]) := by
    intro r e0 hT H locs hP hD hS ls pc hd
    have hM : TT = (0, r, e0) := hT
    exact W.iret (v := r) hx hb hr (fun t ht hW => ⟨⟨r, (wW_k_X8_tellHead ty y0 y1 y2 z0 y_k y_p y_lo y_up y_sp y_we y_le e0 y_cc yh z1 z2 z3 z4 z5 z6 z7 z8), rfl, (Or.inl ⟨(by rw [hM]), (by rw [hM]), (by rw [hM])⟩), wq_B.of ht hP hD⟩, hS.F ht⟩) hS.2.2 hd
  have END_1 : ∀ (r : Int32) (e0 : Int32), TT = (1, r, e0) → ∀ (H : Heap) (locs : List Loc), va_P D vwCl (wW_k_X8_tellHead ty y0 y1 y2 z0 y_k y_p y_lo y_up y_sp y_we y_le e0 y_cc (va_up yh y_hc.toNatClampNeg (some z0)) z1 z2 z3 z4 z5 z6 z7 z8) H → va_D A (wW_k_X8_tellHead ty y0 y1 y2 z0 y_k y_p y_lo y_up y_sp y_we y_le e0 y_cc (va_up yh y_hc.toNatClampNeg (some z0)) z1 z2 z3 z4 z5 z6 z7 z8) → va_S A s.heap H locs → ∀ (ls : Array Slot) (pc : Nat), decode cX8_tellHead pc = .ok (.ireturn, 1) → W p l e (headSpec vs_k_X8_tellHead { frames := 0, cells := 0, slots := 0, locals := 0 }).room s m ([.ref y0, .ref z0] : List Value).toArray below meth c H locs 0 0 (MQ below (va_Qi (fun (r : Int32) (u : va_W) => (TT.1 = 0 ∧ r = TT.2.1 ∧ (u = (wW_k_X8_tellHead ty y0 y1 y2 z0 y_k y_p y_lo y_up y_sp y_we y_le TT.2.2 y_cc yh z1 z2 z3 z4 z5 z6 z7 z8))) ∨ (TT.1 = 1 ∧ r = TT.2.1 ∧ (u = (wW_k_X8_tellHead ty y0 y1 y2 z0 y_k y_p y_lo y_up y_sp y_we y_le TT.2.2 y_cc (va_up yh y_hc.toNatClampNeg (some z0)) z1 z2 z3 z4 z5 z6 z7 z8)))) (wq_B D A) A) ([.ref y0, .ref z0] : List Value).toArray s 0 0 A) (F0 m pc ls [.int r]) := by
    intro r e0 hT H locs hP hD hS ls pc hd
    have hM : TT = (1, r, e0) := hT
    exact W.iret (v := r) hx hb hr (fun t ht hW => ⟨⟨r, (wW_k_X8_tellHead ty y0 y1 y2 z0 y_k y_p y_lo y_up y_sp y_we y_le e0 y_cc (va_up yh y_hc.toNatClampNeg (some z0)) z1 z2 z3 z4 z5 z6 z7 z8), rfl, (Or.inr ⟨(by rw [hM]), (by rw [hM]), (by rw [hM])⟩), wq_B.of ht hP hD⟩, hS.F ht⟩) hS.2.2 hd
  have hT := hTT
  rw [m_k_X8_tellHead] at hT
  refine lv_aload_n hx hb dX8_tellHead_0 rfl (lv_at hl 0 rfl) ?_
  refine va_get (D := D) (ci := 10) (v := .int y_hc) (C := RX8) (T := TX8) (N := 11) hx hb hts iv_k_X8_tellHead_X8 hown hK hP 0 rfl rfl 8 (by decide) (hts (.fieldLink RX8 31 "AnswerFold$Rule" "headCount" "I") (by decide +kernel)) (fun _ h9 => h9) rfl dX8_tellHead_1 ?_
  refine lv_if_lt (tgt := 35) hx hb dX8_tellHead_4 (by decide) (fun c_1 => ?_) (fun c_1 => ?_)
  · rw [if_pos c_1] at hT
    refine lv_aload_n hx hb dX8_tellHead_35 rfl (lv_at hl 0 rfl) ?_
    refine va_get (D := D) (ci := 10) (v := .int y_hc) (C := RX8) (T := TX8) (N := 11) hx hb hts iv_k_X8_tellHead_X8 hown hK hP 0 rfl rfl 8 (by decide) (hts (.fieldLink RX8 31 "AnswerFold$Rule" "headCount" "I") (by decide +kernel)) (fun _ h9 => h9) rfl dX8_tellHead_36 ?_
    exact END_0 y_hc y_hc hT _ _ hP hD hS _ _ dX8_tellHead_39
  · rw [if_neg c_1] at hT
    refine lv_aload_n hx hb dX8_tellHead_7 rfl (lv_at hl 0 rfl) ?_
    refine va_get (D := D) (ci := 10) (v := .int y_hc) (C := RX8) (T := TX8) (N := 11) hx hb hts iv_k_X8_tellHead_X8 hown hK hP 0 rfl rfl 8 (by decide) (hts (.fieldLink RX8 31 "AnswerFold$Rule" "headCount" "I") (by decide +kernel)) (fun _ h9 => h9) rfl dX8_tellHead_8 ?_
    refine lv_iconst (v := 2) hx hb dX8_tellHead_11 (by decide) ?_
    refine lv_icmp_ge (tgt := 35) hx hb dX8_tellHead_12 (by decide) (fun c_2 => ?_) (fun c_2 => ?_)
    · rw [if_pos c_2] at hT
      refine lv_aload_n hx hb dX8_tellHead_35 rfl (lv_at hl 0 rfl) ?_
      refine va_get (D := D) (ci := 10) (v := .int y_hc) (C := RX8) (T := TX8) (N := 11) hx hb hts iv_k_X8_tellHead_X8 hown hK hP 0 rfl rfl 8 (by decide) (hts (.fieldLink RX8 31 "AnswerFold$Rule" "headCount" "I") (by decide +kernel)) (fun _ h9 => h9) rfl dX8_tellHead_36 ?_
      exact END_0 y_hc y_hc hT _ _ hP hD hS _ _ dX8_tellHead_39
    · rw [if_neg c_2] at hT
      refine lv_aload_n hx hb dX8_tellHead_15 rfl (lv_at hl 0 rfl) ?_
      refine va_get (D := D) (ci := 10) (v := .ref y1) (C := RX8) (T := TX8) (N := 11) hx hb hts iv_k_X8_tellHead_X8 hown hK hP 0 rfl rfl 7 (by decide) (hts (.fieldLink RX8 17 "AnswerFold$Rule" "heads" "[LAnswerFold$Literal;") (by decide +kernel)) (fun _ h9 => h9) rfl dX8_tellHead_16 ?_
      refine lv_aload_n hx hb dX8_tellHead_19 rfl (lv_at hl 0 rfl) ?_
      refine va_get (D := D) (ci := 10) (v := .int y_hc) (C := RX8) (T := TX8) (N := 11) hx hb hts iv_k_X8_tellHead_X8 hown hK hP 0 rfl rfl 8 (by decide) (hts (.fieldLink RX8 31 "AnswerFold$Rule" "headCount" "I") (by decide +kernel)) (fun _ h9 => h9) rfl dX8_tellHead_20 ?_
      refine lv_aload_n hx hb dX8_tellHead_23 rfl (lv_at hl 1 rfl) ?_
      refine va_astq (D := D) hx hb hK hP hD hS 1 5 2 6 rfl rfl rfl rfl (wi_in (wi_lo c_1) (wi_hi c_2 (by decide))) dX8_tellHead_24 (fun H locs hP hD hS => ?_)
      have hP : va_P D vwCl (wW_k_X8_tellHead ty y0 y1 y2 z0 y_k y_p y_lo y_up y_sp y_we y_le y_hc y_cc (va_up yh y_hc.toNatClampNeg (some z0)) z1 z2 z3 z4 z5 z6 z7 z8) H := hP
      have hD : va_D A (wW_k_X8_tellHead ty y0 y1 y2 z0 y_k y_p y_lo y_up y_sp y_we y_le y_hc y_cc (va_up yh y_hc.toNatClampNeg (some z0)) z1 z2 z3 z4 z5 z6 z7 z8) := hD
      refine lv_aload_n hx hb dX8_tellHead_25 rfl (lv_at hl 0 rfl) ?_
      refine lv_dup hx hb dX8_tellHead_26 rfl ?_
      refine va_get (D := D) (ci := 10) (v := .int y_hc) (C := RX8) (T := TX8) (N := 11) hx hb hts iv_k_X8_tellHead_X8 hown hK hP 0 rfl rfl 8 (by decide) (hts (.fieldLink RX8 31 "AnswerFold$Rule" "headCount" "I") (by decide +kernel)) (fun _ h9 => h9) rfl dX8_tellHead_27 ?_
      refine lv_iconst (v := 1) hx hb dX8_tellHead_30 (by decide) ?_
      refine lv_iadd hx hb dX8_tellHead_31 ?_
      refine va_put (D := D) (ci := 10) (v := .int (y_hc + 1)) (ty := tyX8 8) (C := RX8) (T := TX8) (N := 11) hx hb hts iv_k_X8_tellHead_X8 tyX8 tyX8_ok nmX8 hown hK hP hD hS 0 rfl rfl 8 (by decide) (hts (.fieldLink RX8 31 "AnswerFold$Rule" "headCount" "I") (by decide +kernel)) (fun _ h9 => h9) rfl (by decide +kernel) rfl rfl (Nat.le_of_ble_eq_true rfl) dX8_tellHead_32 (fun H locs hP hD hS => ?_)
      have hP : va_P D vwCl (wW_k_X8_tellHead ty y0 y1 y2 z0 y_k y_p y_lo y_up y_sp y_we y_le (y_hc + 1) y_cc (va_up yh y_hc.toNatClampNeg (some z0)) z1 z2 z3 z4 z5 z6 z7 z8) H := hP
      have hD : va_D A (wW_k_X8_tellHead ty y0 y1 y2 z0 y_k y_p y_lo y_up y_sp y_we y_le (y_hc + 1) y_cc (va_up yh y_hc.toNatClampNeg (some z0)) z1 z2 z3 z4 z5 z6 z7 z8) := hD
      refine lv_aload_n hx hb dX8_tellHead_35 rfl (lv_at hl 0 rfl) ?_
      refine va_get (D := D) (ci := 10) (v := .int (y_hc + 1)) (C := RX8) (T := TX8) (N := 11) hx hb hts iv_k_X8_tellHead_X8 hown hK hP 0 rfl rfl 8 (by decide) (hts (.fieldLink RX8 31 "AnswerFold$Rule" "headCount" "I") (by decide +kernel)) (fun _ h9 => h9) rfl dX8_tellHead_36 ?_
      exact END_1 (y_hc + 1) (y_hc + 1) hT _ _ hP hD hS _ _ dX8_tellHead_39
theorem dX8_tellCondition_0 : decode cX8_tellCondition 0 = .ok (.aload_n 0, 1) := by decide +kernel
theorem dX8_tellCondition_1 : decode cX8_tellCondition 1 = .ok (.getfield 34, 3) := by decide +kernel
theorem dX8_tellCondition_4 : decode cX8_tellCondition 4 = .ok (.ifCond .lt 31, 3) := by decide +kernel
theorem dX8_tellCondition_7 : decode cX8_tellCondition 7 = .ok (.aload_n 0, 1) := by decide +kernel
theorem dX8_tellCondition_8 : decode cX8_tellCondition 8 = .ok (.getfield 34, 3) := by decide +kernel
theorem dX8_tellCondition_11 : decode cX8_tellCondition 11 = .ok (.iconst 5, 1) := by decide +kernel
theorem dX8_tellCondition_12 : decode cX8_tellCondition 12 = .ok (.if_icmp .ge 23, 3) := by decide +kernel
theorem dX8_tellCondition_15 : decode cX8_tellCondition 15 = .ok (.aload_n 0, 1) := by decide +kernel
theorem dX8_tellCondition_16 : decode cX8_tellCondition 16 = .ok (.getfield 21, 3) := by decide +kernel
theorem dX8_tellCondition_19 : decode cX8_tellCondition 19 = .ok (.aload_n 0, 1) := by decide +kernel
theorem dX8_tellCondition_20 : decode cX8_tellCondition 20 = .ok (.getfield 34, 3) := by decide +kernel
theorem dX8_tellCondition_23 : decode cX8_tellCondition 23 = .ok (.aload_n 1, 1) := by decide +kernel
theorem dX8_tellCondition_24 : decode cX8_tellCondition 24 = .ok (.aastore, 1) := by decide +kernel
theorem dX8_tellCondition_25 : decode cX8_tellCondition 25 = .ok (.aload_n 0, 1) := by decide +kernel
theorem dX8_tellCondition_26 : decode cX8_tellCondition 26 = .ok (.dup, 1) := by decide +kernel
theorem dX8_tellCondition_27 : decode cX8_tellCondition 27 = .ok (.getfield 34, 3) := by decide +kernel
theorem dX8_tellCondition_30 : decode cX8_tellCondition 30 = .ok (.iconst 1, 1) := by decide +kernel
theorem dX8_tellCondition_31 : decode cX8_tellCondition 31 = .ok (.iadd, 1) := by decide +kernel
theorem dX8_tellCondition_32 : decode cX8_tellCondition 32 = .ok (.putfield 34, 3) := by decide +kernel
theorem dX8_tellCondition_35 : decode cX8_tellCondition 35 = .ok (.aload_n 0, 1) := by decide +kernel
theorem dX8_tellCondition_36 : decode cX8_tellCondition 36 = .ok (.getfield 34, 3) := by decide +kernel
theorem dX8_tellCondition_39 : decode cX8_tellCondition 39 = .ok (.ireturn, 1) := by decide +kernel
def wW_k_X8_tellCondition (ty : Nat → ClassId) (y0 : Nat) (y1 : Nat) (y2 : Nat) (z0 : Nat) (z9_0 : Int32) (z9_1 : Int32) (z9_2 : Int32) (z9_3 : Int32) (z9_4 : Int32) (z9_5 : Int32) (z9_6 : Int32) (z9_7 : Int32) (z9_8 : Int32) (z9_9 : Nat → Option Nat) (z9_10 : Int32) (z9_11 : Int32) (z9_12 : Int32) (z9_13 : Int32) (z9_14 : Int32) (z9_15 : Int32) (z9_16 : Int32) (z9_17 : Int32) : va_W := [(y0, .inr (10, [.int z9_0, .int z9_1, .int z9_2, .int z9_3, .int z9_4, .int z9_5, .int z9_6, .ref y1, .int z9_7, .ref y2, .int z9_8])), (y2, .inl (ty 5, 5, .inr (.inr (.inr (.inr z9_9))))), (z0, .inr (6, [.int z9_10, .int z9_11, .int z9_12, .int z9_13, .int z9_14, .int z9_15, .int z9_16, .int z9_17]))]
abbrev r_k_X8_tellCondition : Type := Int32 × Int32 × Int32
def m_k_X8_tellCondition (y_cc : Int32) : r_k_X8_tellCondition :=
  if y_cc < 0 then
    (0, y_cc, y_cc)
  else
    if 5 ≤ y_cc then
      (0, y_cc, y_cc)
    else
      (1, (y_cc + 1), y_cc + 1)
def vs_k_X8_tellCondition : List Cond := .code yX8_tellCondition cX8_tellCondition 2 (some .int) :: ([.fieldLink RX8 34 "AnswerFold$Rule" "conditionCount" "I", .fieldLink RX8 21 "AnswerFold$Rule" "conditions" "[LAnswerFold$Literal;"] ++ (u_ws RX8 TX8 11))
theorem iv_k_X8_tellCondition_X8 : ∀ w ∈ u_ws RX8 TX8 11, w ∈ vs_k_X8_tellCondition := (fun _ h => List.mem_cons_of_mem _ (List.mem_append_right _ (h)))
set_option maxHeartbeats 4000000 in
set_option maxRecDepth 100000 in
theorem k_X8_tellCondition (l : Launch) (D : va_G) (ty : Nat → ClassId) (td mi sz : Nat) (y0 : Nat) (y_k : Int32) (y_p : Int32) (y_lo : Int32) (y_up : Int32) (y_sp : Int32) (y_we : Int32) (y_le : Int32) (y1 : Nat) (y_hc : Int32) (y2 : Nat) (y_cc : Int32) (yc : Nat → Option Nat) (z0 : Nat) (z1 : Int32) (z2 : Int32) (z3 : Int32) (z4 : Int32) (z5 : Int32) (z6 : Int32) (z7 : Int32) (z8 : Int32) (TT : r_k_X8_tellCondition) (hTT : TT = m_k_X8_tellCondition y_cc) : Met l yX8_tellCondition vs_k_X8_tellCondition { frames := 0, cells := 0, slots := 0, locals := 0 } (va_Pc [.ref y0, .ref z0] (wq_P D ty td mi (wW_k_X8_tellCondition ty y0 y1 y2 z0 y_k y_p y_lo y_up y_sp y_we y_le y_hc y_cc yc z1 z2 z3 z4 z5 z6 z7 z8) sz)) (va_Qi (fun (r : Int32) (u : va_W) => (TT.1 = 0 ∧ r = TT.2.1 ∧ (u = (wW_k_X8_tellCondition ty y0 y1 y2 z0 y_k y_p y_lo y_up y_sp y_we y_le y_hc TT.2.2 yc z1 z2 z3 z4 z5 z6 z7 z8))) ∨ (TT.1 = 1 ∧ r = TT.2.1 ∧ (u = (wW_k_X8_tellCondition ty y0 y1 y2 z0 y_k y_p y_lo y_up y_sp y_we y_le y_hc TT.2.2 (va_up yc y_cc.toNatClampNeg (some z0)) z1 z2 z3 z4 z5 z6 z7 z8)))) (wq_B D (va_A (wW_k_X8_tellCondition ty y0 y1 y2 z0 y_k y_p y_lo y_up y_sp y_we y_le y_hc y_cc yc z1 z2 z3 z4 z5 z6 z7 z8) sz)) (va_A (wW_k_X8_tellCondition ty y0 y1 y2 z0 y_k y_p y_lo y_up y_sp y_we y_le y_hc y_cc yc z1 z2 z3 z4 z5 z6 z7 z8) sz)) 0 0 (va_A (wW_k_X8_tellCondition ty y0 y1 y2 z0 y_k y_p y_lo y_up y_sp y_we y_le y_hc y_cc yc z1 z2 z3 z4 z5 z6 z7 z8) sz) := by
  refine Met.ofW (cc := cX8_tellCondition) (maxL := 2) (ret := (some .int)) (by decide) rfl ?_
  intro p e s m args below meth c s₁ B hml hv
  obtain ⟨rfl, hsz, hP, hK, hD0, hE⟩ := hv
  have hx := B.exec
  have hb := B.bytes
  have hr := B.returns
  have hts := atoms_spec (ws := vs_k_X8_tellCondition) B.pre
  have hown : s.vm.findClass RX8 = some m.cls := findClass_of_methodNamed B.named
  have hlocks := B.notSynchronized
  subst hsz
  have hD := hD0.self (sz := s.heap.size)
  generalize hAe : va_A (wW_k_X8_tellCondition ty y0 y1 y2 z0 y_k y_p y_lo y_up y_sp y_we y_le y_hc y_cc yc z1 z2 z3 z4 z5 z6 z7 z8) s.heap.size = A at hD hE ⊢
  have hA : ∀ q : Nat, s.heap.size ≤ q → A q := fun q h => by rw [← hAe]; exact Or.inr h
  have hS : va_S A s.heap s.heap [] := va_S.rf
  have hP : va_P D vwCl (wW_k_X8_tellCondition ty y0 y1 y2 z0 y_k y_p y_lo y_up y_sp y_we y_le y_hc y_cc yc z1 z2 z3 z4 z5 z6 z7 z8) s.heap := hP
  have hl := lv_entry ([.ref y0, .ref z0]) (n := 2) (Nat.le_of_ble_eq_true rfl)
  rw [lg_entry_eq]
  generalize (lg_sl ([.ref y0, .ref z0]) ++ List.replicate (2 - (lg_sl ([.ref y0, .ref z0])).length) Slot.unset).toArray = ls at hl ⊢
  have hl : lv_has ls 2 [(0, .ref y0), (1, .ref z0)] := hl
  have END_0 : ∀ (r : Int32) (e0 : Int32), TT = (0, r, e0) → ∀ (H : Heap) (locs : List Loc), va_P D vwCl (wW_k_X8_tellCondition ty y0 y1 y2 z0 y_k y_p y_lo y_up y_sp y_we y_le y_hc e0 yc z1 z2 z3 z4 z5 z6 z7 z8) H → va_D A (wW_k_X8_tellCondition ty y0 y1 y2 z0 y_k y_p y_lo y_up y_sp y_we y_le y_hc e0 yc z1 z2 z3 z4 z5 z6 z7 z8) → va_S A s.heap H locs → ∀ (ls : Array Slot) (pc : Nat), decode cX8_tellCondition pc = .ok (.ireturn, 1) → W p l e (headSpec vs_k_X8_tellCondition { frames := 0, cells := 0, slots := 0, locals := 0 }).room s m ([.ref y0, .ref z0] : List Value).toArray below meth c H locs 0 0 (MQ below (va_Qi (fun (r : Int32) (u : va_W) => (TT.1 = 0 ∧ r = TT.2.1 ∧ (u = (wW_k_X8_tellCondition ty y0 y1 y2 z0 y_k y_p y_lo y_up y_sp y_we y_le y_hc TT.2.2 yc z1 z2 z3 z4 z5 z6 z7 z8))) ∨ (TT.1 = 1 ∧ r = TT.2.1 ∧ (u = (wW_k_X8_tellCondition ty y0 y1 y2 z0 y_k y_p y_lo y_up y_sp y_we y_le y_hc TT.2.2 (va_up yc y_cc.toNatClampNeg (some z0)) z1 z2 z3 z4 z5 z6 z7 z8)))) (wq_B D A) A) ([.ref y0, .ref z0] : List Value).toArray s 0 0 A) (F0 m pc ls [.int r]) := by
    intro r e0 hT H locs hP hD hS ls pc hd
    have hM : TT = (0, r, e0) := hT
    exact W.iret (v := r) hx hb hr (fun t ht hW => ⟨⟨r, (wW_k_X8_tellCondition ty y0 y1 y2 z0 y_k y_p y_lo y_up y_sp y_we y_le y_hc e0 yc z1 z2 z3 z4 z5 z6 z7 z8), rfl, (Or.inl ⟨(by rw [hM]), (by rw [hM]), (by rw [hM])⟩), wq_B.of ht hP hD⟩, hS.F ht⟩) hS.2.2 hd
  have END_1 : ∀ (r : Int32) (e0 : Int32), TT = (1, r, e0) → ∀ (H : Heap) (locs : List Loc), va_P D vwCl (wW_k_X8_tellCondition ty y0 y1 y2 z0 y_k y_p y_lo y_up y_sp y_we y_le y_hc e0 (va_up yc y_cc.toNatClampNeg (some z0)) z1 z2 z3 z4 z5 z6 z7 z8) H → va_D A (wW_k_X8_tellCondition ty y0 y1 y2 z0 y_k y_p y_lo y_up y_sp y_we y_le y_hc e0 (va_up yc y_cc.toNatClampNeg (some z0)) z1 z2 z3 z4 z5 z6 z7 z8) → va_S A s.heap H locs → ∀ (ls : Array Slot) (pc : Nat), decode cX8_tellCondition pc = .ok (.ireturn, 1) → W p l e (headSpec vs_k_X8_tellCondition { frames := 0, cells := 0, slots := 0, locals := 0 }).room s m ([.ref y0, .ref z0] : List Value).toArray below meth c H locs 0 0 (MQ below (va_Qi (fun (r : Int32) (u : va_W) => (TT.1 = 0 ∧ r = TT.2.1 ∧ (u = (wW_k_X8_tellCondition ty y0 y1 y2 z0 y_k y_p y_lo y_up y_sp y_we y_le y_hc TT.2.2 yc z1 z2 z3 z4 z5 z6 z7 z8))) ∨ (TT.1 = 1 ∧ r = TT.2.1 ∧ (u = (wW_k_X8_tellCondition ty y0 y1 y2 z0 y_k y_p y_lo y_up y_sp y_we y_le y_hc TT.2.2 (va_up yc y_cc.toNatClampNeg (some z0)) z1 z2 z3 z4 z5 z6 z7 z8)))) (wq_B D A) A) ([.ref y0, .ref z0] : List Value).toArray s 0 0 A) (F0 m pc ls [.int r]) := by
    intro r e0 hT H locs hP hD hS ls pc hd
    have hM : TT = (1, r, e0) := hT
    exact W.iret (v := r) hx hb hr (fun t ht hW => ⟨⟨r, (wW_k_X8_tellCondition ty y0 y1 y2 z0 y_k y_p y_lo y_up y_sp y_we y_le y_hc e0 (va_up yc y_cc.toNatClampNeg (some z0)) z1 z2 z3 z4 z5 z6 z7 z8), rfl, (Or.inr ⟨(by rw [hM]), (by rw [hM]), (by rw [hM])⟩), wq_B.of ht hP hD⟩, hS.F ht⟩) hS.2.2 hd
  have hT := hTT
  rw [m_k_X8_tellCondition] at hT
  refine lv_aload_n hx hb dX8_tellCondition_0 rfl (lv_at hl 0 rfl) ?_
  refine va_get (D := D) (ci := 10) (v := .int y_cc) (C := RX8) (T := TX8) (N := 11) hx hb hts iv_k_X8_tellCondition_X8 hown hK hP 0 rfl rfl 10 (by decide) (hts (.fieldLink RX8 34 "AnswerFold$Rule" "conditionCount" "I") (by decide +kernel)) (fun _ h9 => h9) rfl dX8_tellCondition_1 ?_
  refine lv_if_lt (tgt := 35) hx hb dX8_tellCondition_4 (by decide) (fun c_1 => ?_) (fun c_1 => ?_)
  · rw [if_pos c_1] at hT
    refine lv_aload_n hx hb dX8_tellCondition_35 rfl (lv_at hl 0 rfl) ?_
    refine va_get (D := D) (ci := 10) (v := .int y_cc) (C := RX8) (T := TX8) (N := 11) hx hb hts iv_k_X8_tellCondition_X8 hown hK hP 0 rfl rfl 10 (by decide) (hts (.fieldLink RX8 34 "AnswerFold$Rule" "conditionCount" "I") (by decide +kernel)) (fun _ h9 => h9) rfl dX8_tellCondition_36 ?_
    exact END_0 y_cc y_cc hT _ _ hP hD hS _ _ dX8_tellCondition_39
  · rw [if_neg c_1] at hT
    refine lv_aload_n hx hb dX8_tellCondition_7 rfl (lv_at hl 0 rfl) ?_
    refine va_get (D := D) (ci := 10) (v := .int y_cc) (C := RX8) (T := TX8) (N := 11) hx hb hts iv_k_X8_tellCondition_X8 hown hK hP 0 rfl rfl 10 (by decide) (hts (.fieldLink RX8 34 "AnswerFold$Rule" "conditionCount" "I") (by decide +kernel)) (fun _ h9 => h9) rfl dX8_tellCondition_8 ?_
    refine lv_iconst (v := 5) hx hb dX8_tellCondition_11 (by decide) ?_
    refine lv_icmp_ge (tgt := 35) hx hb dX8_tellCondition_12 (by decide) (fun c_2 => ?_) (fun c_2 => ?_)
    · rw [if_pos c_2] at hT
      refine lv_aload_n hx hb dX8_tellCondition_35 rfl (lv_at hl 0 rfl) ?_
      refine va_get (D := D) (ci := 10) (v := .int y_cc) (C := RX8) (T := TX8) (N := 11) hx hb hts iv_k_X8_tellCondition_X8 hown hK hP 0 rfl rfl 10 (by decide) (hts (.fieldLink RX8 34 "AnswerFold$Rule" "conditionCount" "I") (by decide +kernel)) (fun _ h9 => h9) rfl dX8_tellCondition_36 ?_
      exact END_0 y_cc y_cc hT _ _ hP hD hS _ _ dX8_tellCondition_39
    · rw [if_neg c_2] at hT
      refine lv_aload_n hx hb dX8_tellCondition_15 rfl (lv_at hl 0 rfl) ?_
      refine va_get (D := D) (ci := 10) (v := .ref y2) (C := RX8) (T := TX8) (N := 11) hx hb hts iv_k_X8_tellCondition_X8 hown hK hP 0 rfl rfl 9 (by decide) (hts (.fieldLink RX8 21 "AnswerFold$Rule" "conditions" "[LAnswerFold$Literal;") (by decide +kernel)) (fun _ h9 => h9) rfl dX8_tellCondition_16 ?_
      refine lv_aload_n hx hb dX8_tellCondition_19 rfl (lv_at hl 0 rfl) ?_
      refine va_get (D := D) (ci := 10) (v := .int y_cc) (C := RX8) (T := TX8) (N := 11) hx hb hts iv_k_X8_tellCondition_X8 hown hK hP 0 rfl rfl 10 (by decide) (hts (.fieldLink RX8 34 "AnswerFold$Rule" "conditionCount" "I") (by decide +kernel)) (fun _ h9 => h9) rfl dX8_tellCondition_20 ?_
      refine lv_aload_n hx hb dX8_tellCondition_23 rfl (lv_at hl 1 rfl) ?_
      refine va_astq (D := D) hx hb hK hP hD hS 1 5 2 6 rfl rfl rfl rfl (wi_in (wi_lo c_1) (wi_hi c_2 (by decide))) dX8_tellCondition_24 (fun H locs hP hD hS => ?_)
      have hP : va_P D vwCl (wW_k_X8_tellCondition ty y0 y1 y2 z0 y_k y_p y_lo y_up y_sp y_we y_le y_hc y_cc (va_up yc y_cc.toNatClampNeg (some z0)) z1 z2 z3 z4 z5 z6 z7 z8) H := hP
      have hD : va_D A (wW_k_X8_tellCondition ty y0 y1 y2 z0 y_k y_p y_lo y_up y_sp y_we y_le y_hc y_cc (va_up yc y_cc.toNatClampNeg (some z0)) z1 z2 z3 z4 z5 z6 z7 z8) := hD
      refine lv_aload_n hx hb dX8_tellCondition_25 rfl (lv_at hl 0 rfl) ?_
      refine lv_dup hx hb dX8_tellCondition_26 rfl ?_
      refine va_get (D := D) (ci := 10) (v := .int y_cc) (C := RX8) (T := TX8) (N := 11) hx hb hts iv_k_X8_tellCondition_X8 hown hK hP 0 rfl rfl 10 (by decide) (hts (.fieldLink RX8 34 "AnswerFold$Rule" "conditionCount" "I") (by decide +kernel)) (fun _ h9 => h9) rfl dX8_tellCondition_27 ?_
      refine lv_iconst (v := 1) hx hb dX8_tellCondition_30 (by decide) ?_
      refine lv_iadd hx hb dX8_tellCondition_31 ?_
      refine va_put (D := D) (ci := 10) (v := .int (y_cc + 1)) (ty := tyX8 10) (C := RX8) (T := TX8) (N := 11) hx hb hts iv_k_X8_tellCondition_X8 tyX8 tyX8_ok nmX8 hown hK hP hD hS 0 rfl rfl 10 (by decide) (hts (.fieldLink RX8 34 "AnswerFold$Rule" "conditionCount" "I") (by decide +kernel)) (fun _ h9 => h9) rfl (by decide +kernel) rfl rfl (Nat.le_of_ble_eq_true rfl) dX8_tellCondition_32 (fun H locs hP hD hS => ?_)
      have hP : va_P D vwCl (wW_k_X8_tellCondition ty y0 y1 y2 z0 y_k y_p y_lo y_up y_sp y_we y_le y_hc (y_cc + 1) (va_up yc y_cc.toNatClampNeg (some z0)) z1 z2 z3 z4 z5 z6 z7 z8) H := hP
      have hD : va_D A (wW_k_X8_tellCondition ty y0 y1 y2 z0 y_k y_p y_lo y_up y_sp y_we y_le y_hc (y_cc + 1) (va_up yc y_cc.toNatClampNeg (some z0)) z1 z2 z3 z4 z5 z6 z7 z8) := hD
      refine lv_aload_n hx hb dX8_tellCondition_35 rfl (lv_at hl 0 rfl) ?_
      refine va_get (D := D) (ci := 10) (v := .int (y_cc + 1)) (C := RX8) (T := TX8) (N := 11) hx hb hts iv_k_X8_tellCondition_X8 hown hK hP 0 rfl rfl 10 (by decide) (hts (.fieldLink RX8 34 "AnswerFold$Rule" "conditionCount" "I") (by decide +kernel)) (fun _ h9 => h9) rfl dX8_tellCondition_36 ?_
      exact END_1 (y_cc + 1) (y_cc + 1) hT _ _ hP hD hS _ _ dX8_tellCondition_39
theorem dX6_tellRule_0 : decode cX6_tellRule 0 = .ok (.aload_n 0, 1) := by decide +kernel
theorem dX6_tellRule_1 : decode cX6_tellRule 1 = .ok (.getfield 45, 3) := by decide +kernel
theorem dX6_tellRule_4 : decode cX6_tellRule 4 = .ok (.ifCond .lt 12, 3) := by decide +kernel
theorem dX6_tellRule_7 : decode cX6_tellRule 7 = .ok (.aload_n 0, 1) := by decide +kernel
theorem dX6_tellRule_8 : decode cX6_tellRule 8 = .ok (.getfield 45, 3) := by decide +kernel
theorem dX6_tellRule_11 : decode cX6_tellRule 11 = .ok (.bipush 20, 2) := by decide +kernel
theorem dX6_tellRule_13 : decode cX6_tellRule 13 = .ok (.if_icmp .lt 5, 3) := by decide +kernel
theorem dX6_tellRule_16 : decode cX6_tellRule 16 = .ok (.iconst (-1), 1) := by decide +kernel
theorem dX6_tellRule_17 : decode cX6_tellRule 17 = .ok (.ireturn, 1) := by decide +kernel
theorem dX6_tellRule_18 : decode cX6_tellRule 18 = .ok (.aload_n 0, 1) := by decide +kernel
theorem dX6_tellRule_19 : decode cX6_tellRule 19 = .ok (.getfield 17, 3) := by decide +kernel
theorem dX6_tellRule_22 : decode cX6_tellRule 22 = .ok (.aload_n 0, 1) := by decide +kernel
theorem dX6_tellRule_23 : decode cX6_tellRule 23 = .ok (.getfield 45, 3) := by decide +kernel
theorem dX6_tellRule_26 : decode cX6_tellRule 26 = .ok (.aload_n 1, 1) := by decide +kernel
theorem dX6_tellRule_27 : decode cX6_tellRule 27 = .ok (.aastore, 1) := by decide +kernel
theorem dX6_tellRule_28 : decode cX6_tellRule 28 = .ok (.aload_n 0, 1) := by decide +kernel
theorem dX6_tellRule_29 : decode cX6_tellRule 29 = .ok (.dup, 1) := by decide +kernel
theorem dX6_tellRule_30 : decode cX6_tellRule 30 = .ok (.getfield 45, 3) := by decide +kernel
theorem dX6_tellRule_33 : decode cX6_tellRule 33 = .ok (.dup_x1, 1) := by decide +kernel
theorem dX6_tellRule_34 : decode cX6_tellRule 34 = .ok (.iconst 1, 1) := by decide +kernel
theorem dX6_tellRule_35 : decode cX6_tellRule 35 = .ok (.iadd, 1) := by decide +kernel
theorem dX6_tellRule_36 : decode cX6_tellRule 36 = .ok (.putfield 45, 3) := by decide +kernel
theorem dX6_tellRule_39 : decode cX6_tellRule 39 = .ok (.ireturn, 1) := by decide +kernel
def wW_k_X6_tellRule (ty : Nat → ClassId) (X : Nat → Nat) (y0 : Nat) (y1 : Nat) (y2 : Nat) (z9_0 : Int32) (z9_1 : Int32) (z9_2 : Int32) (z9_3 : Int32) (z9_4 : Nat → Option Nat) (z9_5 : Int32) (z9_6 : Int32) (z9_7 : Int32) (z9_8 : Int32) (z9_9 : Int32) (z9_10 : Int32) (z9_11 : Int32) (z9_12 : Int32) (z9_13 : Int32) : va_W := [((X 1), .inr (8, [.ref (X 2), .int z9_0, .ref (X 3), .int z9_1, .ref (X 4), .ref (X 5), .int z9_2, .ref (X 6), .ref (X 7), .int z9_3])), ((X 3), .inl (ty 4, 20, .inr (.inr (.inr (.inr z9_4))))), (y0, .inr (10, [.int z9_5, .int z9_6, .int z9_7, .int z9_8, .int z9_9, .int z9_10, .int z9_11, .ref y1, .int z9_12, .ref y2, .int z9_13]))]
abbrev r_k_X6_tellRule : Type := Int32 × Int32 × Int32
def m_k_X6_tellRule (rn : Int32) : r_k_X6_tellRule :=
  if rn < 0 then
    (0, (-1), rn)
  else
    if rn < 20 then
      (1, rn, rn + 1)
    else
      (0, (-1), rn)
def vs_k_X6_tellRule : List Cond := .code yX6_tellRule cX6_tellRule 2 (some .int) :: ([.fieldLink RX6 45 "AnswerFold$Program" "ruleCount" "I", .fieldLink RX6 17 "AnswerFold$Program" "rules" "[LAnswerFold$Rule;"] ++ (u_ws RX6 TX6 10))
theorem iv_k_X6_tellRule_X6 : ∀ w ∈ u_ws RX6 TX6 10, w ∈ vs_k_X6_tellRule := (fun _ h => List.mem_cons_of_mem _ (List.mem_append_right _ (h)))
set_option maxHeartbeats 4000000 in
set_option maxRecDepth 100000 in
theorem k_X6_tellRule (l : Launch) (D : va_G) (ty : Nat → ClassId) (td mi sz : Nat) (X : Nat → Nat) (pn : Int32) (rn : Int32) (tn : Int32) (en : Int32) (rf : Nat → Option Nat) (y0 : Nat) (y_k : Int32) (y_p : Int32) (y_lo : Int32) (y_up : Int32) (y_sp : Int32) (y_we : Int32) (y_le : Int32) (y1 : Nat) (y_hc : Int32) (y2 : Nat) (y_cc : Int32) (TT : r_k_X6_tellRule) (hTT : TT = m_k_X6_tellRule rn) : Met l yX6_tellRule vs_k_X6_tellRule { frames := 0, cells := 0, slots := 0, locals := 0 } (va_Pc [.ref (X 1), .ref y0] (wq_P D ty td mi (wW_k_X6_tellRule ty X y0 y1 y2 pn rn tn en rf y_k y_p y_lo y_up y_sp y_we y_le y_hc y_cc) sz)) (va_Qi (fun (r : Int32) (u : va_W) => (TT.1 = 0 ∧ r = TT.2.1 ∧ (u = (wW_k_X6_tellRule ty X y0 y1 y2 pn TT.2.2 tn en rf y_k y_p y_lo y_up y_sp y_we y_le y_hc y_cc))) ∨ (TT.1 = 1 ∧ r = TT.2.1 ∧ (u = (wW_k_X6_tellRule ty X y0 y1 y2 pn TT.2.2 tn en (va_up rf rn.toNatClampNeg (some y0)) y_k y_p y_lo y_up y_sp y_we y_le y_hc y_cc)))) (wq_B D (va_A (wW_k_X6_tellRule ty X y0 y1 y2 pn rn tn en rf y_k y_p y_lo y_up y_sp y_we y_le y_hc y_cc) sz)) (va_A (wW_k_X6_tellRule ty X y0 y1 y2 pn rn tn en rf y_k y_p y_lo y_up y_sp y_we y_le y_hc y_cc) sz)) 0 0 (va_A (wW_k_X6_tellRule ty X y0 y1 y2 pn rn tn en rf y_k y_p y_lo y_up y_sp y_we y_le y_hc y_cc) sz) := by
  refine Met.ofW (cc := cX6_tellRule) (maxL := 2) (ret := (some .int)) (by decide) rfl ?_
  intro p e s m args below meth c s₁ B hml hv
  obtain ⟨rfl, hsz, hP, hK, hD0, hE⟩ := hv
  have hx := B.exec
  have hb := B.bytes
  have hr := B.returns
  have hts := atoms_spec (ws := vs_k_X6_tellRule) B.pre
  have hown : s.vm.findClass RX6 = some m.cls := findClass_of_methodNamed B.named
  have hlocks := B.notSynchronized
  subst hsz
  have hD := hD0.self (sz := s.heap.size)
  generalize hAe : va_A (wW_k_X6_tellRule ty X y0 y1 y2 pn rn tn en rf y_k y_p y_lo y_up y_sp y_we y_le y_hc y_cc) s.heap.size = A at hD hE ⊢
  have hA : ∀ q : Nat, s.heap.size ≤ q → A q := fun q h => by rw [← hAe]; exact Or.inr h
  have hS : va_S A s.heap s.heap [] := va_S.rf
  have hP : va_P D vwCl (wW_k_X6_tellRule ty X y0 y1 y2 pn rn tn en rf y_k y_p y_lo y_up y_sp y_we y_le y_hc y_cc) s.heap := hP
  have hl := lv_entry ([.ref (X 1), .ref y0]) (n := 2) (Nat.le_of_ble_eq_true rfl)
  rw [lg_entry_eq]
  generalize (lg_sl ([.ref (X 1), .ref y0]) ++ List.replicate (2 - (lg_sl ([.ref (X 1), .ref y0])).length) Slot.unset).toArray = ls at hl ⊢
  have hl : lv_has ls 2 [(0, .ref (X 1)), (1, .ref y0)] := hl
  have END_0 : ∀ (r : Int32) (e0 : Int32), TT = (0, r, e0) → ∀ (H : Heap) (locs : List Loc), va_P D vwCl (wW_k_X6_tellRule ty X y0 y1 y2 pn e0 tn en rf y_k y_p y_lo y_up y_sp y_we y_le y_hc y_cc) H → va_D A (wW_k_X6_tellRule ty X y0 y1 y2 pn e0 tn en rf y_k y_p y_lo y_up y_sp y_we y_le y_hc y_cc) → va_S A s.heap H locs → ∀ (ls : Array Slot) (pc : Nat), decode cX6_tellRule pc = .ok (.ireturn, 1) → W p l e (headSpec vs_k_X6_tellRule { frames := 0, cells := 0, slots := 0, locals := 0 }).room s m ([.ref (X 1), .ref y0] : List Value).toArray below meth c H locs 0 0 (MQ below (va_Qi (fun (r : Int32) (u : va_W) => (TT.1 = 0 ∧ r = TT.2.1 ∧ (u = (wW_k_X6_tellRule ty X y0 y1 y2 pn TT.2.2 tn en rf y_k y_p y_lo y_up y_sp y_we y_le y_hc y_cc))) ∨ (TT.1 = 1 ∧ r = TT.2.1 ∧ (u = (wW_k_X6_tellRule ty X y0 y1 y2 pn TT.2.2 tn en (va_up rf rn.toNatClampNeg (some y0)) y_k y_p y_lo y_up y_sp y_we y_le y_hc y_cc)))) (wq_B D A) A) ([.ref (X 1), .ref y0] : List Value).toArray s 0 0 A) (F0 m pc ls [.int r]) := by
    intro r e0 hT H locs hP hD hS ls pc hd
    have hM : TT = (0, r, e0) := hT
    exact W.iret (v := r) hx hb hr (fun t ht hW => ⟨⟨r, (wW_k_X6_tellRule ty X y0 y1 y2 pn e0 tn en rf y_k y_p y_lo y_up y_sp y_we y_le y_hc y_cc), rfl, (Or.inl ⟨(by rw [hM]), (by rw [hM]), (by rw [hM])⟩), wq_B.of ht hP hD⟩, hS.F ht⟩) hS.2.2 hd
  have END_1 : ∀ (r : Int32) (e0 : Int32), TT = (1, r, e0) → ∀ (H : Heap) (locs : List Loc), va_P D vwCl (wW_k_X6_tellRule ty X y0 y1 y2 pn e0 tn en (va_up rf rn.toNatClampNeg (some y0)) y_k y_p y_lo y_up y_sp y_we y_le y_hc y_cc) H → va_D A (wW_k_X6_tellRule ty X y0 y1 y2 pn e0 tn en (va_up rf rn.toNatClampNeg (some y0)) y_k y_p y_lo y_up y_sp y_we y_le y_hc y_cc) → va_S A s.heap H locs → ∀ (ls : Array Slot) (pc : Nat), decode cX6_tellRule pc = .ok (.ireturn, 1) → W p l e (headSpec vs_k_X6_tellRule { frames := 0, cells := 0, slots := 0, locals := 0 }).room s m ([.ref (X 1), .ref y0] : List Value).toArray below meth c H locs 0 0 (MQ below (va_Qi (fun (r : Int32) (u : va_W) => (TT.1 = 0 ∧ r = TT.2.1 ∧ (u = (wW_k_X6_tellRule ty X y0 y1 y2 pn TT.2.2 tn en rf y_k y_p y_lo y_up y_sp y_we y_le y_hc y_cc))) ∨ (TT.1 = 1 ∧ r = TT.2.1 ∧ (u = (wW_k_X6_tellRule ty X y0 y1 y2 pn TT.2.2 tn en (va_up rf rn.toNatClampNeg (some y0)) y_k y_p y_lo y_up y_sp y_we y_le y_hc y_cc)))) (wq_B D A) A) ([.ref (X 1), .ref y0] : List Value).toArray s 0 0 A) (F0 m pc ls [.int r]) := by
    intro r e0 hT H locs hP hD hS ls pc hd
    have hM : TT = (1, r, e0) := hT
    exact W.iret (v := r) hx hb hr (fun t ht hW => ⟨⟨r, (wW_k_X6_tellRule ty X y0 y1 y2 pn e0 tn en (va_up rf rn.toNatClampNeg (some y0)) y_k y_p y_lo y_up y_sp y_we y_le y_hc y_cc), rfl, (Or.inr ⟨(by rw [hM]), (by rw [hM]), (by rw [hM])⟩), wq_B.of ht hP hD⟩, hS.F ht⟩) hS.2.2 hd
  have hT := hTT
  rw [m_k_X6_tellRule] at hT
  refine lv_aload_n hx hb dX6_tellRule_0 rfl (lv_at hl 0 rfl) ?_
  refine va_get (D := D) (ci := 8) (v := .int rn) (C := RX6) (T := TX6) (N := 10) hx hb hts iv_k_X6_tellRule_X6 hown hK hP 0 rfl rfl 3 (by decide) (hts (.fieldLink RX6 45 "AnswerFold$Program" "ruleCount" "I") (by decide +kernel)) (fun _ h9 => h9) rfl dX6_tellRule_1 ?_
  refine lv_if_lt (tgt := 16) hx hb dX6_tellRule_4 (by decide) (fun c_1 => ?_) (fun c_1 => ?_)
  · rw [if_pos c_1] at hT
    refine lv_iconst (v := (-1)) hx hb dX6_tellRule_16 (by decide) ?_
    exact END_0 (-1) rn hT _ _ hP hD hS _ _ dX6_tellRule_17
  · rw [if_neg c_1] at hT
    refine lv_aload_n hx hb dX6_tellRule_7 rfl (lv_at hl 0 rfl) ?_
    refine va_get (D := D) (ci := 8) (v := .int rn) (C := RX6) (T := TX6) (N := 10) hx hb hts iv_k_X6_tellRule_X6 hown hK hP 0 rfl rfl 3 (by decide) (hts (.fieldLink RX6 45 "AnswerFold$Program" "ruleCount" "I") (by decide +kernel)) (fun _ h9 => h9) rfl dX6_tellRule_8 ?_
    refine lv_bipush (v := 20) hx hb dX6_tellRule_11 (by decide) ?_
    refine lv_icmp_lt (tgt := 18) hx hb dX6_tellRule_13 (by decide) (fun c_2 => ?_) (fun c_2 => ?_)
    · rw [if_pos c_2] at hT
      refine lv_aload_n hx hb dX6_tellRule_18 rfl (lv_at hl 0 rfl) ?_
      refine va_get (D := D) (ci := 8) (v := .ref (X 3)) (C := RX6) (T := TX6) (N := 10) hx hb hts iv_k_X6_tellRule_X6 hown hK hP 0 rfl rfl 2 (by decide) (hts (.fieldLink RX6 17 "AnswerFold$Program" "rules" "[LAnswerFold$Rule;") (by decide +kernel)) (fun _ h9 => h9) rfl dX6_tellRule_19 ?_
      refine lv_aload_n hx hb dX6_tellRule_22 rfl (lv_at hl 0 rfl) ?_
      refine va_get (D := D) (ci := 8) (v := .int rn) (C := RX6) (T := TX6) (N := 10) hx hb hts iv_k_X6_tellRule_X6 hown hK hP 0 rfl rfl 3 (by decide) (hts (.fieldLink RX6 45 "AnswerFold$Program" "ruleCount" "I") (by decide +kernel)) (fun _ h9 => h9) rfl dX6_tellRule_23 ?_
      refine lv_aload_n hx hb dX6_tellRule_26 rfl (lv_at hl 1 rfl) ?_
      refine va_astq (D := D) hx hb hK hP hD hS 1 4 2 10 rfl rfl rfl rfl (wi_in (wi_lo c_1) (wi_hi (Int32.not_le.mpr c_2) (by decide))) dX6_tellRule_27 (fun H locs hP hD hS => ?_)
      have hP : va_P D vwCl (wW_k_X6_tellRule ty X y0 y1 y2 pn rn tn en (va_up rf rn.toNatClampNeg (some y0)) y_k y_p y_lo y_up y_sp y_we y_le y_hc y_cc) H := hP
      have hD : va_D A (wW_k_X6_tellRule ty X y0 y1 y2 pn rn tn en (va_up rf rn.toNatClampNeg (some y0)) y_k y_p y_lo y_up y_sp y_we y_le y_hc y_cc) := hD
      refine lv_aload_n hx hb dX6_tellRule_28 rfl (lv_at hl 0 rfl) ?_
      refine lv_dup hx hb dX6_tellRule_29 rfl ?_
      refine va_get (D := D) (ci := 8) (v := .int rn) (C := RX6) (T := TX6) (N := 10) hx hb hts iv_k_X6_tellRule_X6 hown hK hP 0 rfl rfl 3 (by decide) (hts (.fieldLink RX6 45 "AnswerFold$Program" "ruleCount" "I") (by decide +kernel)) (fun _ h9 => h9) rfl dX6_tellRule_30 ?_
      refine lv_dup_x1 hx hb dX6_tellRule_33 rfl rfl ?_
      refine lv_iconst (v := 1) hx hb dX6_tellRule_34 (by decide) ?_
      refine lv_iadd hx hb dX6_tellRule_35 ?_
      refine va_put (D := D) (ci := 8) (v := .int (rn + 1)) (ty := tyX6 3) (C := RX6) (T := TX6) (N := 10) hx hb hts iv_k_X6_tellRule_X6 tyX6 tyX6_ok nmX6 hown hK hP hD hS 0 rfl rfl 3 (by decide) (hts (.fieldLink RX6 45 "AnswerFold$Program" "ruleCount" "I") (by decide +kernel)) (fun _ h9 => h9) rfl (by decide +kernel) rfl rfl (Nat.le_of_ble_eq_true rfl) dX6_tellRule_36 (fun H locs hP hD hS => ?_)
      have hP : va_P D vwCl (wW_k_X6_tellRule ty X y0 y1 y2 pn (rn + 1) tn en (va_up rf rn.toNatClampNeg (some y0)) y_k y_p y_lo y_up y_sp y_we y_le y_hc y_cc) H := hP
      have hD : va_D A (wW_k_X6_tellRule ty X y0 y1 y2 pn (rn + 1) tn en (va_up rf rn.toNatClampNeg (some y0)) y_k y_p y_lo y_up y_sp y_we y_le y_hc y_cc) := hD
      exact END_1 rn (rn + 1) hT _ _ hP hD hS _ _ dX6_tellRule_39
    · rw [if_neg c_2] at hT
      refine lv_iconst (v := (-1)) hx hb dX6_tellRule_16 (by decide) ?_
      exact END_0 (-1) rn hT _ _ hP hD hS _ _ dX6_tellRule_17
theorem dX10_addDisjunction_0 : decode cX10_addDisjunction 0 = .ok (.aload_n 0, 1) := by decide +kernel
theorem dX10_addDisjunction_1 : decode cX10_addDisjunction 1 = .ok (.iload_n 1, 1) := by decide +kernel
theorem dX10_addDisjunction_2 : decode cX10_addDisjunction 2 = .ok (.invokevirtual 83, 3) := by decide +kernel
theorem dX10_addDisjunction_5 : decode cX10_addDisjunction 5 = .ok (.aload_n 0, 1) := by decide +kernel
theorem dX10_addDisjunction_6 : decode cX10_addDisjunction 6 = .ok (.invokevirtual 87, 3) := by decide +kernel
theorem dX10_addDisjunction_9 : decode cX10_addDisjunction 9 = .ok (.aload_n 0, 1) := by decide +kernel
theorem dX10_addDisjunction_10 : decode cX10_addDisjunction 10 = .ok (.invokevirtual 76, 3) := by decide +kernel
theorem dX10_addDisjunction_13 : decode cX10_addDisjunction 13 = .ok (.aload_n 0, 1) := by decide +kernel
theorem dX10_addDisjunction_14 : decode cX10_addDisjunction 14 = .ok (.getfield 12, 3) := by decide +kernel
theorem dX10_addDisjunction_17 : decode cX10_addDisjunction 17 = .ok (.new 90, 3) := by decide +kernel
theorem dX10_addDisjunction_20 : decode cX10_addDisjunction 20 = .ok (.dup, 1) := by decide +kernel
theorem dX10_addDisjunction_21 : decode cX10_addDisjunction 21 = .ok (.bipush 100, 2) := by decide +kernel
theorem dX10_addDisjunction_23 : decode cX10_addDisjunction 23 = .ok (.iload_n 1, 1) := by decide +kernel
theorem dX10_addDisjunction_24 : decode cX10_addDisjunction 24 = .ok (.invokespecial 92, 3) := by decide +kernel
theorem dX10_addDisjunction_27 : decode cX10_addDisjunction 27 = .ok (.invokevirtual 95, 3) := by decide +kernel
theorem dX10_addDisjunction_30 : decode cX10_addDisjunction 30 = .ok (.ireturn, 1) := by decide +kernel
def wW_k_X10_addDisjunction (ty : Nat → ClassId) (X : Nat → Nat) (z9_0 : Int32) (z9_1 : Int32) (z9_2 : Int32) (z9_3 : Int32) (z9_4 : Nat → Option Nat) (z9_5 : Int32) (z9_6 : Int32) (z9_7 : Int32) (z9_8 : Int32) (z9_9 : Int32) (z9_10 : Int32) (z9_11 : Int32) (z9_12 : Int32) (z9_13 : Int32) (z9_14 : Int32) (z9_15 : Int32) (z9_16 : Int32) (z9_17 : Int32) (z9_18 : Int32) (z9_19 : Int32) (z9_20 : Int32) (z9_21 : Int32) : va_W := [((X 0), .inr (12, [.ref (X 1), .ref (X 8), .ref (X 20), .ref (X 39), .ref (X 41), .ref (X 43), .ref (X 45)])), ((X 1), .inr (8, [.ref (X 2), .int z9_0, .ref (X 3), .int z9_1, .ref (X 4), .ref (X 5), .int z9_2, .ref (X 6), .ref (X 7), .int z9_3])), ((X 3), .inl (ty 4, 20, .inr (.inr (.inr (.inr z9_4))))), ((X 8), .inr (5, [.ref (X 1), .ref (X 9), .ref (X 10), .ref (X 12), .ref (X 14), .int z9_5, .ref (X 15), .ref (X 16), .ref (X 17), .int z9_6, .ref (X 18), .ref (X 19), .int z9_7, .int z9_8, .int z9_9, .int z9_10])), ((X 20), .inr (11, [.ref (X 1), .ref (X 8), .ref (X 21), .ref (X 28), .ref (X 35), .int z9_11, .ref (X 36), .ref (X 37), .ref (X 38), .int z9_12, .int z9_13, .int z9_14, .int z9_15, .int z9_16, .int z9_17, .int z9_18, .int z9_19])), ((X 45), .inr (2, [.ref (X 46), .ref (X 47), .int z9_20, .int z9_21]))]
abbrev r_k_X10_addDisjunction : Type := Int32 × Int32 × Int32 × Int32 × Int32 × Int32 × Int32 × Int32 × Int32 × Int32 × Int32 × Int32 × Int32 × Int32 × Int32 × Int32
def m_k_X10_addDisjunction (rn : Int32) (cu : Int32) (ic : Int32) (kp : Int32) (a1 : Int32) : r_k_X10_addDisjunction :=
  lE (m_k_X10_checkPart a1) (fun t_2 =>
    if t_2 = 0 then
      lE (m_k_X10_checkRoomForRule rn) (fun t_6 =>
        if t_6 = 0 then
          lE (m_k_X10_forgetGrounding) (fun t_10 =>
            lE (m_k_X6_tellRule rn) (fun t_27 =>
              if t_27.1 = 0 then
                (0, 0, t_27.2.1, 100, a1, 0, 0, 0, (-1), 0, 0, 0, t_27.2.2, t_10.1, t_10.2.1, t_10.2.2)
              else
                (0, 1, t_27.2.1, 100, a1, 0, 0, 0, (-1), 0, 0, 0, t_27.2.2, t_10.1, t_10.2.1, t_10.2.2)))
        else
          (3, 0, 0, 0, 0, 0, 0, 0, 0, 0, 0, 0, rn, ic, kp, cu))
    else
      (2, 0, 0, 0, 0, 0, 0, 0, 0, 0, 0, 0, rn, ic, kp, cu))
def vs_k_X10_addDisjunction : List Cond := .code yX10_addDisjunction cX10_addDisjunction 2 (some .int) :: ([.methodLink RX10 83 yX10_checkPart, .instanceMethod yX10_checkPart, .selects RX10 yX10_checkPart yX10_checkPart, .initialized RX10, .methodLink RX10 87 yX10_checkRoomForRule, .instanceMethod yX10_checkRoomForRule, .selects RX10 yX10_checkRoomForRule yX10_checkRoomForRule, .methodLink RX10 76 yX10_forgetGrounding, .instanceMethod yX10_forgetGrounding, .selects RX10 yX10_forgetGrounding yX10_forgetGrounding, .fieldLink RX10 12 "AnswerFold" "program" "LAnswerFold$Program;", .classLink RX10 90 RX8, .instantiable RX8 11, .initialized RX8, .methodLink RX10 92 yX8_init, .instanceMethod yX8_init, .methodLink RX10 95 yX6_tellRule, .instanceMethod yX6_tellRule, .selects RX6 yX6_tellRule yX6_tellRule, .initialized RX6] ++ (vs_k_X10_checkPart ++ (vs_k_X10_checkRoomForRule ++ (vs_k_X10_forgetGrounding ++ (u_ws RX10 TX10 7 ++ (u_ws RX8 TX8 11 ++ (vs_k_X8_init_100 ++ (vs_k_X6_tellRule))))))))
theorem iv_k_X10_addDisjunction_X10 : ∀ w ∈ u_ws RX10 TX10 7, w ∈ vs_k_X10_addDisjunction := (fun _ h => List.mem_cons_of_mem _ (List.mem_append_right _ (List.mem_append_right _ (List.mem_append_right _ (List.mem_append_right _ (List.mem_append_left _ h))))))
theorem iv_k_X10_addDisjunction_X8 : ∀ w ∈ u_ws RX8 TX8 11, w ∈ vs_k_X10_addDisjunction := (fun _ h => List.mem_cons_of_mem _ (List.mem_append_right _ (List.mem_append_right _ (List.mem_append_right _ (List.mem_append_right _ (List.mem_append_right _ (List.mem_append_left _ h)))))))
set_option maxRecDepth 20000 in
theorem gv_k_X10_addDisjunction_0 : GoodIn vs_k_X10_addDisjunction (wsV RX10 83 RX10 yX10_checkPart vs_k_X10_checkPart) := goodIn_app (goodIn_sub (by decide +kernel) (by decide +kernel)) (goodIn_sub (fun _ h => List.mem_cons_of_mem _ (List.mem_append_right _ (List.mem_append_left _ h))) (by decide +kernel))
set_option maxRecDepth 20000 in
theorem gv_k_X10_addDisjunction_1 : GoodIn vs_k_X10_addDisjunction (wsV RX10 87 RX10 yX10_checkRoomForRule vs_k_X10_checkRoomForRule) := goodIn_app (goodIn_sub (by decide +kernel) (by decide +kernel)) (goodIn_sub (fun _ h => List.mem_cons_of_mem _ (List.mem_append_right _ (List.mem_append_right _ (List.mem_append_left _ h)))) (by decide +kernel))
set_option maxRecDepth 20000 in
theorem gv_k_X10_addDisjunction_2 : GoodIn vs_k_X10_addDisjunction (wsV RX10 76 RX10 yX10_forgetGrounding vs_k_X10_forgetGrounding) := goodIn_app (goodIn_sub (by decide +kernel) (by decide +kernel)) (goodIn_sub (fun _ h => List.mem_cons_of_mem _ (List.mem_append_right _ (List.mem_append_right _ (List.mem_append_right _ (List.mem_append_left _ h))))) (by decide +kernel))
set_option maxRecDepth 20000 in
theorem gv_k_X10_addDisjunction_3 : GoodIn vs_k_X10_addDisjunction (vs_k_X8_init_100) := (goodIn_sub (fun _ h => List.mem_cons_of_mem _ (List.mem_append_right _ (List.mem_append_right _ (List.mem_append_right _ (List.mem_append_right _ (List.mem_append_right _ (List.mem_append_right _ (List.mem_append_left _ h)))))))) (by decide +kernel))
set_option maxRecDepth 20000 in
theorem gv_k_X10_addDisjunction_4 : GoodIn vs_k_X10_addDisjunction (vs_k_X8_init_100) := (goodIn_sub (fun _ h => List.mem_cons_of_mem _ (List.mem_append_right _ (List.mem_append_right _ (List.mem_append_right _ (List.mem_append_right _ (List.mem_append_right _ (List.mem_append_right _ (List.mem_append_left _ h)))))))) (by decide +kernel))
set_option maxRecDepth 20000 in
theorem gv_k_X10_addDisjunction_5 : GoodIn vs_k_X10_addDisjunction (wsV RX10 95 RX6 yX6_tellRule vs_k_X6_tellRule) := goodIn_app (goodIn_sub (by decide +kernel) (by decide +kernel)) (goodIn_sub (fun _ h => List.mem_cons_of_mem _ (List.mem_append_right _ (List.mem_append_right _ (List.mem_append_right _ (List.mem_append_right _ (List.mem_append_right _ (List.mem_append_right _ (List.mem_append_right _ (h))))))))) (by decide +kernel))
set_option maxHeartbeats 4000000 in
set_option maxRecDepth 100000 in
theorem k_X10_addDisjunction (l : Launch) (hl9 : l.stackTraces = false) (D : va_G) (ty : Nat → ClassId) (td mi sz : Nat) (X : Nat → Nat) (pn : Int32) (rn : Int32) (tn : Int32) (en : Int32) (rf : Nat → Option Nat) (hn : Int32) (kn : Int32) (on : Int32) (cu : Int32) (pu : Int32) (gw : Int32) (an : Int32) (ch : Int32) (cg : Int32) (fb : Int32) (mh : Int32) (ml : Int32) (ih : Int32) (lb : Int32) (ic : Int32) (nn : Int32) (kp : Int32) (a1 : Int32) (TT : r_k_X10_addDisjunction) (hTT : TT = m_k_X10_addDisjunction rn cu ic kp a1) : vx_Met l yX10_addDisjunction vs_k_X10_addDisjunction { frames := 7, cells := 5, slots := 30, locals := 103 } (va_Pc [.ref (X 0), .int a1] (wq_P D ty td mi (wW_k_X10_addDisjunction ty X pn rn tn en rf hn kn on cu pu gw an ch cg fb mh ml ih lb ic nn kp) sz)) (va_Qi (fun (r : Int32) (u : va_W) => (∃ (q_17 : Nat) (q_24_1 : Nat) (q_24_2 : Nat), TT.1 = 0 ∧ TT.2.1 = 0 ∧ r = TT.2.2.1 ∧ (u = ((wW_k_X10_addDisjunction ty X pn TT.2.2.2.2.2.2.2.2.2.2.2.2.1 tn en rf hn kn on TT.2.2.2.2.2.2.2.2.2.2.2.2.2.2.2 pu gw an ch cg fb mh ml ih lb TT.2.2.2.2.2.2.2.2.2.2.2.2.2.1 nn TT.2.2.2.2.2.2.2.2.2.2.2.2.2.2.1) ++ [(q_17, .inr (10, [.int TT.2.2.2.1, .int TT.2.2.2.2.1, .int TT.2.2.2.2.2.2.1, .int TT.2.2.2.2.2.2.2.1, .int TT.2.2.2.2.2.2.2.2.1, .int TT.2.2.2.2.2.2.2.2.2.1, .int TT.2.2.2.2.2.2.2.2.2.2.1, .ref q_24_1, .int TT.2.2.2.2.2.2.2.2.2.2.2.1, .ref q_24_2, .int TT.2.2.2.2.2.1])), (q_24_1, .inl (ty 5, 2, .inr (.inr (.inr (.inr (fun _ => none)))))), (q_24_2, .inl (ty 5, 5, .inr (.inr (.inr (.inr (fun _ => none))))))]))) ∨ (∃ (q_17 : Nat) (q_24_1 : Nat) (q_24_2 : Nat), TT.1 = 0 ∧ TT.2.1 = 1 ∧ r = TT.2.2.1 ∧ (u = ((wW_k_X10_addDisjunction ty X pn TT.2.2.2.2.2.2.2.2.2.2.2.2.1 tn en (va_up rf rn.toNatClampNeg (some q_17)) hn kn on TT.2.2.2.2.2.2.2.2.2.2.2.2.2.2.2 pu gw an ch cg fb mh ml ih lb TT.2.2.2.2.2.2.2.2.2.2.2.2.2.1 nn TT.2.2.2.2.2.2.2.2.2.2.2.2.2.2.1) ++ [(q_17, .inr (10, [.int TT.2.2.2.1, .int TT.2.2.2.2.1, .int TT.2.2.2.2.2.2.1, .int TT.2.2.2.2.2.2.2.1, .int TT.2.2.2.2.2.2.2.2.1, .int TT.2.2.2.2.2.2.2.2.2.1, .int TT.2.2.2.2.2.2.2.2.2.2.1, .ref q_24_1, .int TT.2.2.2.2.2.2.2.2.2.2.2.1, .ref q_24_2, .int TT.2.2.2.2.2.1])), (q_24_1, .inl (ty 5, 2, .inr (.inr (.inr (.inr (fun _ => none)))))), (q_24_2, .inl (ty 5, 5, .inr (.inr (.inr (.inr (fun _ => none))))))])))) (wq_B D (va_A (wW_k_X10_addDisjunction ty X pn rn tn en rf hn kn on cu pu gw an ch cg fb mh ml ih lb ic nn kp) sz)) (va_A (wW_k_X10_addDisjunction ty X pn rn tn en rf hn kn on cu pu gw an ch cg fb mh ml ih lb ic nn kp) sz)) (vx_X (fun u : String × va_W => (TT.1 = 2 ∧ u = ("java/lang/IllegalArgumentException", (wW_k_X10_addDisjunction ty X pn TT.2.2.2.2.2.2.2.2.2.2.2.2.1 tn en rf hn kn on TT.2.2.2.2.2.2.2.2.2.2.2.2.2.2.2 pu gw an ch cg fb mh ml ih lb TT.2.2.2.2.2.2.2.2.2.2.2.2.2.1 nn TT.2.2.2.2.2.2.2.2.2.2.2.2.2.2.1))) ∨ (TT.1 = 3 ∧ u = ("java/lang/IllegalStateException", (wW_k_X10_addDisjunction ty X pn TT.2.2.2.2.2.2.2.2.2.2.2.2.1 tn en rf hn kn on TT.2.2.2.2.2.2.2.2.2.2.2.2.2.2.2 pu gw an ch cg fb mh ml ih lb TT.2.2.2.2.2.2.2.2.2.2.2.2.2.1 nn TT.2.2.2.2.2.2.2.2.2.2.2.2.2.2.1)))) (wq_BX D (va_A (wW_k_X10_addDisjunction ty X pn rn tn en rf hn kn on cu pu gw an ch cg fb mh ml ih lb ic nn kp) sz)) (va_A (wW_k_X10_addDisjunction ty X pn rn tn en rf hn kn on cu pu gw an ch cg fb mh ml ih lb ic nn kp) sz)) 5 30 (va_A (wW_k_X10_addDisjunction ty X pn rn tn en rf hn kn on cu pu gw an ch cg fb mh ml ih lb ic nn kp) sz) := by
  refine vx_ofW (cc := cX10_addDisjunction) (maxL := 2) (ret := (some .int)) (by decide) rfl ?_
  intro p e s m args below meth c s₁ B hml hEx hv
  obtain ⟨rfl, hsz, hP, hK, hD0, hE⟩ := hv
  have hx := B.exec
  have hb := B.bytes
  have hr := B.returns
  have hts := atoms_spec (ws := vs_k_X10_addDisjunction) B.pre
  have hown : s.vm.findClass RX10 = some m.cls := findClass_of_methodNamed B.named
  have hlocks := B.notSynchronized
  subst hsz
  have hD := hD0.self (sz := s.heap.size)
  generalize hAe : va_A (wW_k_X10_addDisjunction ty X pn rn tn en rf hn kn on cu pu gw an ch cg fb mh ml ih lb ic nn kp) s.heap.size = A at hD hE ⊢
  have hA : ∀ q : Nat, s.heap.size ≤ q → A q := fun q h => by rw [← hAe]; exact Or.inr h
  have hS : va_S A s.heap s.heap [] := va_S.rf
  have hP : va_P D vwCl (wW_k_X10_addDisjunction ty X pn rn tn en rf hn kn on cu pu gw an ch cg fb mh ml ih lb ic nn kp) s.heap := hP
  have hl := lv_entry ([.ref (X 0), .int a1]) (n := 2) (Nat.le_of_ble_eq_true rfl)
  rw [lg_entry_eq]
  generalize (lg_sl ([.ref (X 0), .int a1]) ++ List.replicate (2 - (lg_sl ([.ref (X 0), .int a1])).length) Slot.unset).toArray = ls at hl ⊢
  have hl : lv_has ls 2 [(0, .ref (X 0)), (1, .int a1)] := hl
  have END_0 : ∀ (q_17 : Nat) (q_24_1 : Nat) (q_24_2 : Nat) (r : Int32) (e0 : Int32) (e1 : Int32) (e2 : Int32) (e3 : Int32) (e4 : Int32) (e5 : Int32) (e6 : Int32) (e7 : Int32) (e8 : Int32) (e9 : Int32) (e10 : Int32) (e11 : Int32) (e12 : Int32), TT = (0, 0, r, e0, e1, e2, e3, e4, e5, e6, e7, e8, e9, e10, e11, e12) → ∀ (H : Heap) (locs : List Loc), va_P D vwCl ((wW_k_X10_addDisjunction ty X pn e9 tn en rf hn kn on e12 pu gw an ch cg fb mh ml ih lb e10 nn e11) ++ [(q_17, .inr (10, [.int e0, .int e1, .int e3, .int e4, .int e5, .int e6, .int e7, .ref q_24_1, .int e8, .ref q_24_2, .int e2])), (q_24_1, .inl (ty 5, 2, .inr (.inr (.inr (.inr (fun _ => none)))))), (q_24_2, .inl (ty 5, 5, .inr (.inr (.inr (.inr (fun _ => none))))))]) H → va_D A ((wW_k_X10_addDisjunction ty X pn e9 tn en rf hn kn on e12 pu gw an ch cg fb mh ml ih lb e10 nn e11) ++ [(q_17, .inr (10, [.int e0, .int e1, .int e3, .int e4, .int e5, .int e6, .int e7, .ref q_24_1, .int e8, .ref q_24_2, .int e2])), (q_24_1, .inl (ty 5, 2, .inr (.inr (.inr (.inr (fun _ => none)))))), (q_24_2, .inl (ty 5, 5, .inr (.inr (.inr (.inr (fun _ => none))))))]) → va_S A s.heap H locs → ∀ (ls : Array Slot) (pc : Nat), decode cX10_addDisjunction pc = .ok (.ireturn, 1) → W p l e (headSpec vs_k_X10_addDisjunction { frames := 7, cells := 5, slots := 30, locals := 103 }).room s m ([.ref (X 0), .int a1] : List Value).toArray below meth c H locs 5 30 (vx_MQ below (va_Qi (fun (r : Int32) (u : va_W) => (∃ (q_17 : Nat) (q_24_1 : Nat) (q_24_2 : Nat), TT.1 = 0 ∧ TT.2.1 = 0 ∧ r = TT.2.2.1 ∧ (u = ((wW_k_X10_addDisjunction ty X pn TT.2.2.2.2.2.2.2.2.2.2.2.2.1 tn en rf hn kn on TT.2.2.2.2.2.2.2.2.2.2.2.2.2.2.2 pu gw an ch cg fb mh ml ih lb TT.2.2.2.2.2.2.2.2.2.2.2.2.2.1 nn TT.2.2.2.2.2.2.2.2.2.2.2.2.2.2.1) ++ [(q_17, .inr (10, [.int TT.2.2.2.1, .int TT.2.2.2.2.1, .int TT.2.2.2.2.2.2.1, .int TT.2.2.2.2.2.2.2.1, .int TT.2.2.2.2.2.2.2.2.1, .int TT.2.2.2.2.2.2.2.2.2.1, .int TT.2.2.2.2.2.2.2.2.2.2.1, .ref q_24_1, .int TT.2.2.2.2.2.2.2.2.2.2.2.1, .ref q_24_2, .int TT.2.2.2.2.2.1])), (q_24_1, .inl (ty 5, 2, .inr (.inr (.inr (.inr (fun _ => none)))))), (q_24_2, .inl (ty 5, 5, .inr (.inr (.inr (.inr (fun _ => none))))))]))) ∨ (∃ (q_17 : Nat) (q_24_1 : Nat) (q_24_2 : Nat), TT.1 = 0 ∧ TT.2.1 = 1 ∧ r = TT.2.2.1 ∧ (u = ((wW_k_X10_addDisjunction ty X pn TT.2.2.2.2.2.2.2.2.2.2.2.2.1 tn en (va_up rf rn.toNatClampNeg (some q_17)) hn kn on TT.2.2.2.2.2.2.2.2.2.2.2.2.2.2.2 pu gw an ch cg fb mh ml ih lb TT.2.2.2.2.2.2.2.2.2.2.2.2.2.1 nn TT.2.2.2.2.2.2.2.2.2.2.2.2.2.2.1) ++ [(q_17, .inr (10, [.int TT.2.2.2.1, .int TT.2.2.2.2.1, .int TT.2.2.2.2.2.2.1, .int TT.2.2.2.2.2.2.2.1, .int TT.2.2.2.2.2.2.2.2.1, .int TT.2.2.2.2.2.2.2.2.2.1, .int TT.2.2.2.2.2.2.2.2.2.2.1, .ref q_24_1, .int TT.2.2.2.2.2.2.2.2.2.2.2.1, .ref q_24_2, .int TT.2.2.2.2.2.1])), (q_24_1, .inl (ty 5, 2, .inr (.inr (.inr (.inr (fun _ => none)))))), (q_24_2, .inl (ty 5, 5, .inr (.inr (.inr (.inr (fun _ => none))))))])))) (wq_B D A) A) (vx_X (fun u : String × va_W => (TT.1 = 2 ∧ u = ("java/lang/IllegalArgumentException", (wW_k_X10_addDisjunction ty X pn TT.2.2.2.2.2.2.2.2.2.2.2.2.1 tn en rf hn kn on TT.2.2.2.2.2.2.2.2.2.2.2.2.2.2.2 pu gw an ch cg fb mh ml ih lb TT.2.2.2.2.2.2.2.2.2.2.2.2.2.1 nn TT.2.2.2.2.2.2.2.2.2.2.2.2.2.2.1))) ∨ (TT.1 = 3 ∧ u = ("java/lang/IllegalStateException", (wW_k_X10_addDisjunction ty X pn TT.2.2.2.2.2.2.2.2.2.2.2.2.1 tn en rf hn kn on TT.2.2.2.2.2.2.2.2.2.2.2.2.2.2.2 pu gw an ch cg fb mh ml ih lb TT.2.2.2.2.2.2.2.2.2.2.2.2.2.1 nn TT.2.2.2.2.2.2.2.2.2.2.2.2.2.2.1)))) (wq_BX D A) A) ([.ref (X 0), .int a1] : List Value).toArray s 5 30 A) (F0 m pc ls [.int r]) := by
    intro q_17 q_24_1 q_24_2 r e0 e1 e2 e3 e4 e5 e6 e7 e8 e9 e10 e11 e12 hT H locs hP hD hS ls pc hd
    have hM : TT = (0, 0, r, e0, e1, e2, e3, e4, e5, e6, e7, e8, e9, e10, e11, e12) := hT
    refine vx_ret ?_
    exact W.iret (v := r) hx hb hr (fun t ht hW => ⟨⟨r, ((wW_k_X10_addDisjunction ty X pn e9 tn en rf hn kn on e12 pu gw an ch cg fb mh ml ih lb e10 nn e11) ++ [(q_17, .inr (10, [.int e0, .int e1, .int e3, .int e4, .int e5, .int e6, .int e7, .ref q_24_1, .int e8, .ref q_24_2, .int e2])), (q_24_1, .inl (ty 5, 2, .inr (.inr (.inr (.inr (fun _ => none)))))), (q_24_2, .inl (ty 5, 5, .inr (.inr (.inr (.inr (fun _ => none))))))]), rfl, (Or.inl ⟨q_17, q_24_1, q_24_2, (by rw [hM]), (by rw [hM]), (by rw [hM]), (by rw [hM])⟩), wq_B.of ht hP hD⟩, hS.F ht⟩) hS.2.2 hd
  have END_1 : ∀ (q_17 : Nat) (q_24_1 : Nat) (q_24_2 : Nat) (r : Int32) (e0 : Int32) (e1 : Int32) (e2 : Int32) (e3 : Int32) (e4 : Int32) (e5 : Int32) (e6 : Int32) (e7 : Int32) (e8 : Int32) (e9 : Int32) (e10 : Int32) (e11 : Int32) (e12 : Int32), TT = (0, 1, r, e0, e1, e2, e3, e4, e5, e6, e7, e8, e9, e10, e11, e12) → ∀ (H : Heap) (locs : List Loc), va_P D vwCl ((wW_k_X10_addDisjunction ty X pn e9 tn en (va_up rf rn.toNatClampNeg (some q_17)) hn kn on e12 pu gw an ch cg fb mh ml ih lb e10 nn e11) ++ [(q_17, .inr (10, [.int e0, .int e1, .int e3, .int e4, .int e5, .int e6, .int e7, .ref q_24_1, .int e8, .ref q_24_2, .int e2])), (q_24_1, .inl (ty 5, 2, .inr (.inr (.inr (.inr (fun _ => none)))))), (q_24_2, .inl (ty 5, 5, .inr (.inr (.inr (.inr (fun _ => none))))))]) H → va_D A ((wW_k_X10_addDisjunction ty X pn e9 tn en (va_up rf rn.toNatClampNeg (some q_17)) hn kn on e12 pu gw an ch cg fb mh ml ih lb e10 nn e11) ++ [(q_17, .inr (10, [.int e0, .int e1, .int e3, .int e4, .int e5, .int e6, .int e7, .ref q_24_1, .int e8, .ref q_24_2, .int e2])), (q_24_1, .inl (ty 5, 2, .inr (.inr (.inr (.inr (fun _ => none)))))), (q_24_2, .inl (ty 5, 5, .inr (.inr (.inr (.inr (fun _ => none))))))]) → va_S A s.heap H locs → ∀ (ls : Array Slot) (pc : Nat), decode cX10_addDisjunction pc = .ok (.ireturn, 1) → W p l e (headSpec vs_k_X10_addDisjunction { frames := 7, cells := 5, slots := 30, locals := 103 }).room s m ([.ref (X 0), .int a1] : List Value).toArray below meth c H locs 5 30 (vx_MQ below (va_Qi (fun (r : Int32) (u : va_W) => (∃ (q_17 : Nat) (q_24_1 : Nat) (q_24_2 : Nat), TT.1 = 0 ∧ TT.2.1 = 0 ∧ r = TT.2.2.1 ∧ (u = ((wW_k_X10_addDisjunction ty X pn TT.2.2.2.2.2.2.2.2.2.2.2.2.1 tn en rf hn kn on TT.2.2.2.2.2.2.2.2.2.2.2.2.2.2.2 pu gw an ch cg fb mh ml ih lb TT.2.2.2.2.2.2.2.2.2.2.2.2.2.1 nn TT.2.2.2.2.2.2.2.2.2.2.2.2.2.2.1) ++ [(q_17, .inr (10, [.int TT.2.2.2.1, .int TT.2.2.2.2.1, .int TT.2.2.2.2.2.2.1, .int TT.2.2.2.2.2.2.2.1, .int TT.2.2.2.2.2.2.2.2.1, .int TT.2.2.2.2.2.2.2.2.2.1, .int TT.2.2.2.2.2.2.2.2.2.2.1, .ref q_24_1, .int TT.2.2.2.2.2.2.2.2.2.2.2.1, .ref q_24_2, .int TT.2.2.2.2.2.1])), (q_24_1, .inl (ty 5, 2, .inr (.inr (.inr (.inr (fun _ => none)))))), (q_24_2, .inl (ty 5, 5, .inr (.inr (.inr (.inr (fun _ => none))))))]))) ∨ (∃ (q_17 : Nat) (q_24_1 : Nat) (q_24_2 : Nat), TT.1 = 0 ∧ TT.2.1 = 1 ∧ r = TT.2.2.1 ∧ (u = ((wW_k_X10_addDisjunction ty X pn TT.2.2.2.2.2.2.2.2.2.2.2.2.1 tn en (va_up rf rn.toNatClampNeg (some q_17)) hn kn on TT.2.2.2.2.2.2.2.2.2.2.2.2.2.2.2 pu gw an ch cg fb mh ml ih lb TT.2.2.2.2.2.2.2.2.2.2.2.2.2.1 nn TT.2.2.2.2.2.2.2.2.2.2.2.2.2.2.1) ++ [(q_17, .inr (10, [.int TT.2.2.2.1, .int TT.2.2.2.2.1, .int TT.2.2.2.2.2.2.1, .int TT.2.2.2.2.2.2.2.1, .int TT.2.2.2.2.2.2.2.2.1, .int TT.2.2.2.2.2.2.2.2.2.1, .int TT.2.2.2.2.2.2.2.2.2.2.1, .ref q_24_1, .int TT.2.2.2.2.2.2.2.2.2.2.2.1, .ref q_24_2, .int TT.2.2.2.2.2.1])), (q_24_1, .inl (ty 5, 2, .inr (.inr (.inr (.inr (fun _ => none)))))), (q_24_2, .inl (ty 5, 5, .inr (.inr (.inr (.inr (fun _ => none))))))])))) (wq_B D A) A) (vx_X (fun u : String × va_W => (TT.1 = 2 ∧ u = ("java/lang/IllegalArgumentException", (wW_k_X10_addDisjunction ty X pn TT.2.2.2.2.2.2.2.2.2.2.2.2.1 tn en rf hn kn on TT.2.2.2.2.2.2.2.2.2.2.2.2.2.2.2 pu gw an ch cg fb mh ml ih lb TT.2.2.2.2.2.2.2.2.2.2.2.2.2.1 nn TT.2.2.2.2.2.2.2.2.2.2.2.2.2.2.1))) ∨ (TT.1 = 3 ∧ u = ("java/lang/IllegalStateException", (wW_k_X10_addDisjunction ty X pn TT.2.2.2.2.2.2.2.2.2.2.2.2.1 tn en rf hn kn on TT.2.2.2.2.2.2.2.2.2.2.2.2.2.2.2 pu gw an ch cg fb mh ml ih lb TT.2.2.2.2.2.2.2.2.2.2.2.2.2.1 nn TT.2.2.2.2.2.2.2.2.2.2.2.2.2.2.1)))) (wq_BX D A) A) ([.ref (X 0), .int a1] : List Value).toArray s 5 30 A) (F0 m pc ls [.int r]) := by
    intro q_17 q_24_1 q_24_2 r e0 e1 e2 e3 e4 e5 e6 e7 e8 e9 e10 e11 e12 hT H locs hP hD hS ls pc hd
    have hM : TT = (0, 1, r, e0, e1, e2, e3, e4, e5, e6, e7, e8, e9, e10, e11, e12) := hT
    refine vx_ret ?_
    exact W.iret (v := r) hx hb hr (fun t ht hW => ⟨⟨r, ((wW_k_X10_addDisjunction ty X pn e9 tn en (va_up rf rn.toNatClampNeg (some q_17)) hn kn on e12 pu gw an ch cg fb mh ml ih lb e10 nn e11) ++ [(q_17, .inr (10, [.int e0, .int e1, .int e3, .int e4, .int e5, .int e6, .int e7, .ref q_24_1, .int e8, .ref q_24_2, .int e2])), (q_24_1, .inl (ty 5, 2, .inr (.inr (.inr (.inr (fun _ => none)))))), (q_24_2, .inl (ty 5, 5, .inr (.inr (.inr (.inr (fun _ => none))))))]), rfl, (Or.inr ⟨q_17, q_24_1, q_24_2, (by rw [hM]), (by rw [hM]), (by rw [hM]), (by rw [hM])⟩), wq_B.of ht hP hD⟩, hS.F ht⟩) hS.2.2 hd
  have hT := hTT
  rw [m_k_X10_addDisjunction] at hT
  refine lv_aload_n hx hb dX10_addDisjunction_0 rfl (lv_at hl 0 rfl) ?_
  refine lv_iload_n hx hb dX10_addDisjunction_1 rfl (lv_at hl 1 rfl) ?_
  obtain ⟨t_2, ht_2⟩ : ∃ t, t = m_k_X10_checkPart a1 := ⟨_, rfl⟩
  rw [lE_eq ht_2] at hT
  refine wq_xvW (wc := []) (vx_runV (As := [.int a1]) (rest := []) ⟨hx, hb, hml, hown, hts⟩ (k_X10_checkPart l hl9 D ty td mi s.heap.size X a1 t_2 ht_2) (cwV 1 hts gv_k_X10_addDisjunction_0 rfl rfl rfl (by decide +kernel) ⟨(Nat.le_of_ble_eq_true rfl), (Nat.le_of_ble_eq_true rfl)⟩) (wm_V (wm_preS hP hD hK hE hS hA [] rfl) (va_recv (q0 := 0) (ci := 12) hK hP rfl rfl)) rfl rfl hl.1 rfl (lv_room (Nat.le_of_ble_eq_true rfl)) dX10_addDisjunction_2 ⟨(Nat.le_of_ble_eq_true rfl), (Nat.le_of_ble_eq_true rfl)⟩) hS hA hP hD [] rfl (fun _ h => by rcases h with ⟨-, rfl⟩; rfl) (fun _ _ h => by rcases h with ⟨-, h⟩ <;> (cases h; rfl)) (fun E9 u H locs q9 ce hw hP hD hS hce hcv hcl => ?_) (fun u H locs hw hP hD hS => ?_)
  · obtain ⟨c_1, hEq⟩ := hw
    cases hEq
    rw [if_neg (show ¬ t_2 = 0 by rw [c_1]; decide)] at hT
    have hP : va_P D vwCl (wW_k_X10_addDisjunction ty X pn rn tn en rf hn kn on cu pu gw an ch cg fb mh ml ih lb ic nn kp) H := hP
    have hD : va_D A (wW_k_X10_addDisjunction ty X pn rn tn en rf hn kn on cu pu gw an ch cg fb mh ml ih lb ic nn kp) := hD
    refine vx_widen (k := 5) (n := 30) (Nat.le_of_ble_eq_true rfl) (Nat.le_of_ble_eq_true rfl) ?_
    exact vx_out (E := "java/lang/IllegalArgumentException") (fun x hx => (hEx x hx).elim) hlocks hce hcv hcl (fun t ht ha => wq_thrW0 (W := (wW_k_X10_addDisjunction ty X pn rn tn en rf hn kn on cu pu gw an ch cg fb mh ml ih lb ic nn kp)) hS hP hD (by exact (Or.inl ⟨(by rw [hT]), (by first | rw [hT] | rfl)⟩)) ht) hS.2.2 (Nat.le_refl _) (Nat.le_refl _)
  · obtain ⟨c_2, rfl⟩ := hw
    rw [if_pos c_2] at hT
    have hP : va_P D vwCl (wW_k_X10_addDisjunction ty X pn rn tn en rf hn kn on cu pu gw an ch cg fb mh ml ih lb ic nn kp) H := hP
    have hD : va_D A (wW_k_X10_addDisjunction ty X pn rn tn en rf hn kn on cu pu gw an ch cg fb mh ml ih lb ic nn kp) := hD
    refine W.widen (k := 1) (n := 6) (Nat.le_of_ble_eq_true rfl) (Nat.le_of_ble_eq_true rfl) ?_
    refine lv_aload_n hx hb dX10_addDisjunction_5 rfl (lv_at hl 0 rfl) ?_
    obtain ⟨t_6, ht_6⟩ : ∃ t, t = m_k_X10_checkRoomForRule rn := ⟨_, rfl⟩
    rw [lE_eq ht_6] at hT
    refine wq_xvW (wc := (wW_k_X10_checkRoomForRule ty X pn rn tn en)) (vx_runV (As := []) (rest := []) ⟨hx, hb, hml, hown, hts⟩ (k_X10_checkRoomForRule l hl9 D ty td mi H.size X pn rn tn en t_6 ht_6) (cwV 0 hts gv_k_X10_addDisjunction_1 rfl rfl rfl (by decide +kernel) ⟨(Nat.le_of_ble_eq_true rfl), (Nat.le_of_ble_eq_true rfl)⟩) (wm_V (wm_preS hP hD hK hE hS hA [true, true] rfl) (va_recv (q0 := 0) (ci := 12) hK hP rfl rfl)) rfl rfl hl.1 rfl (lv_room (Nat.le_of_ble_eq_true rfl)) dX10_addDisjunction_6 ⟨(Nat.le_of_ble_eq_true rfl), (Nat.le_of_ble_eq_true rfl)⟩) hS hA hP hD [true, true] rfl (fun _ h => by rcases h with ⟨-, rfl⟩; rfl) (fun _ _ h => by rcases h with ⟨-, h⟩ <;> (cases h; rfl)) (fun E9 u H locs q9 ce hw hP hD hS hce hcv hcl => ?_) (fun u H locs hw hP hD hS => ?_)
    · obtain ⟨c_4, hEq⟩ := hw
      cases hEq
      rw [if_neg (show ¬ t_6 = 0 by rw [c_4]; decide)] at hT
      have hP : va_P D vwCl (wW_k_X10_addDisjunction ty X pn rn tn en rf hn kn on cu pu gw an ch cg fb mh ml ih lb ic nn kp) H := hP
      have hD : va_D A (wW_k_X10_addDisjunction ty X pn rn tn en rf hn kn on cu pu gw an ch cg fb mh ml ih lb ic nn kp) := hD
      refine vx_widen (k := 5) (n := 30) (Nat.le_of_ble_eq_true rfl) (Nat.le_of_ble_eq_true rfl) ?_
      exact vx_out (E := "java/lang/IllegalStateException") (fun x hx => (hEx x hx).elim) hlocks hce hcv hcl (fun t ht ha => wq_thrW0 (W := (wW_k_X10_addDisjunction ty X pn rn tn en rf hn kn on cu pu gw an ch cg fb mh ml ih lb ic nn kp)) hS hP hD (by exact (Or.inr ⟨(by rw [hT]), (by first | rw [hT] | rfl)⟩)) ht) hS.2.2 (Nat.le_refl _) (Nat.le_refl _)
    · obtain ⟨c_5, rfl⟩ := hw
      rw [if_pos c_5] at hT
      have hP : va_P D vwCl (wW_k_X10_addDisjunction ty X pn rn tn en rf hn kn on cu pu gw an ch cg fb mh ml ih lb ic nn kp) H := hP
      have hD : va_D A (wW_k_X10_addDisjunction ty X pn rn tn en rf hn kn on cu pu gw an ch cg fb mh ml ih lb ic nn kp) := hD
      refine W.widen (k := 2) (n := 12) (Nat.le_of_ble_eq_true rfl) (Nat.le_of_ble_eq_true rfl) ?_
      refine lv_aload_n hx hb dX10_addDisjunction_9 rfl (lv_at hl 0 rfl) ?_
      obtain ⟨t_10, ht_10⟩ : ∃ t, t = m_k_X10_forgetGrounding := ⟨_, rfl⟩
      rw [lE_eq ht_10] at hT
      refine wq_vW (wc := (wW_k_X10_forgetGrounding ty X hn kn on cu pu gw an ch cg fb mh ml ih lb ic nn kp)) (va_runV (As := []) (rest := []) ⟨hx, hb, hml, hown, hts⟩ (k_X10_forgetGrounding l D ty td mi H.size X hn kn on cu pu gw an ch cg fb mh ml ih lb ic nn kp t_10 ht_10) (cwV 0 hts gv_k_X10_addDisjunction_2 rfl rfl rfl (by decide +kernel) ⟨(Nat.le_of_ble_eq_true rfl), (Nat.le_of_ble_eq_true rfl)⟩) (wm_V (wm_preS hP hD hK hE hS hA [true, false, false, true, true, true] rfl) (va_recv (q0 := 0) (ci := 12) hK hP rfl rfl)) rfl rfl hl.1 rfl (lv_room (Nat.le_of_ble_eq_true rfl)) dX10_addDisjunction_10 ⟨(Nat.le_of_ble_eq_true rfl), (Nat.le_of_ble_eq_true rfl)⟩) hS hA hP hD [true, false, false, true, true, true] rfl (fun _ h => by rcases h with rfl; rfl) (fun u H locs hw hP hD hS => ?_)
      obtain rfl := hw
      have hP : va_P D vwCl (wW_k_X10_addDisjunction ty X pn rn tn en rf hn kn on t_10.2.2 pu gw an ch cg fb mh ml ih lb t_10.1 nn t_10.2.1) H := hP
      have hD : va_D A (wW_k_X10_addDisjunction ty X pn rn tn en rf hn kn on t_10.2.2 pu gw an ch cg fb mh ml ih lb t_10.1 nn t_10.2.1) := hD
      refine W.widen (k := 2) (n := 12) (Nat.le_of_ble_eq_true rfl) (Nat.le_of_ble_eq_true rfl) ?_
      refine lv_aload_n hx hb dX10_addDisjunction_13 rfl (lv_at hl 0 rfl) ?_
      refine va_get (D := D) (ci := 12) (v := .ref (X 1)) (C := RX10) (T := TX10) (N := 7) hx hb hts iv_k_X10_addDisjunction_X10 hown hK hP 0 rfl rfl 0 (by decide) (hts (.fieldLink RX10 12 "AnswerFold" "program" "LAnswerFold$Program;") (by decide +kernel)) (fun _ h9 => h9) rfl dX10_addDisjunction_14 ?_
      refine va_new (ci := 10) (fs := [.int 0, .int 0, .int 0, .int 0, .int 0, .int 0, .int 0, .null, .int 0, .null, .int 0]) (C := RX8) (T := TX8) (N := 11) hx hb hts iv_k_X10_addDisjunction_X8 tyX8 tyX8_ok hown (hts (.classLink RX10 90 RX8) (by decide +kernel)) (hts (.instantiable RX8 11) (by decide +kernel)) (hts (.initialized RX8) (by decide +kernel)) hK hP hD hS hA rfl (fun j hj => by rcases (show j = 0 ∨ j = 1 ∨ j = 2 ∨ j = 3 ∨ j = 4 ∨ j = 5 ∨ j = 6 ∨ j = 7 ∨ j = 8 ∨ j = 9 ∨ j = 10 by omega) with rfl | rfl | rfl | rfl | rfl | rfl | rfl | rfl | rfl | rfl | rfl <;> rfl) (Nat.le_of_ble_eq_true rfl) (Nat.le_of_ble_eq_true rfl) dX10_addDisjunction_17 (fun q_17 H hP hD hS => ?_)
      have hP : va_P D vwCl ((wW_k_X10_addDisjunction ty X pn rn tn en rf hn kn on t_10.2.2 pu gw an ch cg fb mh ml ih lb t_10.1 nn t_10.2.1) ++ [(q_17, .inr (10, [.int 0, .int 0, .int 0, .int 0, .int 0, .int 0, .int 0, .null, .int 0, .null, .int 0]))]) H := hP
      have hD : va_D A ((wW_k_X10_addDisjunction ty X pn rn tn en rf hn kn on t_10.2.2 pu gw an ch cg fb mh ml ih lb t_10.1 nn t_10.2.1) ++ [(q_17, .inr (10, [.int 0, .int 0, .int 0, .int 0, .int 0, .int 0, .int 0, .null, .int 0, .null, .int 0]))]) := hD
      refine W.widen (k := 3) (n := 23) (Nat.le_of_ble_eq_true rfl) (Nat.le_of_ble_eq_true rfl) ?_
      refine lv_dup hx hb dX10_addDisjunction_20 rfl ?_
      refine lv_bipush (v := 100) hx hb dX10_addDisjunction_21 (by decide) ?_
      refine lv_iload_n hx hb dX10_addDisjunction_23 rfl (lv_at hl 1 rfl) ?_
      refine wq_vW (wc := [(q_17, .inr (10, [.int 0, .int 0, .int 0, .int 0, .int 0, .int 0, .int 0, .null, .int 0, .null, .int 0]))]) (va_runI (As := [.int 100, .int a1]) (rest := [.ref q_17, .ref (X 1)]) ⟨hx, hb, hml, hown, hts⟩ (k_X8_init_100 l D ty td mi H.size q_17 a1) (cwI 2 hts gv_k_X10_addDisjunction_4 rfl rfl rfl (hts (.initialized RX8) (by decide +kernel)) (hts (.methodLink RX10 92 yX8_init) (by decide +kernel)) (hts (.instanceMethod yX8_init) (by decide +kernel)) rfl (by decide +kernel) ⟨(Nat.le_of_ble_eq_true rfl), (Nat.le_of_ble_eq_true rfl)⟩) (wm_preS hP hD hK hE hS hA [false, false, false, false, false, false, true] rfl) rfl rfl hl.1 rfl (lv_room (Nat.le_of_ble_eq_true rfl)) dX10_addDisjunction_24 ⟨(Nat.le_of_ble_eq_true rfl), (Nat.le_of_ble_eq_true rfl)⟩) hS hA hP hD [false, false, false, false, false, false, true] rfl (fun _ h => by rcases h with ⟨_, _, rfl⟩; rfl) (fun u H locs hw hP hD hS => ?_)
      obtain ⟨q_24_1, q_24_2, rfl⟩ := hw
      have hP : va_P D vwCl ((wW_k_X10_addDisjunction ty X pn rn tn en rf hn kn on t_10.2.2 pu gw an ch cg fb mh ml ih lb t_10.1 nn t_10.2.1) ++ [(q_17, .inr (10, [.int 100, .int a1, .int 0, .int 0, .int (-1), .int 0, .int 0, .ref q_24_1, .int 0, .ref q_24_2, .int 0])), (q_24_1, .inl (ty 5, 2, .inr (.inr (.inr (.inr (fun _ => none)))))), (q_24_2, .inl (ty 5, 5, .inr (.inr (.inr (.inr (fun _ => none))))))]) H := hP
      have hD : va_D A ((wW_k_X10_addDisjunction ty X pn rn tn en rf hn kn on t_10.2.2 pu gw an ch cg fb mh ml ih lb t_10.1 nn t_10.2.1) ++ [(q_17, .inr (10, [.int 100, .int a1, .int 0, .int 0, .int (-1), .int 0, .int 0, .ref q_24_1, .int 0, .ref q_24_2, .int 0])), (q_24_1, .inl (ty 5, 2, .inr (.inr (.inr (.inr (fun _ => none)))))), (q_24_2, .inl (ty 5, 5, .inr (.inr (.inr (.inr (fun _ => none))))))]) := hD
      refine W.widen (k := 5) (n := 30) (Nat.le_of_ble_eq_true rfl) (Nat.le_of_ble_eq_true rfl) ?_
      obtain ⟨t_27, ht_27⟩ : ∃ t, t = m_k_X6_tellRule rn := ⟨_, rfl⟩
      rw [lE_eq ht_27] at hT
      refine wq_iW (wc := (wW_k_X6_tellRule ty X q_17 q_24_1 q_24_2 pn rn tn en rf (100) a1 (0) (0) (-1) (0) (0) (0) (0))) (va_runV (As := [.ref q_17]) (rest := []) ⟨hx, hb, hml, hown, hts⟩ (k_X6_tellRule l D ty td mi H.size X pn rn tn en rf q_17 100 a1 0 0 (-1) 0 0 q_24_1 0 q_24_2 0 t_27 ht_27) (cwV 1 hts gv_k_X10_addDisjunction_5 rfl rfl rfl (by decide +kernel) ⟨(Nat.le_of_ble_eq_true rfl), (Nat.le_of_ble_eq_true rfl)⟩) (wm_V (wm_preS hP hD hK hE hS hA [false, true, true, false, false, false, true] rfl) (va_recv (q0 := 1) (ci := 8) hK hP rfl rfl)) rfl rfl hl.1 rfl (lv_room (Nat.le_of_ble_eq_true rfl)) dX10_addDisjunction_27 ⟨(Nat.le_of_ble_eq_true rfl), (Nat.le_of_ble_eq_true rfl)⟩) hS hA hP hD [false, true, true, false, false, false, true] rfl (fun _ _ h => by rcases h with ⟨-, -, rfl⟩ | ⟨-, -, rfl⟩ <;> rfl) (fun r u H locs hw hP hD hS => ?_)
      rcases hw with ⟨c_10, rfl, rfl⟩ | ⟨c_12, rfl, rfl⟩
      · rw [if_pos c_10] at hT
        have hP : va_P D vwCl ((wW_k_X10_addDisjunction ty X pn t_27.2.2 tn en rf hn kn on t_10.2.2 pu gw an ch cg fb mh ml ih lb t_10.1 nn t_10.2.1) ++ [(q_17, .inr (10, [.int 100, .int a1, .int 0, .int 0, .int (-1), .int 0, .int 0, .ref q_24_1, .int 0, .ref q_24_2, .int 0])), (q_24_1, .inl (ty 5, 2, .inr (.inr (.inr (.inr (fun _ => none)))))), (q_24_2, .inl (ty 5, 5, .inr (.inr (.inr (.inr (fun _ => none))))))]) H := hP
        have hD : va_D A ((wW_k_X10_addDisjunction ty X pn t_27.2.2 tn en rf hn kn on t_10.2.2 pu gw an ch cg fb mh ml ih lb t_10.1 nn t_10.2.1) ++ [(q_17, .inr (10, [.int 100, .int a1, .int 0, .int 0, .int (-1), .int 0, .int 0, .ref q_24_1, .int 0, .ref q_24_2, .int 0])), (q_24_1, .inl (ty 5, 2, .inr (.inr (.inr (.inr (fun _ => none)))))), (q_24_2, .inl (ty 5, 5, .inr (.inr (.inr (.inr (fun _ => none))))))]) := hD
        refine W.widen (k := 5) (n := 30) (Nat.le_of_ble_eq_true rfl) (Nat.le_of_ble_eq_true rfl) ?_
        exact END_0 q_17 q_24_1 q_24_2 t_27.2.1 100 a1 0 0 0 (-1) 0 0 0 t_27.2.2 t_10.1 t_10.2.1 t_10.2.2 hT _ _ hP hD hS _ _ dX10_addDisjunction_30
      · rw [if_neg (show ¬ t_27.1 = 0 by rw [c_12]; decide)] at hT
        have hP : va_P D vwCl ((wW_k_X10_addDisjunction ty X pn t_27.2.2 tn en (va_up rf rn.toNatClampNeg (some q_17)) hn kn on t_10.2.2 pu gw an ch cg fb mh ml ih lb t_10.1 nn t_10.2.1) ++ [(q_17, .inr (10, [.int 100, .int a1, .int 0, .int 0, .int (-1), .int 0, .int 0, .ref q_24_1, .int 0, .ref q_24_2, .int 0])), (q_24_1, .inl (ty 5, 2, .inr (.inr (.inr (.inr (fun _ => none)))))), (q_24_2, .inl (ty 5, 5, .inr (.inr (.inr (.inr (fun _ => none))))))]) H := hP
        have hD : va_D A ((wW_k_X10_addDisjunction ty X pn t_27.2.2 tn en (va_up rf rn.toNatClampNeg (some q_17)) hn kn on t_10.2.2 pu gw an ch cg fb mh ml ih lb t_10.1 nn t_10.2.1) ++ [(q_17, .inr (10, [.int 100, .int a1, .int 0, .int 0, .int (-1), .int 0, .int 0, .ref q_24_1, .int 0, .ref q_24_2, .int 0])), (q_24_1, .inl (ty 5, 2, .inr (.inr (.inr (.inr (fun _ => none)))))), (q_24_2, .inl (ty 5, 5, .inr (.inr (.inr (.inr (fun _ => none))))))]) := hD
        refine W.widen (k := 5) (n := 30) (Nat.le_of_ble_eq_true rfl) (Nat.le_of_ble_eq_true rfl) ?_
        exact END_1 q_17 q_24_1 q_24_2 t_27.2.1 100 a1 0 0 0 (-1) 0 0 0 t_27.2.2 t_10.1 t_10.2.1 t_10.2.2 hT _ _ hP hD hS _ _ dX10_addDisjunction_30
theorem dX10_addChoice_0 : decode cX10_addChoice 0 = .ok (.aload_n 0, 1) := by decide +kernel
theorem dX10_addChoice_1 : decode cX10_addChoice 1 = .ok (.iload_n 1, 1) := by decide +kernel
theorem dX10_addChoice_2 : decode cX10_addChoice 2 = .ok (.invokevirtual 83, 3) := by decide +kernel
theorem dX10_addChoice_5 : decode cX10_addChoice 5 = .ok (.iload_n 2, 1) := by decide +kernel
theorem dX10_addChoice_6 : decode cX10_addChoice 6 = .ok (.ifCond .lt 14, 3) := by decide +kernel
theorem dX10_addChoice_9 : decode cX10_addChoice 9 = .ok (.iload_n 3, 1) := by decide +kernel
theorem dX10_addChoice_10 : decode cX10_addChoice 10 = .ok (.iload_n 2, 1) := by decide +kernel
theorem dX10_addChoice_11 : decode cX10_addChoice 11 = .ok (.if_icmp .lt 9, 3) := by decide +kernel
theorem dX10_addChoice_14 : decode cX10_addChoice 14 = .ok (.iload_n 3, 1) := by decide +kernel
theorem dX10_addChoice_15 : decode cX10_addChoice 15 = .ok (.bipush 9, 2) := by decide +kernel
theorem dX10_addChoice_17 : decode cX10_addChoice 17 = .ok (.if_icmp .le 13, 3) := by decide +kernel
theorem dX10_addChoice_20 : decode cX10_addChoice 20 = .ok (.new 60, 3) := by decide +kernel
theorem dX10_addChoice_23 : decode cX10_addChoice 23 = .ok (.dup, 1) := by decide +kernel
theorem dX10_addChoice_24 : decode cX10_addChoice 24 = .ok (.ldc 99, 2) := by decide +kernel
theorem dX10_addChoice_26 : decode cX10_addChoice 26 = .ok (.invokespecial 64, 3) := by decide +kernel
theorem dX10_addChoice_29 : decode cX10_addChoice 29 = .ok (.athrow, 1) := by decide +kernel
theorem dX10_addChoice_30 : decode cX10_addChoice 30 = .ok (.iload 4, 2) := by decide +kernel
theorem dX10_addChoice_32 : decode cX10_addChoice 32 = .ok (.iconst (-1), 1) := by decide +kernel
theorem dX10_addChoice_33 : decode cX10_addChoice 33 = .ok (.if_icmp .eq 26, 3) := by decide +kernel
theorem dX10_addChoice_36 : decode cX10_addChoice 36 = .ok (.aload_n 0, 1) := by decide +kernel
theorem dX10_addChoice_37 : decode cX10_addChoice 37 = .ok (.getfield 12, 3) := by decide +kernel
theorem dX10_addChoice_40 : decode cX10_addChoice 40 = .ok (.iload 4, 2) := by decide +kernel
theorem dX10_addChoice_42 : decode cX10_addChoice 42 = .ok (.invokevirtual 101, 3) := by decide +kernel
theorem dX10_addChoice_45 : decode cX10_addChoice 45 = .ok (.iconst 1, 1) := by decide +kernel
theorem dX10_addChoice_46 : decode cX10_addChoice 46 = .ok (.if_icmp .eq 13, 3) := by decide +kernel
theorem dX10_addChoice_49 : decode cX10_addChoice 49 = .ok (.new 60, 3) := by decide +kernel
theorem dX10_addChoice_52 : decode cX10_addChoice 52 = .ok (.dup, 1) := by decide +kernel
theorem dX10_addChoice_53 : decode cX10_addChoice 53 = .ok (.ldc 104, 2) := by decide +kernel
theorem dX10_addChoice_55 : decode cX10_addChoice 55 = .ok (.invokespecial 64, 3) := by decide +kernel
theorem dX10_addChoice_58 : decode cX10_addChoice 58 = .ok (.athrow, 1) := by decide +kernel
theorem dX10_addChoice_59 : decode cX10_addChoice 59 = .ok (.aload_n 0, 1) := by decide +kernel
theorem dX10_addChoice_60 : decode cX10_addChoice 60 = .ok (.invokevirtual 87, 3) := by decide +kernel
theorem dX10_addChoice_63 : decode cX10_addChoice 63 = .ok (.aload_n 0, 1) := by decide +kernel
theorem dX10_addChoice_64 : decode cX10_addChoice 64 = .ok (.invokevirtual 76, 3) := by decide +kernel
theorem dX10_addChoice_67 : decode cX10_addChoice 67 = .ok (.new 90, 3) := by decide +kernel
theorem dX10_addChoice_70 : decode cX10_addChoice 70 = .ok (.dup, 1) := by decide +kernel
theorem dX10_addChoice_71 : decode cX10_addChoice 71 = .ok (.bipush 99, 2) := by decide +kernel
theorem dX10_addChoice_73 : decode cX10_addChoice 73 = .ok (.iload_n 1, 1) := by decide +kernel
theorem dX10_addChoice_74 : decode cX10_addChoice 74 = .ok (.invokespecial 92, 3) := by decide +kernel
theorem dX10_addChoice_77 : decode cX10_addChoice 77 = .ok (.astore 5, 2) := by decide +kernel
theorem dX10_addChoice_79 : decode cX10_addChoice 79 = .ok (.aload 5, 2) := by decide +kernel
theorem dX10_addChoice_81 : decode cX10_addChoice 81 = .ok (.iload_n 2, 1) := by decide +kernel
theorem dX10_addChoice_82 : decode cX10_addChoice 82 = .ok (.putfield 106, 3) := by decide +kernel
theorem dX10_addChoice_85 : decode cX10_addChoice 85 = .ok (.aload 5, 2) := by decide +kernel
theorem dX10_addChoice_87 : decode cX10_addChoice 87 = .ok (.iload_n 3, 1) := by decide +kernel
theorem dX10_addChoice_88 : decode cX10_addChoice 88 = .ok (.putfield 109, 3) := by decide +kernel
theorem dX10_addChoice_91 : decode cX10_addChoice 91 = .ok (.aload 5, 2) := by decide +kernel
theorem dX10_addChoice_93 : decode cX10_addChoice 93 = .ok (.iload 4, 2) := by decide +kernel
theorem dX10_addChoice_95 : decode cX10_addChoice 95 = .ok (.putfield 112, 3) := by decide +kernel
theorem dX10_addChoice_98 : decode cX10_addChoice 98 = .ok (.aload_n 0, 1) := by decide +kernel
theorem dX10_addChoice_99 : decode cX10_addChoice 99 = .ok (.getfield 12, 3) := by decide +kernel
theorem dX10_addChoice_102 : decode cX10_addChoice 102 = .ok (.aload 5, 2) := by decide +kernel
theorem dX10_addChoice_104 : decode cX10_addChoice 104 = .ok (.invokevirtual 95, 3) := by decide +kernel
theorem dX10_addChoice_107 : decode cX10_addChoice 107 = .ok (.ireturn, 1) := by decide +kernel
def wW_k_X10_addChoice (ty : Nat → ClassId) (X : Nat → Nat) (z9_0 : Int32) (z9_1 : Int32) (z9_2 : Int32) (z9_3 : Int32) (z9_4 : Nat → Int32) (z9_5 : Nat → Option Nat) (z9_6 : Int32) (z9_7 : Int32) (z9_8 : Int32) (z9_9 : Int32) (z9_10 : Int32) (z9_11 : Int32) (z9_12 : Int32) (z9_13 : Int32) (z9_14 : Int32) (z9_15 : Int32) (z9_16 : Int32) (z9_17 : Int32) (z9_18 : Int32) (z9_19 : Int32) (z9_20 : Int32) (z9_21 : Int32) (z9_22 : Int32) : va_W := [((X 0), .inr (12, [.ref (X 1), .ref (X 8), .ref (X 20), .ref (X 39), .ref (X 41), .ref (X 43), .ref (X 45)])), ((X 1), .inr (8, [.ref (X 2), .int z9_0, .ref (X 3), .int z9_1, .ref (X 4), .ref (X 5), .int z9_2, .ref (X 6), .ref (X 7), .int z9_3])), ((X 2), .inl (ty 0, 6, .inl z9_4)), ((X 3), .inl (ty 4, 20, .inr (.inr (.inr (.inr z9_5))))), ((X 8), .inr (5, [.ref (X 1), .ref (X 9), .ref (X 10), .ref (X 12), .ref (X 14), .int z9_6, .ref (X 15), .ref (X 16), .ref (X 17), .int z9_7, .ref (X 18), .ref (X 19), .int z9_8, .int z9_9, .int z9_10, .int z9_11])), ((X 20), .inr (11, [.ref (X 1), .ref (X 8), .ref (X 21), .ref (X 28), .ref (X 35), .int z9_12, .ref (X 36), .ref (X 37), .ref (X 38), .int z9_13, .int z9_14, .int z9_15, .int z9_16, .int z9_17, .int z9_18, .int z9_19, .int z9_20])), ((X 45), .inr (2, [.ref (X 46), .ref (X 47), .int z9_21, .int z9_22]))]
