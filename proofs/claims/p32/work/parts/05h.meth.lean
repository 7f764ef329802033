theorem dX9_countsHold_0 : decode cX9_countsHold 0 = .ok (.aload_n 1, 1) := by decide +kernel
theorem dX9_countsHold_1 : decode cX9_countsHold 1 = .ok (.ifnonnull 5, 3) := by decide +kernel
theorem dX9_countsHold_4 : decode cX9_countsHold 4 = .ok (.iconst 0, 1) := by decide +kernel
theorem dX9_countsHold_5 : decode cX9_countsHold 5 = .ok (.ireturn, 1) := by decide +kernel
theorem dX9_countsHold_6 : decode cX9_countsHold 6 = .ok (.iconst 0, 1) := by decide +kernel
theorem dX9_countsHold_7 : decode cX9_countsHold 7 = .ok (.istore_n 3, 1) := by decide +kernel
theorem dX9_countsHold_8 : decode cX9_countsHold 8 = .ok (.iload_n 3, 1) := by decide +kernel
theorem dX9_countsHold_9 : decode cX9_countsHold 9 = .ok (.aload_n 1, 1) := by decide +kernel
theorem dX9_countsHold_10 : decode cX9_countsHold 10 = .ok (.getfield 132, 3) := by decide +kernel
theorem dX9_countsHold_13 : decode cX9_countsHold 13 = .ok (.if_icmp .ge 41, 3) := by decide +kernel
theorem dX9_countsHold_16 : decode cX9_countsHold 16 = .ok (.aload_n 1, 1) := by decide +kernel
theorem dX9_countsHold_17 : decode cX9_countsHold 17 = .ok (.iload_n 3, 1) := by decide +kernel
theorem dX9_countsHold_18 : decode cX9_countsHold 18 = .ok (.invokevirtual 135, 3) := by decide +kernel
theorem dX9_countsHold_21 : decode cX9_countsHold 21 = .ok (.astore 4, 2) := by decide +kernel
theorem dX9_countsHold_23 : decode cX9_countsHold 23 = .ok (.aload 4, 2) := by decide +kernel
theorem dX9_countsHold_25 : decode cX9_countsHold 25 = .ok (.ifnull 23, 3) := by decide +kernel
theorem dX9_countsHold_28 : decode cX9_countsHold 28 = .ok (.aload 4, 2) := by decide +kernel
theorem dX9_countsHold_30 : decode cX9_countsHold 30 = .ok (.invokevirtual 253, 3) := by decide +kernel
theorem dX9_countsHold_33 : decode cX9_countsHold 33 = .ok (.ifCond .eq 15, 3) := by decide +kernel
theorem dX9_countsHold_36 : decode cX9_countsHold 36 = .ok (.aload_n 0, 1) := by decide +kernel
theorem dX9_countsHold_37 : decode cX9_countsHold 37 = .ok (.aload 4, 2) := by decide +kernel
theorem dX9_countsHold_39 : decode cX9_countsHold 39 = .ok (.iload_n 2, 1) := by decide +kernel
theorem dX9_countsHold_40 : decode cX9_countsHold 40 = .ok (.invokevirtual 256, 3) := by decide +kernel
theorem dX9_countsHold_43 : decode cX9_countsHold 43 = .ok (.ifCond .ne 5, 3) := by decide +kernel
theorem dX9_countsHold_46 : decode cX9_countsHold 46 = .ok (.iconst 0, 1) := by decide +kernel
theorem dX9_countsHold_47 : decode cX9_countsHold 47 = .ok (.ireturn, 1) := by decide +kernel
theorem dX9_countsHold_48 : decode cX9_countsHold 48 = .ok (.iinc 3 1, 3) := by decide +kernel
theorem dX9_countsHold_51 : decode cX9_countsHold 51 = .ok (.goto (-43), 3) := by decide +kernel
theorem dX9_countsHold_54 : decode cX9_countsHold 54 = .ok (.iconst 1, 1) := by decide +kernel
theorem dX9_countsHold_55 : decode cX9_countsHold 55 = .ok (.ireturn, 1) := by decide +kernel
def wW_k_X9_countsHold (ty : Nat → ClassId) (X : Nat → Nat) (z9_0 : Int32) (z9_1 : Int32) (z9_2 : Int32) (z9_3 : Int32) (z9_4 : Int32) (z9_5 : Int32) (z9_6 : Int32) (z9_7 : Int32) (z9_8 : Int32) (z9_9 : Nat → Int32) (z9_10 : Nat → Int32) : va_W := [((X 20), .inr (11, [.ref (X 1), .ref (X 8), .ref (X 21), .ref (X 28), .ref (X 35), .int z9_0, .ref (X 36), .ref (X 37), .ref (X 38), .int z9_1, .int z9_2, .int z9_3, .int z9_4, .int z9_5, .int z9_6, .int z9_7, .int z9_8])), ((X 36), .inl (ty 0, 6, .inl z9_9)), ((X 37), .inl (ty 0, 6, .inl z9_10))]
def vs_k_X9_countsHold : List Cond := .code yX9_countsHold cX9_countsHold 5 (some .boolean) :: ([.methodLink RX9 135 yX8_conditionAt, .instanceMethod yX8_conditionAt, .selects RX8 yX8_conditionAt yX8_conditionAt, .initialized RX8, .methodLink RX9 253 yX4_isCount, .instanceMethod yX4_isCount, .selects RX4 yX4_isCount yX4_isCount, .initialized RX4, .methodLink RX9 256 yX9_countHolds, .instanceMethod yX9_countHolds, .selects RX9 yX9_countHolds yX9_countHolds, .initialized RX9] ++ (u_ws RX8 TX8 11 ++ (vs_k_X8_conditionAt ++ (vs_k_X4_isCount ++ (vs_k_X9_countHolds)))))
theorem iv_k_X9_countsHold_X8 : ∀ w ∈ u_ws RX8 TX8 11, w ∈ vs_k_X9_countsHold := (fun _ h => List.mem_cons_of_mem _ (List.mem_append_right _ (List.mem_append_left _ h)))
set_option maxRecDepth 20000 in
theorem gv_k_X9_countsHold_0 : GoodIn vs_k_X9_countsHold (wsV RX9 135 RX8 yX8_conditionAt vs_k_X8_conditionAt) := goodIn_app (goodIn_sub (by decide +kernel) (by decide +kernel)) (goodIn_sub (fun _ h => List.mem_cons_of_mem _ (List.mem_append_right _ (List.mem_append_right _ (List.mem_append_left _ h)))) (by decide +kernel))
set_option maxRecDepth 20000 in
theorem gv_k_X9_countsHold_1 : GoodIn vs_k_X9_countsHold (wsV RX9 253 RX4 yX4_isCount vs_k_X4_isCount) := goodIn_app (goodIn_sub (by decide +kernel) (by decide +kernel)) (goodIn_sub (fun _ h => List.mem_cons_of_mem _ (List.mem_append_right _ (List.mem_append_right _ (List.mem_append_right _ (List.mem_append_left _ h))))) (by decide +kernel))
set_option maxRecDepth 20000 in
theorem gv_k_X9_countsHold_2 : GoodIn vs_k_X9_countsHold (wsV RX9 256 RX9 yX9_countHolds vs_k_X9_countHolds) := goodIn_app (goodIn_sub (by decide +kernel) (by decide +kernel)) (goodIn_sub (fun _ h => List.mem_cons_of_mem _ (List.mem_append_right _ (List.mem_append_right _ (List.mem_append_right _ (List.mem_append_right _ (h)))))) (by decide +kernel))
set_option maxHeartbeats 4000000 in
set_option maxRecDepth 100000 in
theorem k_X9_countsHold (l : Launch) (D : va_G) (ty : Nat → ClassId) (td mi sz : Nat) (pp : pT) (X : Nat → Nat) (an : Int32) (ch : Int32) (cg : Int32) (fb : Int32) (mh : Int32) (ml : Int32) (ih : Int32) (lb : Int32) (ic : Int32) (obi : Nat → Int32) (sc : Nat → Int32) (a0 : Nat) (a1 : Int32) (hok : pOK pp) (hm_a0 : a0 ∈ pRA pp) (TT : r_k_X9_countsHold) (hTT : TT = m_k_X9_countsHold pp obi sc a0 a1) : Met l yX9_countsHold vs_k_X9_countsHold { frames := 2, cells := 0, slots := 0, locals := 44 } (va_Pc [.ref (X 20), .ref a0, .int a1] (wq_P D ty td mi ((wW_k_X9_countsHold ty X an ch cg fb mh ml ih lb ic obi sc) ++ pw ty pp) sz)) (va_Qi (fun (r : Int32) (u : va_W) => (r = TT ∧ (TT = 0 ∨ TT = 1) ∧ (u = ((wW_k_X9_countsHold ty X an ch cg fb mh ml ih lb ic obi sc) ++ pw ty pp)))) (wq_B D (va_A ((wW_k_X9_countsHold ty X an ch cg fb mh ml ih lb ic obi sc) ++ pw ty pp) sz)) (va_A ((wW_k_X9_countsHold ty X an ch cg fb mh ml ih lb ic obi sc) ++ pw ty pp) sz)) 0 0 (va_A ((wW_k_X9_countsHold ty X an ch cg fb mh ml ih lb ic obi sc) ++ pw ty pp) sz) := by
  refine Met.ofW (cc := cX9_countsHold) (maxL := 5) (ret := (some .boolean)) (by decide) rfl ?_
  intro p e s m args below meth c s₁ B hml hv
  obtain ⟨rfl, hsz, hP, hK, hD0, hE⟩ := hv
  have hx := B.exec
  have hb := B.bytes
  have hr := B.returns
  have hts := atoms_spec (ws := vs_k_X9_countsHold) B.pre
  have hown : s.vm.findClass RX9 = some m.cls := findClass_of_methodNamed B.named
  have hlocks := B.notSynchronized
  subst hsz
  have hD := hD0.self (sz := s.heap.size)
  generalize hAe : va_A ((wW_k_X9_countsHold ty X an ch cg fb mh ml ih lb ic obi sc) ++ pw ty pp) s.heap.size = A at hD hE ⊢
  have hA : ∀ q : Nat, s.heap.size ≤ q → A q := fun q h => by rw [← hAe]; exact Or.inr h
  have hS : va_S A s.heap s.heap [] := va_S.rf
  have hP : va_P D vwCl ((wW_k_X9_countsHold ty X an ch cg fb mh ml ih lb ic obi sc) ++ pw ty pp) s.heap := hP
  have hl := lv_entry ([.ref (X 20), .ref a0, .int a1]) (n := 5) (Nat.le_of_ble_eq_true rfl)
  rw [lg_entry_eq]
  generalize (lg_sl ([.ref (X 20), .ref a0, .int a1]) ++ List.replicate (5 - (lg_sl ([.ref (X 20), .ref a0, .int a1])).length) Slot.unset).toArray = ls at hl ⊢
  have hl : lv_has ls 5 [(0, .ref (X 20)), (1, .ref a0), (2, .int a1)] := hl
  have END : ∀ (r : Int32), TT = r → (r = 0 ∨ r = 1) → ∀ (H : Heap) (locs : List Loc), va_P D vwCl ((wW_k_X9_countsHold ty X an ch cg fb mh ml ih lb ic obi sc) ++ pw ty pp) H → va_D A ((wW_k_X9_countsHold ty X an ch cg fb mh ml ih lb ic obi sc) ++ pw ty pp) → va_S A s.heap H locs → ∀ (ls : Array Slot) (pc : Nat), decode cX9_countsHold pc = .ok (.ireturn, 1) → W p l e (headSpec vs_k_X9_countsHold { frames := 2, cells := 0, slots := 0, locals := 44 }).room s m ([.ref (X 20), .ref a0, .int a1] : List Value).toArray below meth c H locs 0 0 (MQ below (va_Qi (fun (r : Int32) (u : va_W) => (r = TT ∧ (TT = 0 ∨ TT = 1) ∧ (u = ((wW_k_X9_countsHold ty X an ch cg fb mh ml ih lb ic obi sc) ++ pw ty pp)))) (wq_B D A) A) ([.ref (X 20), .ref a0, .int a1] : List Value).toArray s 0 0 A) (F0 m pc ls [.int r]) := by
    intro r hT hb01 H locs hP hD hS ls pc hd
    have hM : TT = r := hT
    exact W.zret (v := r) hx hb hr (wz_nar hb01) (fun t ht hW => ⟨⟨r, ((wW_k_X9_countsHold ty X an ch cg fb mh ml ih lb ic obi sc) ++ pw ty pp), rfl, ⟨(by rw [hM]), (by rw [hM]; exact hb01), rfl⟩, wq_B.of ht hP hD⟩, hS.F ht⟩) hS.2.2 hd
  have hT := hTT
  rw [m_k_X9_countsHold] at hT
  refine lv_aload_n hx hb dX9_countsHold_0 rfl (lv_at hl 1 rfl) ?_
  refine lv_ifnonnull (tgt := 6) hx hb dX9_countsHold_1 (by decide) ?_
  refine lv_iconst (v := 0) hx hb dX9_countsHold_6 (by decide) ?_
  refine lv_istore_n (lv' := [(3, .int 0), (0, .ref (X 20)), (1, .ref a0), (2, .int a1)]) hx hb dX9_countsHold_7 rfl hl (by decide) rfl (fun ls hl => ?_)
  have L_8 : ∀ (n_8 : Nat) (v3_8 : Int32), (2147483648 - v3_8.toInt).toNat < n_8 → TT = m_k_X9_countsHold_8 pp obi sc a0 a1 n_8 v3_8 → 0 ≤ v3_8.toInt → ∀ (H : Heap) (locs : List Loc), va_P D vwCl ((wW_k_X9_countsHold ty X an ch cg fb mh ml ih lb ic obi sc) ++ pw ty pp) H → va_D A ((wW_k_X9_countsHold ty X an ch cg fb mh ml ih lb ic obi sc) ++ pw ty pp) → va_S A s.heap H locs → ∀ ls : Array Slot, lv_has ls 5 [(0, .ref (X 20)), (1, .ref a0), (2, .int a1), (3, .int v3_8)] → W p l e (headSpec vs_k_X9_countsHold { frames := 2, cells := 0, slots := 0, locals := 44 }).room s m ([.ref (X 20), .ref a0, .int a1] : List Value).toArray below meth c H locs 0 0 (MQ below (va_Qi (fun (r : Int32) (u : va_W) => (r = TT ∧ (TT = 0 ∨ TT = 1) ∧ (u = ((wW_k_X9_countsHold ty X an ch cg fb mh ml ih lb ic obi sc) ++ pw ty pp)))) (wq_B D A) A) ([.ref (X 20), .ref a0, .int a1] : List Value).toArray s 0 0 A) (F0 m 8 ls []) := by
    intro n_8
    induction n_8 with
    | zero => intro v3_8 hu; exact absurd hu (Nat.not_lt_zero _)
    | succ n_8 ih_8 =>
      intro v3_8 hu_8 hT hn_8 H locs hP hD hS ls hl
      rw [m_k_X9_countsHold_8_succ, m_k_X9_countsHold_8s] at hT
      refine lv_iload_n hx hb dX9_countsHold_8 rfl (lv_at hl 3 rfl) ?_
      refine lv_aload_n hx hb dX9_countsHold_9 rfl (lv_at hl 1 rfl) ?_
      obtain ⟨k_1, hk_1⟩ := List.getElem?_of_mem (pw_rule (ty := ty) (p := pp) (L := [((X 20), .inr (11, [.ref (X 1), .ref (X 8), .ref (X 21), .ref (X 28), .ref (X 35), .int an, .ref (X 36), .ref (X 37), .ref (X 38), .int ch, .int cg, .int fb, .int mh, .int ml, .int ih, .int lb, .int ic])), ((X 36), .inl (ty 0, 6, .inl obi)), ((X 37), .inl (ty 0, 6, .inl sc))]) hm_a0)
      refine va_getN (D := D) (ci := 10) (v := .int (pI pp a0 10)) (C := RX8) (T := TX8) (N := 11) hx hb hts iv_k_X9_countsHold_X8 hown hK hP k_1 hk_1 rfl 10 (by decide) (hE.at (.fieldLinkNest "AnswerFold$Solver" 132 "AnswerFold$Rule" "conditionCount" "I" "AnswerFold") (by decide +kernel)) (fun _ h9 => h9) rfl dX9_countsHold_10 ?_
      refine lv_icmp_ge (tgt := 54) hx hb dX9_countsHold_13 (by decide) (fun c_2 => ?_) (fun c_2 => ?_)
      · rw [if_pos c_2] at hT
        refine lv_iconst (v := 1) hx hb dX9_countsHold_54 (by decide) ?_
        exact END 1 hT (by decide) _ _ hP hD hS _ _ dX9_countsHold_55
      · rw [if_neg c_2] at hT
        refine lv_aload_n hx hb dX9_countsHold_16 rfl (lv_at hl 1 rfl) ?_
        refine lv_iload_n hx hb dX9_countsHold_17 rfl (lv_at hl 3 rfl) ?_
        obtain ⟨t_18, ht_18⟩ : ∃ t, t = m_k_X8_conditionAt pp a0 v3_8 := ⟨_, rfl⟩
        rw [lE_eq ht_18] at hT
        obtain ⟨k_3, hk_3⟩ := List.getElem?_of_mem (pw_rule (ty := ty) (p := pp) (L := [((X 20), .inr (11, [.ref (X 1), .ref (X 8), .ref (X 21), .ref (X 28), .ref (X 35), .int an, .ref (X 36), .ref (X 37), .ref (X 38), .int ch, .int cg, .int fb, .int mh, .int ml, .int ih, .int lb, .int ic])), ((X 36), .inl (ty 0, 6, .inl obi)), ((X 37), .inl (ty 0, 6, .inl sc))]) hm_a0)
        refine wq_rPW (wc := []) (pl := pw ty pp) (ux := []) (va_runV (As := [.int v3_8]) (rest := []) ⟨hx, hb, hml, hown, hts⟩ (k_X8_conditionAt l D ty td mi H.size pp a0 v3_8 hok hm_a0 t_18 ht_18) (cwV 1 hts gv_k_X9_countsHold_0 rfl rfl rfl (by decide +kernel) ⟨(Nat.le_of_ble_eq_true rfl), (Nat.le_of_ble_eq_true rfl)⟩) (wm_V (wm_preSP hP hD hK hE hS hA [] rfl) (va_recv (q0 := k_3) (ci := 10) hK hP rfl hk_3)) rfl rfl hl.1 rfl (lv_room (Nat.le_of_ble_eq_true rfl)) dX9_countsHold_18 ⟨(Nat.le_of_ble_eq_true rfl), (Nat.le_of_ble_eq_true rfl)⟩) hS hA hP hD [] rfl rfl (fun _ _ h => h.2) (fun r H locs hw hP hD hS => ?_)
        obtain ⟨rfl, -⟩ := hw
        have hP : va_P D vwCl ((wW_k_X9_countsHold ty X an ch cg fb mh ml ih lb ic obi sc) ++ pw ty pp) H := hP
        have hD : va_D A ((wW_k_X9_countsHold ty X an ch cg fb mh ml ih lb ic obi sc) ++ pw ty pp) := hD
        refine W.widen (k := 0) (n := 0) (Nat.le_of_ble_eq_true rfl) (Nat.le_of_ble_eq_true rfl) ?_
        rcases ho_18 : t_18 with _ | o_18
        · rw [ho_18, oE_none] at hT
          refine W.eq (g2 := F0 m 21 ls [.null]) rfl ?_
          refine lv_astoreN (lv' := [(4, .null), (0, .ref (X 20)), (1, .ref a0), (2, .int a1), (3, .int v3_8)]) hx hb dX9_countsHold_21 hl (by decide) rfl (fun ls hl => ?_)
          refine lv_aloadN hx hb dX9_countsHold_23 (lv_at hl 0 rfl) ?_
          have J_48 : ∀ (_ : Unit), TT = m_k_X9_countsHold_48 (m_k_X9_countsHold_8 pp obi sc a0 a1 n_8) v3_8 → ∀ (H : Heap) (locs : List Loc), va_P D vwCl ((wW_k_X9_countsHold ty X an ch cg fb mh ml ih lb ic obi sc) ++ pw ty pp) H → va_D A ((wW_k_X9_countsHold ty X an ch cg fb mh ml ih lb ic obi sc) ++ pw ty pp) → va_S A s.heap H locs → ∀ ls : Array Slot, lv_has ls 5 [(0, .ref (X 20)), (1, .ref a0), (2, .int a1), (3, .int v3_8)] → W p l e (headSpec vs_k_X9_countsHold { frames := 2, cells := 0, slots := 0, locals := 44 }).room s m ([.ref (X 20), .ref a0, .int a1] : List Value).toArray below meth c H locs 0 0 (MQ below (va_Qi (fun (r : Int32) (u : va_W) => (r = TT ∧ (TT = 0 ∨ TT = 1) ∧ (u = ((wW_k_X9_countsHold ty X an ch cg fb mh ml ih lb ic obi sc) ++ pw ty pp)))) (wq_B D A) A) ([.ref (X 20), .ref a0, .int a1] : List Value).toArray s 0 0 A) (F0 m 48 ls []) := by
            intro _ hT  H locs hP hD hS ls hl
            rw [m_k_X9_countsHold_48] at hT
            refine lv_iinc (v := v3_8 + 1) (lv' := [(3, .int (v3_8 + 1)), (0, .ref (X 20)), (1, .ref a0), (2, .int a1)]) hx hb dX9_countsHold_48 hl (k := 3) rfl (by rfl) (by decide) rfl (fun ls hl => ?_)
            refine lv_goto (tgt := 8) hx hb dX9_countsHold_51 (by decide) ?_
            exact ih_8 (v3_8 + 1) (wi_up hu_8 (Int32.not_le.mp c_2)) hT (wi_inc hn_8 (Int32.not_le.mp c_2)) _ _ hP hD hS _ (lv_sub hl [1, 2, 3, 0] rfl)
          refine lv_ifnullN (tgt := 48) hx hb dX9_countsHold_25 (by decide) ?_
          exact J_48 () hT _ _ hP hD hS _ (lv_sub hl [1, 2, 3, 4] rfl)
        · rw [ho_18, oE_some] at hT
          refine W.eq (g2 := F0 m 21 ls [.ref o_18]) rfl ?_
          refine lv_astore (lv' := [(4, .ref o_18), (0, .ref (X 20)), (1, .ref a0), (2, .int a1), (3, .int v3_8)]) hx hb dX9_countsHold_21 hl (by decide) rfl (fun ls hl => ?_)
          refine lv_aload hx hb dX9_countsHold_23 (lv_at hl 0 rfl) ?_
          have J_48 : ∀ (_ : Unit), TT = m_k_X9_countsHold_48 (m_k_X9_countsHold_8 pp obi sc a0 a1 n_8) v3_8 → ∀ (H : Heap) (locs : List Loc), va_P D vwCl ((wW_k_X9_countsHold ty X an ch cg fb mh ml ih lb ic obi sc) ++ pw ty pp) H → va_D A ((wW_k_X9_countsHold ty X an ch cg fb mh ml ih lb ic obi sc) ++ pw ty pp) → va_S A s.heap H locs → ∀ ls : Array Slot, lv_has ls 5 [(0, .ref (X 20)), (1, .ref a0), (2, .int a1), (3, .int v3_8)] → W p l e (headSpec vs_k_X9_countsHold { frames := 2, cells := 0, slots := 0, locals := 44 }).room s m ([.ref (X 20), .ref a0, .int a1] : List Value).toArray below meth c H locs 0 0 (MQ below (va_Qi (fun (r : Int32) (u : va_W) => (r = TT ∧ (TT = 0 ∨ TT = 1) ∧ (u = ((wW_k_X9_countsHold ty X an ch cg fb mh ml ih lb ic obi sc) ++ pw ty pp)))) (wq_B D A) A) ([.ref (X 20), .ref a0, .int a1] : List Value).toArray s 0 0 A) (F0 m 48 ls []) := by
            intro _ hT  H locs hP hD hS ls hl
            rw [m_k_X9_countsHold_48] at hT
            refine lv_iinc (v := v3_8 + 1) (lv' := [(3, .int (v3_8 + 1)), (0, .ref (X 20)), (1, .ref a0), (2, .int a1)]) hx hb dX9_countsHold_48 hl (k := 3) rfl (by rfl) (by decide) rfl (fun ls hl => ?_)
            refine lv_goto (tgt := 8) hx hb dX9_countsHold_51 (by decide) ?_
            exact ih_8 (v3_8 + 1) (wi_up hu_8 (Int32.not_le.mp c_2)) hT (wi_inc hn_8 (Int32.not_le.mp c_2)) _ _ hP hD hS _ (lv_sub hl [1, 2, 3, 0] rfl)
          refine lv_ifnull hx hb dX9_countsHold_25 ?_
          refine lv_aload hx hb dX9_countsHold_28 (lv_at hl 0 rfl) ?_
          obtain ⟨t_30, ht_30⟩ : ∃ t, t = m_k_X4_isCount pp o_18 := ⟨_, rfl⟩
          rw [lE_eq ht_30] at hT
          obtain ⟨k_6, hk_6⟩ := List.getElem?_of_mem (pw_lit (ty := ty) (p := pp) (L := [((X 20), .inr (11, [.ref (X 1), .ref (X 8), .ref (X 21), .ref (X 28), .ref (X 35), .int an, .ref (X 36), .ref (X 37), .ref (X 38), .int ch, .int cg, .int fb, .int mh, .int ml, .int ih, .int lb, .int ic])), ((X 36), .inl (ty 0, 6, .inl obi)), ((X 37), .inl (ty 0, 6, .inl sc))]) (mm_k_X8_conditionAt pp a0 v3_8 hok hm_a0 _ (by rw [← ht_18]; exact ho_18)))
          refine wq_iPW (wc := []) (pl := pw ty pp) (ux := []) (va_runV (As := []) (rest := []) ⟨hx, hb, hml, hown, hts⟩ (k_X4_isCount l D ty td mi H.size pp o_18 hok (mm_k_X8_conditionAt pp a0 v3_8 hok hm_a0 _ (by rw [← ht_18]; exact ho_18)) t_30 ht_30) (cwV 0 hts gv_k_X9_countsHold_1 rfl rfl rfl (by decide +kernel) ⟨(Nat.le_of_ble_eq_true rfl), (Nat.le_of_ble_eq_true rfl)⟩) (wm_V (wm_preSP hP hD hK hE hS hA [] rfl) (va_recv (q0 := k_6) (ci := 6) hK hP rfl hk_6)) rfl rfl hl.1 rfl (lv_room (Nat.le_of_ble_eq_true rfl)) dX9_countsHold_30 ⟨(Nat.le_of_ble_eq_true rfl), (Nat.le_of_ble_eq_true rfl)⟩) hS hA hP hD [] rfl rfl (fun _ _ h => h.2.2) (fun r H locs hw hP hD hS => ?_)
          obtain ⟨hr0, c_9, -⟩ := hw
          subst r
          have hP : va_P D vwCl ((wW_k_X9_countsHold ty X an ch cg fb mh ml ih lb ic obi sc) ++ pw ty pp) H := hP
          have hD : va_D A ((wW_k_X9_countsHold ty X an ch cg fb mh ml ih lb ic obi sc) ++ pw ty pp) := hD
          refine W.widen (k := 0) (n := 0) (Nat.le_of_ble_eq_true rfl) (Nat.le_of_ble_eq_true rfl) ?_
          refine lv_if_eq (tgt := 48) hx hb dX9_countsHold_33 (by decide) (fun c_10 => ?_) (fun c_10 => ?_)
          · rw [if_pos c_10] at hT
            exact J_48 () hT _ _ hP hD hS _ (lv_sub hl [1, 2, 3, 4] rfl)
          · rw [if_neg c_10] at hT
            refine lv_aload_n hx hb dX9_countsHold_36 rfl (lv_at hl 1 rfl) ?_
            refine lv_aload hx hb dX9_countsHold_37 (lv_at hl 0 rfl) ?_
            refine lv_iload_n hx hb dX9_countsHold_39 rfl (lv_at hl 3 rfl) ?_
            obtain ⟨t_40, ht_40⟩ : ∃ t, t = m_k_X9_countHolds pp obi sc o_18 a1 := ⟨_, rfl⟩
            rw [lE_eq ht_40] at hT
            refine wq_iPW (wc := (wW_k_X9_countHolds ty X an ch cg fb mh ml ih lb ic obi sc)) (pl := pw ty pp) (ux := (wW_k_X9_countHolds ty X an ch cg fb mh ml ih lb ic obi sc)) (va_runV (As := [.ref o_18, .int a1]) (rest := []) ⟨hx, hb, hml, hown, hts⟩ (k_X9_countHolds l D ty td mi H.size pp X an ch cg fb mh ml ih lb ic obi sc o_18 a1 hok (mm_k_X8_conditionAt pp a0 v3_8 hok hm_a0 _ (by rw [← ht_18]; exact ho_18)) t_40 ht_40) (cwV 2 hts gv_k_X9_countsHold_2 rfl rfl rfl (by decide +kernel) ⟨(Nat.le_of_ble_eq_true rfl), (Nat.le_of_ble_eq_true rfl)⟩) (wm_V (wm_preSP hP hD hK hE hS hA [true, true, true] rfl) (va_recv (q0 := 0) (ci := 11) hK hP rfl rfl)) rfl rfl hl.1 rfl (lv_room (Nat.le_of_ble_eq_true rfl)) dX9_countsHold_40 ⟨(Nat.le_of_ble_eq_true rfl), (Nat.le_of_ble_eq_true rfl)⟩) hS hA hP hD [true, true, true] rfl rfl (fun _ _ h => h.2.2) (fun r H locs hw hP hD hS => ?_)
            obtain ⟨hr0, c_13, -⟩ := hw
            subst r
            have hP : va_P D vwCl ((wW_k_X9_countsHold ty X an ch cg fb mh ml ih lb ic obi sc) ++ pw ty pp) H := hP
            have hD : va_D A ((wW_k_X9_countsHold ty X an ch cg fb mh ml ih lb ic obi sc) ++ pw ty pp) := hD
            refine W.widen (k := 0) (n := 0) (Nat.le_of_ble_eq_true rfl) (Nat.le_of_ble_eq_true rfl) ?_
            refine lv_if_ne (tgt := 48) hx hb dX9_countsHold_43 (by decide) (fun c_14 => ?_) (fun c_14 => ?_)
            · rw [if_neg c_14] at hT
              exact J_48 () hT _ _ hP hD hS _ (lv_sub hl [1, 2, 3, 4] rfl)
            · rw [if_pos c_14] at hT
              refine lv_iconst (v := 0) hx hb dX9_countsHold_46 (by decide) ?_
              exact END 0 hT (by decide) _ _ hP hD hS _ _ dX9_countsHold_47
  exact L_8 wF 0 (wF_up 0) hT (by decide) _ _ hP hD hS _ (lv_sub hl [1, 2, 3, 0] rfl)
def vs_k_X9_countsHold_z : List Cond := .code yX9_countsHold cX9_countsHold 5 (some .boolean) :: ([])
set_option maxHeartbeats 4000000 in
set_option maxRecDepth 100000 in
theorem k_X9_countsHold_z (l : Launch) (D : va_G) (ty : Nat → ClassId) (td mi sz : Nat) (X : Nat → Nat) (a1 : Int32) (TT : r_k_X9_countsHold_z) (hTT : TT = m_k_X9_countsHold_z) : Met l yX9_countsHold vs_k_X9_countsHold_z { frames := 0, cells := 0, slots := 0, locals := 0 } (va_Pc [.ref (X 20), .null, .int a1] (wq_P D ty td mi [] sz)) (va_Qi (fun (r : Int32) (u : va_W) => (r = TT ∧ (TT = 0 ∨ TT = 1) ∧ (u = []))) (wq_B D (va_A [] sz)) (va_A [] sz)) 0 0 (va_A [] sz) := by
  refine Met.ofW (cc := cX9_countsHold) (maxL := 5) (ret := (some .boolean)) (by decide) rfl ?_
  intro p e s m args below meth c s₁ B hml hv
  obtain ⟨rfl, hsz, hP, hK, hD0, hE⟩ := hv
  have hx := B.exec
  have hb := B.bytes
  have hr := B.returns
  have hts := atoms_spec (ws := vs_k_X9_countsHold_z) B.pre
  have hown : s.vm.findClass RX9 = some m.cls := findClass_of_methodNamed B.named
  have hlocks := B.notSynchronized
  subst hsz
  have hD := hD0.self (sz := s.heap.size)
  generalize hAe : va_A [] s.heap.size = A at hD hE ⊢
  have hA : ∀ q : Nat, s.heap.size ≤ q → A q := fun q h => by rw [← hAe]; exact Or.inr h
  have hS : va_S A s.heap s.heap [] := va_S.rf
  have hP : va_P D vwCl [] s.heap := hP
  have hl := lv_entry ([.ref (X 20), .null, .int a1]) (n := 5) (Nat.le_of_ble_eq_true rfl)
  rw [lg_entry_eq]
  generalize (lg_sl ([.ref (X 20), .null, .int a1]) ++ List.replicate (5 - (lg_sl ([.ref (X 20), .null, .int a1])).length) Slot.unset).toArray = ls at hl ⊢
  have hl : lv_has ls 5 [(0, .ref (X 20)), (1, .null), (2, .int a1)] := hl
  have END : ∀ (r : Int32), TT = r → (r = 0 ∨ r = 1) → ∀ (H : Heap) (locs : List Loc), va_P D vwCl [] H → va_D A [] → va_S A s.heap H locs → ∀ (ls : Array Slot) (pc : Nat), decode cX9_countsHold pc = .ok (.ireturn, 1) → W p l e (headSpec vs_k_X9_countsHold_z { frames := 0, cells := 0, slots := 0, locals := 0 }).room s m ([.ref (X 20), .null, .int a1] : List Value).toArray below meth c H locs 0 0 (MQ below (va_Qi (fun (r : Int32) (u : va_W) => (r = TT ∧ (TT = 0 ∨ TT = 1) ∧ (u = []))) (wq_B D A) A) ([.ref (X 20), .null, .int a1] : List Value).toArray s 0 0 A) (F0 m pc ls [.int r]) := by
    intro r hT hb01 H locs hP hD hS ls pc hd
    have hM : TT = r := hT
    exact W.zret (v := r) hx hb hr (wz_nar hb01) (fun t ht hW => ⟨⟨r, [], rfl, ⟨(by rw [hM]), (by rw [hM]; exact hb01), rfl⟩, wq_B.of ht hP hD⟩, hS.F ht⟩) hS.2.2 hd
  have hT := hTT
  rw [m_k_X9_countsHold_z] at hT
  refine lv_aload_nN hx hb dX9_countsHold_0 rfl (lv_at hl 1 rfl) ?_
  refine lv_ifnonnullN hx hb dX9_countsHold_1 ?_
  refine lv_iconst (v := 0) hx hb dX9_countsHold_4 (by decide) ?_
  exact END 0 hT (by decide) _ _ hP hD hS _ _ dX9_countsHold_5
theorem dX9_countsHeld_0 : decode cX9_countsHeld 0 = .ok (.ldc 248, 2) := by decide +kernel
theorem dX9_countsHeld_2 : decode cX9_countsHeld 2 = .ok (.istore_n 2, 1) := by decide +kernel
theorem dX9_countsHeld_3 : decode cX9_countsHeld 3 = .ok (.iconst 0, 1) := by decide +kernel
theorem dX9_countsHeld_4 : decode cX9_countsHeld 4 = .ok (.istore_n 3, 1) := by decide +kernel
theorem dX9_countsHeld_5 : decode cX9_countsHeld 5 = .ok (.aload_n 0, 1) := by decide +kernel
theorem dX9_countsHeld_6 : decode cX9_countsHeld 6 = .ok (.getfield 109, 3) := by decide +kernel
theorem dX9_countsHeld_9 : decode cX9_countsHeld 9 = .ok (.iload_n 3, 1) := by decide +kernel
theorem dX9_countsHeld_10 : decode cX9_countsHeld 10 = .ok (.ishr, 1) := by decide +kernel
theorem dX9_countsHeld_11 : decode cX9_countsHeld 11 = .ok (.ifCond .eq 50, 3) := by decide +kernel
theorem dX9_countsHeld_14 : decode cX9_countsHeld 14 = .ok (.iload_n 3, 1) := by decide +kernel
theorem dX9_countsHeld_15 : decode cX9_countsHeld 15 = .ok (.bipush 20, 2) := by decide +kernel
theorem dX9_countsHeld_17 : decode cX9_countsHeld 17 = .ok (.if_icmp .ge 44, 3) := by decide +kernel
theorem dX9_countsHeld_20 : decode cX9_countsHeld 20 = .ok (.aload_n 0, 1) := by decide +kernel
theorem dX9_countsHeld_21 : decode cX9_countsHeld 21 = .ok (.getfield 109, 3) := by decide +kernel
theorem dX9_countsHeld_24 : decode cX9_countsHeld 24 = .ok (.iload_n 3, 1) := by decide +kernel
theorem dX9_countsHeld_25 : decode cX9_countsHeld 25 = .ok (.ishr, 1) := by decide +kernel
theorem dX9_countsHeld_26 : decode cX9_countsHeld 26 = .ok (.iconst 1, 1) := by decide +kernel
theorem dX9_countsHeld_27 : decode cX9_countsHeld 27 = .ok (.iand, 1) := by decide +kernel
theorem dX9_countsHeld_28 : decode cX9_countsHeld 28 = .ok (.ifCond .eq 27, 3) := by decide +kernel
theorem dX9_countsHeld_31 : decode cX9_countsHeld 31 = .ok (.aload_n 0, 1) := by decide +kernel
theorem dX9_countsHeld_32 : decode cX9_countsHeld 32 = .ok (.aload_n 0, 1) := by decide +kernel
theorem dX9_countsHeld_33 : decode cX9_countsHeld 33 = .ok (.getfield 34, 3) := by decide +kernel
theorem dX9_countsHeld_36 : decode cX9_countsHeld 36 = .ok (.iload_n 3, 1) := by decide +kernel
theorem dX9_countsHeld_37 : decode cX9_countsHeld 37 = .ok (.invokevirtual 115, 3) := by decide +kernel
theorem dX9_countsHeld_40 : decode cX9_countsHeld 40 = .ok (.iload_n 1, 1) := by decide +kernel
theorem dX9_countsHeld_41 : decode cX9_countsHeld 41 = .ok (.invokevirtual 249, 3) := by decide +kernel
theorem dX9_countsHeld_44 : decode cX9_countsHeld 44 = .ok (.ifCond .ne 11, 3) := by decide +kernel
theorem dX9_countsHeld_47 : decode cX9_countsHeld 47 = .ok (.iload_n 2, 1) := by decide +kernel
theorem dX9_countsHeld_48 : decode cX9_countsHeld 48 = .ok (.iconst 1, 1) := by decide +kernel
theorem dX9_countsHeld_49 : decode cX9_countsHeld 49 = .ok (.iload_n 3, 1) := by decide +kernel
theorem dX9_countsHeld_50 : decode cX9_countsHeld 50 = .ok (.ishl, 1) := by decide +kernel
theorem dX9_countsHeld_51 : decode cX9_countsHeld 51 = .ok (.iconst (-1), 1) := by decide +kernel
theorem dX9_countsHeld_52 : decode cX9_countsHeld 52 = .ok (.ixor, 1) := by decide +kernel
theorem dX9_countsHeld_53 : decode cX9_countsHeld 53 = .ok (.iand, 1) := by decide +kernel
theorem dX9_countsHeld_54 : decode cX9_countsHeld 54 = .ok (.istore_n 2, 1) := by decide +kernel
theorem dX9_countsHeld_55 : decode cX9_countsHeld 55 = .ok (.iinc 3 1, 3) := by decide +kernel
theorem dX9_countsHeld_58 : decode cX9_countsHeld 58 = .ok (.goto (-53), 3) := by decide +kernel
theorem dX9_countsHeld_61 : decode cX9_countsHeld 61 = .ok (.iload_n 2, 1) := by decide +kernel
theorem dX9_countsHeld_62 : decode cX9_countsHeld 62 = .ok (.ireturn, 1) := by decide +kernel
def wW_k_X9_countsHeld (ty : Nat → ClassId) (X : Nat → Nat) (z9_0 : Int32) (z9_1 : Int32) (z9_2 : Int32) (z9_3 : Int32) (z9_4 : Nat → Option Nat) (z9_5 : Int32) (z9_6 : Int32) (z9_7 : Int32) (z9_8 : Int32) (z9_9 : Int32) (z9_10 : Int32) (z9_11 : Int32) (z9_12 : Int32) (z9_13 : Int32) (z9_14 : Nat → Int32) (z9_15 : Nat → Int32) : va_W := [((X 1), .inr (8, [.ref (X 2), .int z9_0, .ref (X 3), .int z9_1, .ref (X 4), .ref (X 5), .int z9_2, .ref (X 6), .ref (X 7), .int z9_3])), ((X 3), .inl (ty 4, 20, .inr (.inr (.inr (.inr z9_4))))), ((X 20), .inr (11, [.ref (X 1), .ref (X 8), .ref (X 21), .ref (X 28), .ref (X 35), .int z9_5, .ref (X 36), .ref (X 37), .ref (X 38), .int z9_6, .int z9_7, .int z9_8, .int z9_9, .int z9_10, .int z9_11, .int z9_12, .int z9_13])), ((X 36), .inl (ty 0, 6, .inl z9_14)), ((X 37), .inl (ty 0, 6, .inl z9_15))]
def vs_k_X9_countsHeld : List Cond := .code yX9_countsHeld cX9_countsHeld 4 (some .int) :: ([.constant RX9 248 1048575, .fieldLink RX9 109 "AnswerFold$Solver" "counting" "I", .fieldLink RX9 34 "AnswerFold$Solver" "program" "LAnswerFold$Program;", .methodLink RX9 115 yX6_ruleAt, .instanceMethod yX6_ruleAt, .selects RX6 yX6_ruleAt yX6_ruleAt, .initialized RX6, .methodLink RX9 249 yX9_countsHold, .instanceMethod yX9_countsHold, .selects RX9 yX9_countsHold yX9_countsHold, .initialized RX9] ++ (u_ws RX9 TX9 17 ++ (vs_k_X6_ruleAt ++ (vs_k_X9_countsHold_z ++ (vs_k_X9_countsHold)))))
theorem iv_k_X9_countsHeld_X9 : ∀ w ∈ u_ws RX9 TX9 17, w ∈ vs_k_X9_countsHeld := (fun _ h => List.mem_cons_of_mem _ (List.mem_append_right _ (List.mem_append_left _ h)))
set_option maxRecDepth 20000 in
theorem gv_k_X9_countsHeld_0 : GoodIn vs_k_X9_countsHeld (wsV RX9 115 RX6 yX6_ruleAt vs_k_X6_ruleAt) := goodIn_app (goodIn_sub (by decide +kernel) (by decide +kernel)) (goodIn_sub (fun _ h => List.mem_cons_of_mem _ (List.mem_append_right _ (List.mem_append_right _ (List.mem_append_left _ h)))) (by decide +kernel))
set_option maxRecDepth 20000 in
theorem gv_k_X9_countsHeld_1 : GoodIn vs_k_X9_countsHeld (wsV RX9 249 RX9 yX9_countsHold vs_k_X9_countsHold_z) := goodIn_app (goodIn_sub (by decide +kernel) (by decide +kernel)) (goodIn_sub (fun _ h => List.mem_cons_of_mem _ (List.mem_append_right _ (List.mem_append_right _ (List.mem_append_right _ (List.mem_append_left _ h))))) (by decide +kernel))
set_option maxRecDepth 20000 in
theorem gv_k_X9_countsHeld_2 : GoodIn vs_k_X9_countsHeld (wsV RX9 249 RX9 yX9_countsHold vs_k_X9_countsHold) := goodIn_app (goodIn_sub (by decide +kernel) (by decide +kernel)) (goodIn_sub (fun _ h => List.mem_cons_of_mem _ (List.mem_append_right _ (List.mem_append_right _ (List.mem_append_right _ (List.mem_append_right _ (h)))))) (by decide +kernel))
set_option maxHeartbeats 4000000 in
set_option maxRecDepth 100000 in
theorem k_X9_countsHeld (l : Launch) (D : va_G) (ty : Nat → ClassId) (td mi sz : Nat) (pp : pT) (X : Nat → Nat) (pn : Int32) (rn : Int32) (tn : Int32) (en : Int32) (rf : Nat → Option Nat) (an : Int32) (ch : Int32) (cg : Int32) (fb : Int32) (mh : Int32) (ml : Int32) (ih : Int32) (lb : Int32) (ic : Int32) (obi : Nat → Int32) (sc : Nat → Int32) (a1 : Int32) (hok : pOK pp) (hru : ∀ (i a : Nat), rf i = some a → a ∈ pRA pp) (TT : r_k_X9_countsHeld) (hTT : TT = m_k_X9_countsHeld pp rn rf cg obi sc a1) : Met l yX9_countsHeld vs_k_X9_countsHeld { frames := 3, cells := 0, slots := 0, locals := 68 } (va_Pc [.ref (X 20), .int a1] (wq_P D ty td mi ((wW_k_X9_countsHeld ty X pn rn tn en rf an ch cg fb mh ml ih lb ic obi sc) ++ pw ty pp) sz)) (va_Qi (fun (r : Int32) (u : va_W) => (r = TT ∧ (u = ((wW_k_X9_countsHeld ty X pn rn tn en rf an ch cg fb mh ml ih lb ic obi sc) ++ pw ty pp)))) (wq_B D (va_A ((wW_k_X9_countsHeld ty X pn rn tn en rf an ch cg fb mh ml ih lb ic obi sc) ++ pw ty pp) sz)) (va_A ((wW_k_X9_countsHeld ty X pn rn tn en rf an ch cg fb mh ml ih lb ic obi sc) ++ pw ty pp) sz)) 0 0 (va_A ((wW_k_X9_countsHeld ty X pn rn tn en rf an ch cg fb mh ml ih lb ic obi sc) ++ pw ty pp) sz) := by
  refine Met.ofW (cc := cX9_countsHeld) (maxL := 4) (ret := (some .int)) (by decide) rfl ?_
  intro p e s m args below meth c s₁ B hml hv
  obtain ⟨rfl, hsz, hP, hK, hD0, hE⟩ := hv
  have hx := B.exec
  have hb := B.bytes
  have hr := B.returns
  have hts := atoms_spec (ws := vs_k_X9_countsHeld) B.pre
  have hown : s.vm.findClass RX9 = some m.cls := findClass_of_methodNamed B.named
  have hlocks := B.notSynchronized
  subst hsz
  have hD := hD0.self (sz := s.heap.size)
  generalize hAe : va_A ((wW_k_X9_countsHeld ty X pn rn tn en rf an ch cg fb mh ml ih lb ic obi sc) ++ pw ty pp) s.heap.size = A at hD hE ⊢
  have hA : ∀ q : Nat, s.heap.size ≤ q → A q := fun q h => by rw [← hAe]; exact Or.inr h
  have hS : va_S A s.heap s.heap [] := va_S.rf
  have hP : va_P D vwCl ((wW_k_X9_countsHeld ty X pn rn tn en rf an ch cg fb mh ml ih lb ic obi sc) ++ pw ty pp) s.heap := hP
  have hl := lv_entry ([.ref (X 20), .int a1]) (n := 4) (Nat.le_of_ble_eq_true rfl)
  rw [lg_entry_eq]
  generalize (lg_sl ([.ref (X 20), .int a1]) ++ List.replicate (4 - (lg_sl ([.ref (X 20), .int a1])).length) Slot.unset).toArray = ls at hl ⊢
  have hl : lv_has ls 4 [(0, .ref (X 20)), (1, .int a1)] := hl
  have END : ∀ (r : Int32), TT = r → ∀ (H : Heap) (locs : List Loc), va_P D vwCl ((wW_k_X9_countsHeld ty X pn rn tn en rf an ch cg fb mh ml ih lb ic obi sc) ++ pw ty pp) H → va_D A ((wW_k_X9_countsHeld ty X pn rn tn en rf an ch cg fb mh ml ih lb ic obi sc) ++ pw ty pp) → va_S A s.heap H locs → ∀ (ls : Array Slot) (pc : Nat), decode cX9_countsHeld pc = .ok (.ireturn, 1) → W p l e (headSpec vs_k_X9_countsHeld { frames := 3, cells := 0, slots := 0, locals := 68 }).room s m ([.ref (X 20), .int a1] : List Value).toArray below meth c H locs 0 0 (MQ below (va_Qi (fun (r : Int32) (u : va_W) => (r = TT ∧ (u = ((wW_k_X9_countsHeld ty X pn rn tn en rf an ch cg fb mh ml ih lb ic obi sc) ++ pw ty pp)))) (wq_B D A) A) ([.ref (X 20), .int a1] : List Value).toArray s 0 0 A) (F0 m pc ls [.int r]) := by
    intro r hT H locs hP hD hS ls pc hd
    have hM : TT = r := hT
    exact W.iret (v := r) hx hb hr (fun t ht hW => ⟨⟨r, ((wW_k_X9_countsHeld ty X pn rn tn en rf an ch cg fb mh ml ih lb ic obi sc) ++ pw ty pp), rfl, ⟨(by rw [hM]), rfl⟩, wq_B.of ht hP hD⟩, hS.F ht⟩) hS.2.2 hd
  have hT := hTT
  rw [m_k_X9_countsHeld] at hT
  refine lv_ldc (v := 1048575) hx hb hown (hts (.constant RX9 248 1048575) (by decide +kernel)) dX9_countsHeld_0 ?_
  refine lv_istore_n (lv' := [(2, .int 1048575), (0, .ref (X 20)), (1, .int a1)]) hx hb dX9_countsHeld_2 rfl hl (by decide) rfl (fun ls hl => ?_)
  refine lv_iconst (v := 0) hx hb dX9_countsHeld_3 (by decide) ?_
  refine lv_istore_n (lv' := [(3, .int 0), (2, .int 1048575), (0, .ref (X 20)), (1, .int a1)]) hx hb dX9_countsHeld_4 rfl hl (by decide) rfl (fun ls hl => ?_)
  have L_5 : ∀ (n_5 : Nat) (v2_5 : Int32) (v3_5 : Int32), (2147483648 - v3_5.toInt).toNat < n_5 → TT = m_k_X9_countsHeld_5 pp rn rf cg obi sc a1 n_5 v2_5 v3_5 → 0 ≤ v3_5.toInt → ∀ (H : Heap) (locs : List Loc), va_P D vwCl ((wW_k_X9_countsHeld ty X pn rn tn en rf an ch cg fb mh ml ih lb ic obi sc) ++ pw ty pp) H → va_D A ((wW_k_X9_countsHeld ty X pn rn tn en rf an ch cg fb mh ml ih lb ic obi sc) ++ pw ty pp) → va_S A s.heap H locs → ∀ ls : Array Slot, lv_has ls 4 [(0, .ref (X 20)), (1, .int a1), (2, .int v2_5), (3, .int v3_5)] → W p l e (headSpec vs_k_X9_countsHeld { frames := 3, cells := 0, slots := 0, locals := 68 }).room s m ([.ref (X 20), .int a1] : List Value).toArray below meth c H locs 0 0 (MQ below (va_Qi (fun (r : Int32) (u : va_W) => (r = TT ∧ (u = ((wW_k_X9_countsHeld ty X pn rn tn en rf an ch cg fb mh ml ih lb ic obi sc) ++ pw ty pp)))) (wq_B D A) A) ([.ref (X 20), .int a1] : List Value).toArray s 0 0 A) (F0 m 5 ls []) := by
    intro n_5
    induction n_5 with
    | zero => intro v2_5 v3_5 hu; exact absurd hu (Nat.not_lt_zero _)
    | succ n_5 ih_5 =>
      intro v2_5 v3_5 hu_5 hT hn_5 H locs hP hD hS ls hl
      rw [m_k_X9_countsHeld_5_succ, m_k_X9_countsHeld_5s] at hT
      refine lv_aload_n hx hb dX9_countsHeld_5 rfl (lv_at hl 0 rfl) ?_
      refine va_get (D := D) (ci := 11) (v := .int cg) (C := RX9) (T := TX9) (N := 17) hx hb hts iv_k_X9_countsHeld_X9 hown hK hP 2 rfl rfl 10 (by decide) (hts (.fieldLink RX9 109 "AnswerFold$Solver" "counting" "I") (by decide +kernel)) (fun _ h9 => h9) rfl dX9_countsHeld_6 ?_
      refine lv_iload_n hx hb dX9_countsHeld_9 rfl (lv_at hl 3 rfl) ?_
      refine lv_ishr hx hb dX9_countsHeld_10 ?_
      refine lv_if_eq (tgt := 61) hx hb dX9_countsHeld_11 (by decide) (fun c_1 => ?_) (fun c_1 => ?_)
      · rw [if_pos c_1] at hT
        refine lv_iload_n hx hb dX9_countsHeld_61 rfl (lv_at hl 2 rfl) ?_
        exact END v2_5 hT _ _ hP hD hS _ _ dX9_countsHeld_62
      · rw [if_neg c_1] at hT
        refine lv_iload_n hx hb dX9_countsHeld_14 rfl (lv_at hl 3 rfl) ?_
        refine lv_bipush (v := 20) hx hb dX9_countsHeld_15 (by decide) ?_
        refine lv_icmp_ge (tgt := 61) hx hb dX9_countsHeld_17 (by decide) (fun c_2 => ?_) (fun c_2 => ?_)
        · rw [if_pos c_2] at hT
          refine lv_iload_n hx hb dX9_countsHeld_61 rfl (lv_at hl 2 rfl) ?_
          exact END v2_5 hT _ _ hP hD hS _ _ dX9_countsHeld_62
        · rw [if_neg c_2] at hT
          refine lv_aload_n hx hb dX9_countsHeld_20 rfl (lv_at hl 0 rfl) ?_
          refine va_get (D := D) (ci := 11) (v := .int cg) (C := RX9) (T := TX9) (N := 17) hx hb hts iv_k_X9_countsHeld_X9 hown hK hP 2 rfl rfl 10 (by decide) (hts (.fieldLink RX9 109 "AnswerFold$Solver" "counting" "I") (by decide +kernel)) (fun _ h9 => h9) rfl dX9_countsHeld_21 ?_
          refine lv_iload_n hx hb dX9_countsHeld_24 rfl (lv_at hl 3 rfl) ?_
          refine lv_ishr hx hb dX9_countsHeld_25 ?_
          refine lv_iconst (v := 1) hx hb dX9_countsHeld_26 (by decide) ?_
          refine lv_iand hx hb dX9_countsHeld_27 ?_
          have J_55 : ∀ (v2_55 : Int32), TT = m_k_X9_countsHeld_55 (m_k_X9_countsHeld_5 pp rn rf cg obi sc a1 n_5) v3_5 v2_55 → ∀ (H : Heap) (locs : List Loc), va_P D vwCl ((wW_k_X9_countsHeld ty X pn rn tn en rf an ch cg fb mh ml ih lb ic obi sc) ++ pw ty pp) H → va_D A ((wW_k_X9_countsHeld ty X pn rn tn en rf an ch cg fb mh ml ih lb ic obi sc) ++ pw ty pp) → va_S A s.heap H locs → ∀ ls : Array Slot, lv_has ls 4 [(0, .ref (X 20)), (1, .int a1), (2, .int v2_55), (3, .int v3_5)] → W p l e (headSpec vs_k_X9_countsHeld { frames := 3, cells := 0, slots := 0, locals := 68 }).room s m ([.ref (X 20), .int a1] : List Value).toArray below meth c H locs 0 0 (MQ below (va_Qi (fun (r : Int32) (u : va_W) => (r = TT ∧ (u = ((wW_k_X9_countsHeld ty X pn rn tn en rf an ch cg fb mh ml ih lb ic obi sc) ++ pw ty pp)))) (wq_B D A) A) ([.ref (X 20), .int a1] : List Value).toArray s 0 0 A) (F0 m 55 ls []) := by
            intro v2_55 hT  H locs hP hD hS ls hl
            rw [m_k_X9_countsHeld_55] at hT
            refine lv_iinc (v := v3_5 + 1) (lv' := [(3, .int (v3_5 + 1)), (0, .ref (X 20)), (1, .int a1), (2, .int v2_55)]) hx hb dX9_countsHeld_55 hl (k := 3) rfl (by rfl) (by decide) rfl (fun ls hl => ?_)
            refine lv_goto (tgt := 5) hx hb dX9_countsHeld_58 (by decide) ?_
            exact ih_5 v2_55 (v3_5 + 1) (wi_up hu_5 (Int32.not_le.mp c_2)) hT (wi_inc hn_5 (Int32.not_le.mp c_2)) _ _ hP hD hS _ (lv_sub hl [1, 2, 3, 0] rfl)
          refine lv_if_eq (tgt := 55) hx hb dX9_countsHeld_28 (by decide) (fun c_3 => ?_) (fun c_3 => ?_)
          · rw [if_pos c_3] at hT
            exact J_55 v2_5 hT _ _ hP hD hS _ (lv_sub hl [0, 1, 2, 3] rfl)
          · rw [if_neg c_3] at hT
            refine lv_aload_n hx hb dX9_countsHeld_31 rfl (lv_at hl 0 rfl) ?_
            refine lv_aload_n hx hb dX9_countsHeld_32 rfl (lv_at hl 0 rfl) ?_
            refine va_get (D := D) (ci := 11) (v := .ref (X 1)) (C := RX9) (T := TX9) (N := 17) hx hb hts iv_k_X9_countsHeld_X9 hown hK hP 2 rfl rfl 0 (by decide) (hts (.fieldLink RX9 34 "AnswerFold$Solver" "program" "LAnswerFold$Program;") (by decide +kernel)) (fun _ h9 => h9) rfl dX9_countsHeld_33 ?_
            refine lv_iload_n hx hb dX9_countsHeld_36 rfl (lv_at hl 3 rfl) ?_
            obtain ⟨t_37, ht_37⟩ : ∃ t, t = m_k_X6_ruleAt rn rf v3_5 := ⟨_, rfl⟩
            rw [lE_eq ht_37] at hT
            refine wq_rPW (wc := (wW_k_X6_ruleAt ty X pn rn tn en rf)) (pl := pw ty pp) (ux := (wW_k_X6_ruleAt ty X pn rn tn en rf)) (va_runV (As := [.int v3_5]) (rest := [.ref (X 20)]) ⟨hx, hb, hml, hown, hts⟩ (k_X6_ruleAt l D ty td mi H.size pp X pn rn tn en rf v3_5 hok hru t_37 ht_37) (cwV 1 hts gv_k_X9_countsHeld_0 rfl rfl rfl (by decide +kernel) ⟨(Nat.le_of_ble_eq_true rfl), (Nat.le_of_ble_eq_true rfl)⟩) (wm_V (wm_preSP hP hD hK hE hS hA [true, true] rfl) (va_recv (q0 := 0) (ci := 8) hK hP rfl rfl)) rfl rfl hl.1 rfl (lv_room (Nat.le_of_ble_eq_true rfl)) dX9_countsHeld_37 ⟨(Nat.le_of_ble_eq_true rfl), (Nat.le_of_ble_eq_true rfl)⟩) hS hA hP hD [true, true] rfl rfl (fun _ _ h => h.2) (fun r H locs hw hP hD hS => ?_)
            obtain ⟨rfl, -⟩ := hw
            have hP : va_P D vwCl ((wW_k_X9_countsHeld ty X pn rn tn en rf an ch cg fb mh ml ih lb ic obi sc) ++ pw ty pp) H := hP
            have hD : va_D A ((wW_k_X9_countsHeld ty X pn rn tn en rf an ch cg fb mh ml ih lb ic obi sc) ++ pw ty pp) := hD
            refine W.widen (k := 0) (n := 0) (Nat.le_of_ble_eq_true rfl) (Nat.le_of_ble_eq_true rfl) ?_
            rcases ho_37 : t_37 with _ | o_37
            · rw [ho_37, oE_none] at hT
              refine W.eq (g2 := F0 m 40 ls [.null, .ref (X 20)]) rfl ?_
              refine lv_iload_n hx hb dX9_countsHeld_40 rfl (lv_at hl 1 rfl) ?_
              obtain ⟨t_41, ht_41⟩ : ∃ t, t = m_k_X9_countsHold_z := ⟨_, rfl⟩
              rw [lE_eq ht_41] at hT
              refine wq_iQW (wc := []) (pl := pw ty pp) (va_runV (As := [.null, .int a1]) (rest := []) ⟨hx, hb, hml, hown, hts⟩ (k_X9_countsHold_z l D ty td mi H.size X a1 t_41 ht_41) (cwV 2 hts gv_k_X9_countsHeld_1 rfl rfl rfl (by decide +kernel) ⟨(Nat.le_of_ble_eq_true rfl), (Nat.le_of_ble_eq_true rfl)⟩) (wm_V (wm_preS (vP_left hP) (vD_left hD) hK hE hS hA [] rfl) (va_recv (q0 := 2) (ci := 11) hK hP rfl rfl)) rfl rfl hl.1 rfl (lv_room (Nat.le_of_ble_eq_true rfl)) dX9_countsHeld_41 ⟨(Nat.le_of_ble_eq_true rfl), (Nat.le_of_ble_eq_true rfl)⟩) hS hA hP hD [] rfl (fun _ _ h => by rcases h with ⟨-, -, rfl⟩; rfl) (fun r u H locs hw hP hD hS => ?_)
              obtain ⟨hr0, c_8, rfl⟩ := hw
              subst r
              have hP : va_P D vwCl ((wW_k_X9_countsHeld ty X pn rn tn en rf an ch cg fb mh ml ih lb ic obi sc) ++ pw ty pp) H := hP
              have hD : va_D A ((wW_k_X9_countsHeld ty X pn rn tn en rf an ch cg fb mh ml ih lb ic obi sc) ++ pw ty pp) := hD
              refine W.widen (k := 0) (n := 0) (Nat.le_of_ble_eq_true rfl) (Nat.le_of_ble_eq_true rfl) ?_
              refine lv_if_ne (tgt := 55) hx hb dX9_countsHeld_44 (by decide) (fun c_9 => ?_) (fun c_9 => ?_)
              · rw [if_neg c_9] at hT
                exact J_55 v2_5 hT _ _ hP hD hS _ (lv_sub hl [0, 1, 2, 3] rfl)
              · rw [if_pos c_9] at hT
                refine lv_iload_n hx hb dX9_countsHeld_47 rfl (lv_at hl 2 rfl) ?_
                refine lv_iconst (v := 1) hx hb dX9_countsHeld_48 (by decide) ?_
                refine lv_iload_n hx hb dX9_countsHeld_49 rfl (lv_at hl 3 rfl) ?_
                refine lv_ishl hx hb dX9_countsHeld_50 ?_
                refine lv_iconst (v := (-1)) hx hb dX9_countsHeld_51 (by decide) ?_
                refine lv_ixor hx hb dX9_countsHeld_52 ?_
                refine lv_iand hx hb dX9_countsHeld_53 ?_
                refine lv_istore_n (lv' := [(2, .int (v2_5 &&& (((1 : Int32) <<< (v3_5 &&& 31)) ^^^ (-1)))), (0, .ref (X 20)), (1, .int a1), (3, .int v3_5)]) hx hb dX9_countsHeld_54 rfl hl (by decide) rfl (fun ls hl => ?_)
                exact J_55 (v2_5 &&& (((1 : Int32) <<< (v3_5 &&& 31)) ^^^ (-1))) hT _ _ hP hD hS _ (lv_sub hl [1, 2, 0, 3] rfl)
            · rw [ho_37, oE_some] at hT
              refine W.eq (g2 := F0 m 40 ls [.ref o_37, .ref (X 20)]) rfl ?_
              refine lv_iload_n hx hb dX9_countsHeld_40 rfl (lv_at hl 1 rfl) ?_
              obtain ⟨t_41, ht_41⟩ : ∃ t, t = m_k_X9_countsHold pp obi sc o_37 a1 := ⟨_, rfl⟩
              rw [lE_eq ht_41] at hT
              refine wq_iPW (wc := (wW_k_X9_countsHold ty X an ch cg fb mh ml ih lb ic obi sc)) (pl := pw ty pp) (ux := (wW_k_X9_countsHold ty X an ch cg fb mh ml ih lb ic obi sc)) (va_runV (As := [.ref o_37, .int a1]) (rest := []) ⟨hx, hb, hml, hown, hts⟩ (k_X9_countsHold l D ty td mi H.size pp X an ch cg fb mh ml ih lb ic obi sc o_37 a1 hok (mm_k_X6_ruleAt pp rn rf v3_5 hok hru _ (by rw [← ht_37]; exact ho_37)) t_41 ht_41) (cwV 2 hts gv_k_X9_countsHeld_2 rfl rfl rfl (by decide +kernel) ⟨(Nat.le_of_ble_eq_true rfl), (Nat.le_of_ble_eq_true rfl)⟩) (wm_V (wm_preSP hP hD hK hE hS hA [false, false, true, true, true] rfl) (va_recv (q0 := 2) (ci := 11) hK hP rfl rfl)) rfl rfl hl.1 rfl (lv_room (Nat.le_of_ble_eq_true rfl)) dX9_countsHeld_41 ⟨(Nat.le_of_ble_eq_true rfl), (Nat.le_of_ble_eq_true rfl)⟩) hS hA hP hD [false, false, true, true, true] rfl rfl (fun _ _ h => h.2.2) (fun r H locs hw hP hD hS => ?_)
              obtain ⟨hr0, c_12, -⟩ := hw
              subst r
              have hP : va_P D vwCl ((wW_k_X9_countsHeld ty X pn rn tn en rf an ch cg fb mh ml ih lb ic obi sc) ++ pw ty pp) H := hP
              have hD : va_D A ((wW_k_X9_countsHeld ty X pn rn tn en rf an ch cg fb mh ml ih lb ic obi sc) ++ pw ty pp) := hD
              refine W.widen (k := 0) (n := 0) (Nat.le_of_ble_eq_true rfl) (Nat.le_of_ble_eq_true rfl) ?_
              refine lv_if_ne (tgt := 55) hx hb dX9_countsHeld_44 (by decide) (fun c_13 => ?_) (fun c_13 => ?_)
              · rw [if_neg c_13] at hT
                exact J_55 v2_5 hT _ _ hP hD hS _ (lv_sub hl [0, 1, 2, 3] rfl)
              · rw [if_pos c_13] at hT
                refine lv_iload_n hx hb dX9_countsHeld_47 rfl (lv_at hl 2 rfl) ?_
                refine lv_iconst (v := 1) hx hb dX9_countsHeld_48 (by decide) ?_
                refine lv_iload_n hx hb dX9_countsHeld_49 rfl (lv_at hl 3 rfl) ?_
                refine lv_ishl hx hb dX9_countsHeld_50 ?_
                refine lv_iconst (v := (-1)) hx hb dX9_countsHeld_51 (by decide) ?_
                refine lv_ixor hx hb dX9_countsHeld_52 ?_
                refine lv_iand hx hb dX9_countsHeld_53 ?_
                refine lv_istore_n (lv' := [(2, .int (v2_5 &&& (((1 : Int32) <<< (v3_5 &&& 31)) ^^^ (-1)))), (0, .ref (X 20)), (1, .int a1), (3, .int v3_5)]) hx hb dX9_countsHeld_54 rfl hl (by decide) rfl (fun ls hl => ?_)
                exact J_55 (v2_5 &&& (((1 : Int32) <<< (v3_5 &&& 31)) ^^^ (-1))) hT _ _ hP hD hS _ (lv_sub hl [1, 2, 0, 3] rfl)
  exact L_5 wF 1048575 0 (wF_up 0) hT (by decide) _ _ hP hD hS _ (lv_sub hl [2, 3, 1, 0] rfl)
theorem dX9_isModel_0 : decode cX9_isModel 0 = .ok (.aload_n 0, 1) := by decide +kernel
theorem dX9_isModel_1 : decode cX9_isModel 1 = .ok (.iload_n 1, 1) := by decide +kernel
theorem dX9_isModel_2 : decode cX9_isModel 2 = .ok (.invokevirtual 241, 3) := by decide +kernel
theorem dX9_isModel_5 : decode cX9_isModel 5 = .ok (.istore_n 2, 1) := by decide +kernel
theorem dX9_isModel_6 : decode cX9_isModel 6 = .ok (.aload_n 0, 1) := by decide +kernel
theorem dX9_isModel_7 : decode cX9_isModel 7 = .ok (.getfield 103, 3) := by decide +kernel
theorem dX9_isModel_10 : decode cX9_isModel 10 = .ok (.aload_n 0, 1) := by decide +kernel
theorem dX9_isModel_11 : decode cX9_isModel 11 = .ok (.getfield 12, 3) := by decide +kernel
theorem dX9_isModel_14 : decode cX9_isModel 14 = .ok (.getfield 93, 3) := by decide +kernel
theorem dX9_isModel_17 : decode cX9_isModel 17 = .ok (.if_icmp .ge 21, 3) := by decide +kernel
theorem dX9_isModel_20 : decode cX9_isModel 20 = .ok (.aload_n 0, 1) := by decide +kernel
theorem dX9_isModel_21 : decode cX9_isModel 21 = .ok (.getfield 12, 3) := by decide +kernel
theorem dX9_isModel_24 : decode cX9_isModel 24 = .ok (.aload_n 0, 1) := by decide +kernel
theorem dX9_isModel_25 : decode cX9_isModel 25 = .ok (.getfield 103, 3) := by decide +kernel
theorem dX9_isModel_28 : decode cX9_isModel 28 = .ok (.iload_n 1, 1) := by decide +kernel
theorem dX9_isModel_29 : decode cX9_isModel 29 = .ok (.iload_n 2, 1) := by decide +kernel
theorem dX9_isModel_30 : decode cX9_isModel 30 = .ok (.invokevirtual 244, 3) := by decide +kernel
theorem dX9_isModel_33 : decode cX9_isModel 33 = .ok (.ifCond .eq 5, 3) := by decide +kernel
theorem dX9_isModel_36 : decode cX9_isModel 36 = .ok (.iconst 0, 1) := by decide +kernel
theorem dX9_isModel_37 : decode cX9_isModel 37 = .ok (.ireturn, 1) := by decide +kernel
theorem dX9_isModel_38 : decode cX9_isModel 38 = .ok (.iconst 0, 1) := by decide +kernel
theorem dX9_isModel_39 : decode cX9_isModel 39 = .ok (.istore_n 3, 1) := by decide +kernel
theorem dX9_isModel_40 : decode cX9_isModel 40 = .ok (.iload_n 3, 1) := by decide +kernel
theorem dX9_isModel_41 : decode cX9_isModel 41 = .ok (.aload_n 0, 1) := by decide +kernel
theorem dX9_isModel_42 : decode cX9_isModel 42 = .ok (.getfield 12, 3) := by decide +kernel
theorem dX9_isModel_45 : decode cX9_isModel 45 = .ok (.getfield 93, 3) := by decide +kernel
theorem dX9_isModel_48 : decode cX9_isModel 48 = .ok (.if_icmp .ge 29, 3) := by decide +kernel
theorem dX9_isModel_51 : decode cX9_isModel 51 = .ok (.aload_n 0, 1) := by decide +kernel
theorem dX9_isModel_52 : decode cX9_isModel 52 = .ok (.getfield 12, 3) := by decide +kernel
theorem dX9_isModel_55 : decode cX9_isModel 55 = .ok (.iload_n 3, 1) := by decide +kernel
theorem dX9_isModel_56 : decode cX9_isModel 56 = .ok (.iload_n 1, 1) := by decide +kernel
theorem dX9_isModel_57 : decode cX9_isModel 57 = .ok (.iload_n 2, 1) := by decide +kernel
theorem dX9_isModel_58 : decode cX9_isModel 58 = .ok (.invokevirtual 244, 3) := by decide +kernel
theorem dX9_isModel_61 : decode cX9_isModel 61 = .ok (.ifCond .eq 10, 3) := by decide +kernel
theorem dX9_isModel_64 : decode cX9_isModel 64 = .ok (.aload_n 0, 1) := by decide +kernel
theorem dX9_isModel_65 : decode cX9_isModel 65 = .ok (.iload_n 3, 1) := by decide +kernel
theorem dX9_isModel_66 : decode cX9_isModel 66 = .ok (.putfield 103, 3) := by decide +kernel
theorem dX9_isModel_69 : decode cX9_isModel 69 = .ok (.iconst 0, 1) := by decide +kernel
theorem dX9_isModel_70 : decode cX9_isModel 70 = .ok (.ireturn, 1) := by decide +kernel
theorem dX9_isModel_71 : decode cX9_isModel 71 = .ok (.iinc 3 1, 3) := by decide +kernel
theorem dX9_isModel_74 : decode cX9_isModel 74 = .ok (.goto (-34), 3) := by decide +kernel
theorem dX9_isModel_77 : decode cX9_isModel 77 = .ok (.iconst 1, 1) := by decide +kernel
theorem dX9_isModel_78 : decode cX9_isModel 78 = .ok (.ireturn, 1) := by decide +kernel
def wW_k_X9_isModel (ty : Nat → ClassId) (X : Nat → Nat) (z9_0 : Int32) (z9_1 : Int32) (z9_2 : Int32) (z9_3 : Int32) (z9_4 : Nat → Option Nat) (z9_5 : Int32) (z9_6 : Int32) (z9_7 : Int32) (z9_8 : Int32) (z9_9 : Int32) (z9_10 : Int32) (z9_11 : Int32) (z9_12 : Int32) (z9_13 : Int32) (z9_14 : Int32) (z9_15 : Nat → Int32) (z9_16 : Nat → Int32) (z9_17 : Nat → Int32) (z9_18 : Nat → Int32) (z9_19 : Nat → Int32) (z9_20 : Nat → Int32) (z9_21 : Nat → Int32) (z9_22 : Nat → Int32) : va_W := [((X 1), .inr (8, [.ref (X 2), .int z9_0, .ref (X 3), .int z9_1, .ref (X 4), .ref (X 5), .int z9_2, .ref (X 6), .ref (X 7), .int z9_3])), ((X 3), .inl (ty 4, 20, .inr (.inr (.inr (.inr z9_4))))), ((X 20), .inr (11, [.ref (X 1), .ref (X 8), .ref (X 21), .ref (X 28), .ref (X 35), .int z9_5, .ref (X 36), .ref (X 37), .ref (X 38), .int z9_6, .int z9_7, .int z9_8, .int z9_9, .int z9_10, .int z9_11, .int z9_12, .int z9_13])), ((X 21), .inr (9, [.ref (X 22), .ref (X 23), .ref (X 24), .ref (X 25), .ref (X 26), .ref (X 27), .int z9_14])), ((X 22), .inl (ty 0, 300, .inl z9_15)), ((X 23), .inl (ty 0, 300, .inl z9_16)), ((X 24), .inl (ty 0, 300, .inl z9_17)), ((X 25), .inl (ty 0, 300, .inl z9_18)), ((X 26), .inl (ty 0, 300, .inl z9_19)), ((X 27), .inl (ty 0, 300, .inl z9_20)), ((X 36), .inl (ty 0, 6, .inl z9_21)), ((X 37), .inl (ty 0, 6, .inl z9_22))]
def vs_k_X9_isModel : List Cond := .code yX9_isModel cX9_isModel 4 (some .boolean) :: ([.methodLink RX9 241 yX9_countsHeld, .instanceMethod yX9_countsHeld, .selects RX9 yX9_countsHeld yX9_countsHeld, .initialized RX9, .fieldLink RX9 103 "AnswerFold$Solver" "lastBroken" "I", .fieldLink RX9 12 "AnswerFold$Solver" "checks" "LAnswerFold$Rows;", .methodLink RX9 244 yX7_isBroken, .instanceMethod yX7_isBroken, .selects RX7 yX7_isBroken yX7_isBroken, .initialized RX7] ++ (vs_k_X9_countsHeld ++ (u_ws RX9 TX9 17 ++ (u_ws RX7 TX7 7 ++ (vs_k_X7_isBroken)))))
theorem iv_k_X9_isModel_X7 : ∀ w ∈ u_ws RX7 TX7 7, w ∈ vs_k_X9_isModel := (fun _ h => List.mem_cons_of_mem _ (List.mem_append_right _ (List.mem_append_right _ (List.mem_append_right _ (List.mem_append_left _ h)))))
theorem iv_k_X9_isModel_X9 : ∀ w ∈ u_ws RX9 TX9 17, w ∈ vs_k_X9_isModel := (fun _ h => List.mem_cons_of_mem _ (List.mem_append_right _ (List.mem_append_right _ (List.mem_append_left _ h))))
set_option maxRecDepth 20000 in
theorem gv_k_X9_isModel_0 : GoodIn vs_k_X9_isModel (wsV RX9 241 RX9 yX9_countsHeld vs_k_X9_countsHeld) := goodIn_app (goodIn_sub (by decide +kernel) (by decide +kernel)) (goodIn_sub (fun _ h => List.mem_cons_of_mem _ (List.mem_append_right _ (List.mem_append_left _ h))) (by decide +kernel))
set_option maxRecDepth 20000 in
theorem gv_k_X9_isModel_1 : GoodIn vs_k_X9_isModel (wsV RX9 244 RX7 yX7_isBroken vs_k_X7_isBroken) := goodIn_app (goodIn_sub (by decide +kernel) (by decide +kernel)) (goodIn_sub (fun _ h => List.mem_cons_of_mem _ (List.mem_append_right _ (List.mem_append_right _ (List.mem_append_right _ (List.mem_append_right _ (h)))))) (by decide +kernel))
set_option maxRecDepth 20000 in
theorem gv_k_X9_isModel_2 : GoodIn vs_k_X9_isModel (wsV RX9 244 RX7 yX7_isBroken vs_k_X7_isBroken) := goodIn_app (goodIn_sub (by decide +kernel) (by decide +kernel)) (goodIn_sub (fun _ h => List.mem_cons_of_mem _ (List.mem_append_right _ (List.mem_append_right _ (List.mem_append_right _ (List.mem_append_right _ (h)))))) (by decide +kernel))
set_option maxHeartbeats 4000000 in
set_option maxRecDepth 100000 in
theorem k_X9_isModel (l : Launch) (D : va_G) (ty : Nat → ClassId) (td mi sz : Nat) (pp : pT) (X : Nat → Nat) (pn : Int32) (rn : Int32) (tn : Int32) (en : Int32) (rf : Nat → Option Nat) (an : Int32) (ch : Int32) (cg : Int32) (fb : Int32) (mh : Int32) (ml : Int32) (ih : Int32) (lb : Int32) (ic : Int32) (cn : Int32) (c1 : Nat → Int32) (c2 : Nat → Int32) (c3 : Nat → Int32) (c4 : Nat → Int32) (c5 : Nat → Int32) (c6 : Nat → Int32) (obi : Nat → Int32) (sc : Nat → Int32) (a1 : Int32) (hok : pOK pp) (hru : ∀ (i a : Nat), rf i = some a → a ∈ pRA pp) (TT : r_k_X9_isModel) (hTT : TT = m_k_X9_isModel pp rn rf cg lb cn c1 c2 c3 c4 c5 c6 obi sc a1) : Met l yX9_isModel vs_k_X9_isModel { frames := 4, cells := 0, slots := 0, locals := 91 } (va_Pc [.ref (X 20), .int a1] (wq_P D ty td mi ((wW_k_X9_isModel ty X pn rn tn en rf an ch cg fb mh ml ih lb ic cn c1 c2 c3 c4 c5 c6 obi sc) ++ pw ty pp) sz)) (va_Qi (fun (r : Int32) (u : va_W) => (r = TT.1 ∧ (TT.1 = 0 ∨ TT.1 = 1) ∧ (u = ((wW_k_X9_isModel ty X pn rn tn en rf an ch cg fb mh ml ih TT.2 ic cn c1 c2 c3 c4 c5 c6 obi sc) ++ pw ty pp)))) (wq_B D (va_A ((wW_k_X9_isModel ty X pn rn tn en rf an ch cg fb mh ml ih lb ic cn c1 c2 c3 c4 c5 c6 obi sc) ++ pw ty pp) sz)) (va_A ((wW_k_X9_isModel ty X pn rn tn en rf an ch cg fb mh ml ih lb ic cn c1 c2 c3 c4 c5 c6 obi sc) ++ pw ty pp) sz)) 0 0 (va_A ((wW_k_X9_isModel ty X pn rn tn en rf an ch cg fb mh ml ih lb ic cn c1 c2 c3 c4 c5 c6 obi sc) ++ pw ty pp) sz) := by
  refine Met.ofW (cc := cX9_isModel) (maxL := 4) (ret := (some .boolean)) (by decide) rfl ?_
  intro p e s m args below meth c s₁ B hml hv
  obtain ⟨rfl, hsz, hP, hK, hD0, hE⟩ := hv
  have hx := B.exec
  have hb := B.bytes
  have hr := B.returns
  have hts := atoms_spec (ws := vs_k_X9_isModel) B.pre
  have hown : s.vm.findClass RX9 = some m.cls := findClass_of_methodNamed B.named
  have hlocks := B.notSynchronized
  subst hsz
  have hD := hD0.self (sz := s.heap.size)
  generalize hAe : va_A ((wW_k_X9_isModel ty X pn rn tn en rf an ch cg fb mh ml ih lb ic cn c1 c2 c3 c4 c5 c6 obi sc) ++ pw ty pp) s.heap.size = A at hD hE ⊢
  have hA : ∀ q : Nat, s.heap.size ≤ q → A q := fun q h => by rw [← hAe]; exact Or.inr h
  have hS : va_S A s.heap s.heap [] := va_S.rf
  have hP : va_P D vwCl ((wW_k_X9_isModel ty X pn rn tn en rf an ch cg fb mh ml ih lb ic cn c1 c2 c3 c4 c5 c6 obi sc) ++ pw ty pp) s.heap := hP
  have hl := lv_entry ([.ref (X 20), .int a1]) (n := 4) (Nat.le_of_ble_eq_true rfl)
  rw [lg_entry_eq]
  generalize (lg_sl ([.ref (X 20), .int a1]) ++ List.replicate (4 - (lg_sl ([.ref (X 20), .int a1])).length) Slot.unset).toArray = ls at hl ⊢
  have hl : lv_has ls 4 [(0, .ref (X 20)), (1, .int a1)] := hl
  have END : ∀ (r : Int32) (w9_0 : Int32), TT = (r, w9_0) → (r = 0 ∨ r = 1) → ∀ (H : Heap) (locs : List Loc), va_P D vwCl ((wW_k_X9_isModel ty X pn rn tn en rf an ch cg fb mh ml ih w9_0 ic cn c1 c2 c3 c4 c5 c6 obi sc) ++ pw ty pp) H → va_D A ((wW_k_X9_isModel ty X pn rn tn en rf an ch cg fb mh ml ih w9_0 ic cn c1 c2 c3 c4 c5 c6 obi sc) ++ pw ty pp) → va_S A s.heap H locs → ∀ (ls : Array Slot) (pc : Nat), decode cX9_isModel pc = .ok (.ireturn, 1) → W p l e (headSpec vs_k_X9_isModel { frames := 4, cells := 0, slots := 0, locals := 91 }).room s m ([.ref (X 20), .int a1] : List Value).toArray below meth c H locs 0 0 (MQ below (va_Qi (fun (r : Int32) (u : va_W) => (r = TT.1 ∧ (TT.1 = 0 ∨ TT.1 = 1) ∧ (u = ((wW_k_X9_isModel ty X pn rn tn en rf an ch cg fb mh ml ih TT.2 ic cn c1 c2 c3 c4 c5 c6 obi sc) ++ pw ty pp)))) (wq_B D A) A) ([.ref (X 20), .int a1] : List Value).toArray s 0 0 A) (F0 m pc ls [.int r]) := by
    intro r w9_0 hT hb01 H locs hP hD hS ls pc hd
    have hM : TT = (r, w9_0) := hT
    exact W.zret (v := r) hx hb hr (wz_nar hb01) (fun t ht hW => ⟨⟨r, ((wW_k_X9_isModel ty X pn rn tn en rf an ch cg fb mh ml ih w9_0 ic cn c1 c2 c3 c4 c5 c6 obi sc) ++ pw ty pp), rfl, ⟨(by rw [hM]), (by rw [hM]; exact hb01), (by rw [hM])⟩, wq_B.of ht hP hD⟩, hS.F ht⟩) hS.2.2 hd
  have hT := hTT
  rw [m_k_X9_isModel] at hT
  refine lv_aload_n hx hb dX9_isModel_0 rfl (lv_at hl 0 rfl) ?_
  refine lv_iload_n hx hb dX9_isModel_1 rfl (lv_at hl 1 rfl) ?_
  obtain ⟨t_2, ht_2⟩ : ∃ t, t = m_k_X9_countsHeld pp rn rf cg obi sc a1 := ⟨_, rfl⟩
  rw [lE_eq ht_2] at hT
  refine wq_iPW (wc := (wW_k_X9_countsHeld ty X pn rn tn en rf an ch cg fb mh ml ih lb ic obi sc)) (pl := pw ty pp) (ux := (wW_k_X9_countsHeld ty X pn rn tn en rf an ch cg fb mh ml ih lb ic obi sc)) (va_runV (As := [.int a1]) (rest := []) ⟨hx, hb, hml, hown, hts⟩ (k_X9_countsHeld l D ty td mi s.heap.size pp X pn rn tn en rf an ch cg fb mh ml ih lb ic obi sc a1 hok hru t_2 ht_2) (cwV 1 hts gv_k_X9_isModel_0 rfl rfl rfl (by decide +kernel) ⟨(Nat.le_of_ble_eq_true rfl), (Nat.le_of_ble_eq_true rfl)⟩) (wm_V (wm_preSP hP hD hK hE hS hA [true, true, true, false, false, false, false, false, false, false, true, true] rfl) (va_recv (q0 := 2) (ci := 11) hK hP rfl rfl)) rfl rfl hl.1 rfl (lv_room (Nat.le_of_ble_eq_true rfl)) dX9_isModel_2 ⟨(Nat.le_of_ble_eq_true rfl), (Nat.le_of_ble_eq_true rfl)⟩) hS hA hP hD [true, true, true, false, false, false, false, false, false, false, true, true] rfl rfl (fun _ _ h => h.2) (fun r H locs hw hP hD hS => ?_)
  obtain ⟨hr0, -⟩ := hw
  subst r
  have hP : va_P D vwCl ((wW_k_X9_isModel ty X pn rn tn en rf an ch cg fb mh ml ih lb ic cn c1 c2 c3 c4 c5 c6 obi sc) ++ pw ty pp) H := hP
  have hD : va_D A ((wW_k_X9_isModel ty X pn rn tn en rf an ch cg fb mh ml ih lb ic cn c1 c2 c3 c4 c5 c6 obi sc) ++ pw ty pp) := hD
  refine W.widen (k := 0) (n := 0) (Nat.le_of_ble_eq_true rfl) (Nat.le_of_ble_eq_true rfl) ?_
  refine lv_istore_n (lv' := [(2, .int t_2), (0, .ref (X 20)), (1, .int a1)]) hx hb dX9_isModel_5 rfl hl (by decide) rfl (fun ls hl => ?_)
  refine lv_aload_n hx hb dX9_isModel_6 rfl (lv_at hl 1 rfl) ?_
  refine va_get (D := D) (ci := 11) (v := .int lb) (C := RX9) (T := TX9) (N := 17) hx hb hts iv_k_X9_isModel_X9 hown hK hP 2 rfl rfl 15 (by decide) (hts (.fieldLink RX9 103 "AnswerFold$Solver" "lastBroken" "I") (by decide +kernel)) (fun _ h9 => h9) rfl dX9_isModel_7 ?_
  refine lv_aload_n hx hb dX9_isModel_10 rfl (lv_at hl 1 rfl) ?_
  refine va_get (D := D) (ci := 11) (v := .ref (X 21)) (C := RX9) (T := TX9) (N := 17) hx hb hts iv_k_X9_isModel_X9 hown hK hP 2 rfl rfl 2 (by decide) (hts (.fieldLink RX9 12 "AnswerFold$Solver" "checks" "LAnswerFold$Rows;") (by decide +kernel)) (fun _ h9 => h9) rfl dX9_isModel_11 ?_
  refine va_getN (D := D) (ci := 9) (v := .int cn) (C := RX7) (T := TX7) (N := 7) hx hb hts iv_k_X9_isModel_X7 hown hK hP 3 rfl rfl 6 (by decide) (hE.at (.fieldLinkNest "AnswerFold$Solver" 93 "AnswerFold$Rows" "count" "I" "AnswerFold") (by decide +kernel)) (fun _ h9 => h9) rfl dX9_isModel_14 ?_
  have J_38 : ∀ (_ : Unit), TT = m_k_X9_isModel_38 lb cn c1 c2 c3 c4 c5 c6 a1 t_2 → ∀ (H : Heap) (locs : List Loc), va_P D vwCl ((wW_k_X9_isModel ty X pn rn tn en rf an ch cg fb mh ml ih lb ic cn c1 c2 c3 c4 c5 c6 obi sc) ++ pw ty pp) H → va_D A ((wW_k_X9_isModel ty X pn rn tn en rf an ch cg fb mh ml ih lb ic cn c1 c2 c3 c4 c5 c6 obi sc) ++ pw ty pp) → va_S A s.heap H locs → ∀ ls : Array Slot, lv_has ls 4 [(0, .ref (X 20)), (1, .int a1), (2, .int t_2)] → W p l e (headSpec vs_k_X9_isModel { frames := 4, cells := 0, slots := 0, locals := 91 }).room s m ([.ref (X 20), .int a1] : List Value).toArray below meth c H locs 0 0 (MQ below (va_Qi (fun (r : Int32) (u : va_W) => (r = TT.1 ∧ (TT.1 = 0 ∨ TT.1 = 1) ∧ (u = ((wW_k_X9_isModel ty X pn rn tn en rf an ch cg fb mh ml ih TT.2 ic cn c1 c2 c3 c4 c5 c6 obi sc) ++ pw ty pp)))) (wq_B D A) A) ([.ref (X 20), .int a1] : List Value).toArray s 0 0 A) (F0 m 38 ls []) := by
    intro _ hT  H locs hP hD hS ls hl
    rw [m_k_X9_isModel_38] at hT
    refine lv_iconst (v := 0) hx hb dX9_isModel_38 (by decide) ?_
    refine lv_istore_n (lv' := [(3, .int 0), (0, .ref (X 20)), (1, .int a1), (2, .int t_2)]) hx hb dX9_isModel_39 rfl hl (by decide) rfl (fun ls hl => ?_)
    have L_40 : ∀ (n_40 : Nat) (v3_40 : Int32), (2147483648 - v3_40.toInt).toNat < n_40 → TT = m_k_X9_isModel_40 lb cn c1 c2 c3 c4 c5 c6 a1 t_2 n_40 v3_40 → 0 ≤ v3_40.toInt → ∀ (H : Heap) (locs : List Loc), va_P D vwCl ((wW_k_X9_isModel ty X pn rn tn en rf an ch cg fb mh ml ih lb ic cn c1 c2 c3 c4 c5 c6 obi sc) ++ pw ty pp) H → va_D A ((wW_k_X9_isModel ty X pn rn tn en rf an ch cg fb mh ml ih lb ic cn c1 c2 c3 c4 c5 c6 obi sc) ++ pw ty pp) → va_S A s.heap H locs → ∀ ls : Array Slot, lv_has ls 4 [(0, .ref (X 20)), (1, .int a1), (2, .int t_2), (3, .int v3_40)] → W p l e (headSpec vs_k_X9_isModel { frames := 4, cells := 0, slots := 0, locals := 91 }).room s m ([.ref (X 20), .int a1] : List Value).toArray below meth c H locs 0 0 (MQ below (va_Qi (fun (r : Int32) (u : va_W) => (r = TT.1 ∧ (TT.1 = 0 ∨ TT.1 = 1) ∧ (u = ((wW_k_X9_isModel ty X pn rn tn en rf an ch cg fb mh ml ih TT.2 ic cn c1 c2 c3 c4 c5 c6 obi sc) ++ pw ty pp)))) (wq_B D A) A) ([.ref (X 20), .int a1] : List Value).toArray s 0 0 A) (F0 m 40 ls []) := by
      intro n_40
      induction n_40 with
      | zero => intro v3_40 hu; exact absurd hu (Nat.not_lt_zero _)
      | succ n_40 ih_40 =>
        intro v3_40 hu_40 hT hn_40 H locs hP hD hS ls hl
        rw [m_k_X9_isModel_40_succ, m_k_X9_isModel_40s] at hT
        refine lv_iload_n hx hb dX9_isModel_40 rfl (lv_at hl 3 rfl) ?_
        refine lv_aload_n hx hb dX9_isModel_41 rfl (lv_at hl 0 rfl) ?_
        refine va_get (D := D) (ci := 11) (v := .ref (X 21)) (C := RX9) (T := TX9) (N := 17) hx hb hts iv_k_X9_isModel_X9 hown hK hP 2 rfl rfl 2 (by decide) (hts (.fieldLink RX9 12 "AnswerFold$Solver" "checks" "LAnswerFold$Rows;") (by decide +kernel)) (fun _ h9 => h9) rfl dX9_isModel_42 ?_
        refine va_getN (D := D) (ci := 9) (v := .int cn) (C := RX7) (T := TX7) (N := 7) hx hb hts iv_k_X9_isModel_X7 hown hK hP 3 rfl rfl 6 (by decide) (hE.at (.fieldLinkNest "AnswerFold$Solver" 93 "AnswerFold$Rows" "count" "I" "AnswerFold") (by decide +kernel)) (fun _ h9 => h9) rfl dX9_isModel_45 ?_
        refine lv_icmp_ge (tgt := 77) hx hb dX9_isModel_48 (by decide) (fun c_3 => ?_) (fun c_3 => ?_)
        · rw [if_pos c_3] at hT
          refine lv_iconst (v := 1) hx hb dX9_isModel_77 (by decide) ?_
          exact END 1 lb hT (by decide) _ _ hP hD hS _ _ dX9_isModel_78
        · rw [if_neg c_3] at hT
          refine lv_aload_n hx hb dX9_isModel_51 rfl (lv_at hl 0 rfl) ?_
          refine va_get (D := D) (ci := 11) (v := .ref (X 21)) (C := RX9) (T := TX9) (N := 17) hx hb hts iv_k_X9_isModel_X9 hown hK hP 2 rfl rfl 2 (by decide) (hts (.fieldLink RX9 12 "AnswerFold$Solver" "checks" "LAnswerFold$Rows;") (by decide +kernel)) (fun _ h9 => h9) rfl dX9_isModel_52 ?_
          refine lv_iload_n hx hb dX9_isModel_55 rfl (lv_at hl 3 rfl) ?_
          refine lv_iload_n hx hb dX9_isModel_56 rfl (lv_at hl 1 rfl) ?_
          refine lv_iload_n hx hb dX9_isModel_57 rfl (lv_at hl 2 rfl) ?_
          obtain ⟨t_58, ht_58⟩ : ∃ t, t = m_k_X7_isBroken c1 c2 c3 c4 c5 c6 v3_40 a1 t_2 := ⟨_, rfl⟩
          rw [lE_eq ht_58] at hT
          refine wq_iQW (wc := (wW_k_X7_isBroken ty (X 21) (X 22) (X 23) (X 24) (X 25) (X 26) (X 27) cn c1 c2 c3 c4 c5 c6)) (pl := pw ty pp) (va_runV (As := [.int v3_40, .int a1, .int t_2]) (rest := []) ⟨hx, hb, hml, hown, hts⟩ (k_X7_isBroken l D ty td mi H.size (X 21) (X 22) (X 23) (X 24) (X 25) (X 26) (X 27) cn c1 c2 c3 c4 c5 c6 v3_40 a1 t_2 t_58 ht_58) (cwV 3 hts gv_k_X9_isModel_1 rfl rfl rfl (by decide +kernel) ⟨(Nat.le_of_ble_eq_true rfl), (Nat.le_of_ble_eq_true rfl)⟩) (wm_V (wm_preS (vP_left hP) (vD_left hD) hK hE hS hA [false, false, false, true, true, true, true, true, true, true] rfl) (va_recv (q0 := 3) (ci := 9) hK hP rfl rfl)) rfl rfl hl.1 rfl (lv_room (Nat.le_of_ble_eq_true rfl)) dX9_isModel_58 ⟨(Nat.le_of_ble_eq_true rfl), (Nat.le_of_ble_eq_true rfl)⟩) hS hA hP hD [false, false, false, true, true, true, true, true, true, true] rfl (fun _ _ h => by rcases h with ⟨-, -, rfl⟩; rfl) (fun r u H locs hw hP hD hS => ?_)
          obtain ⟨hr0, c_6, rfl⟩ := hw
          subst r
          have hP : va_P D vwCl ((wW_k_X9_isModel ty X pn rn tn en rf an ch cg fb mh ml ih lb ic cn c1 c2 c3 c4 c5 c6 obi sc) ++ pw ty pp) H := hP
          have hD : va_D A ((wW_k_X9_isModel ty X pn rn tn en rf an ch cg fb mh ml ih lb ic cn c1 c2 c3 c4 c5 c6 obi sc) ++ pw ty pp) := hD
          refine W.widen (k := 0) (n := 0) (Nat.le_of_ble_eq_true rfl) (Nat.le_of_ble_eq_true rfl) ?_
          refine lv_if_eq (tgt := 71) hx hb dX9_isModel_61 (by decide) (fun c_7 => ?_) (fun c_7 => ?_)
          · rw [if_pos c_7] at hT
            refine lv_iinc (v := v3_40 + 1) (lv' := [(3, .int (v3_40 + 1)), (0, .ref (X 20)), (1, .int a1), (2, .int t_2)]) hx hb dX9_isModel_71 hl (k := 3) rfl (by rfl) (by decide) rfl (fun ls hl => ?_)
            refine lv_goto (tgt := 40) hx hb dX9_isModel_74 (by decide) ?_
            exact ih_40 (v3_40 + 1) (wi_up hu_40 (Int32.not_le.mp c_3)) hT (wi_inc hn_40 (Int32.not_le.mp c_3)) _ _ hP hD hS _ (lv_sub hl [1, 2, 3, 0] rfl)
          · rw [if_neg c_7] at hT
            refine lv_aload_n hx hb dX9_isModel_64 rfl (lv_at hl 0 rfl) ?_
            refine lv_iload_n hx hb dX9_isModel_65 rfl (lv_at hl 3 rfl) ?_
            refine va_put (D := D) (ci := 11) (v := .int v3_40) (ty := tyX9 15) (C := RX9) (T := TX9) (N := 17) hx hb hts iv_k_X9_isModel_X9 tyX9 tyX9_ok nmX9 hown hK hP hD hS 2 rfl rfl 15 (by decide) (hts (.fieldLink RX9 103 "AnswerFold$Solver" "lastBroken" "I") (by decide +kernel)) (fun _ h9 => h9) rfl (by decide +kernel) rfl rfl (Nat.le_of_ble_eq_true rfl) dX9_isModel_66 (fun H locs hP hD hS => ?_)
            have hP : va_P D vwCl ((wW_k_X9_isModel ty X pn rn tn en rf an ch cg fb mh ml ih v3_40 ic cn c1 c2 c3 c4 c5 c6 obi sc) ++ pw ty pp) H := hP
            have hD : va_D A ((wW_k_X9_isModel ty X pn rn tn en rf an ch cg fb mh ml ih v3_40 ic cn c1 c2 c3 c4 c5 c6 obi sc) ++ pw ty pp) := hD
            refine lv_iconst (v := 0) hx hb dX9_isModel_69 (by decide) ?_
            exact END 0 v3_40 hT (by decide) _ _ hP hD hS _ _ dX9_isModel_70
    exact L_40 wF 0 (wF_up 0) hT (by decide) _ _ hP hD hS _ (lv_sub hl [1, 2, 3, 0] rfl)
  refine lv_icmp_ge (tgt := 38) hx hb dX9_isModel_17 (by decide) (fun c_8 => ?_) (fun c_8 => ?_)
  · rw [if_pos c_8] at hT
    exact J_38 () hT _ _ hP hD hS _ (lv_sub hl [1, 2, 0] rfl)
  · rw [if_neg c_8] at hT
    refine lv_aload_n hx hb dX9_isModel_20 rfl (lv_at hl 1 rfl) ?_
    refine va_get (D := D) (ci := 11) (v := .ref (X 21)) (C := RX9) (T := TX9) (N := 17) hx hb hts iv_k_X9_isModel_X9 hown hK hP 2 rfl rfl 2 (by decide) (hts (.fieldLink RX9 12 "AnswerFold$Solver" "checks" "LAnswerFold$Rows;") (by decide +kernel)) (fun _ h9 => h9) rfl dX9_isModel_21 ?_
    refine lv_aload_n hx hb dX9_isModel_24 rfl (lv_at hl 1 rfl) ?_
    refine va_get (D := D) (ci := 11) (v := .int lb) (C := RX9) (T := TX9) (N := 17) hx hb hts iv_k_X9_isModel_X9 hown hK hP 2 rfl rfl 15 (by decide) (hts (.fieldLink RX9 103 "AnswerFold$Solver" "lastBroken" "I") (by decide +kernel)) (fun _ h9 => h9) rfl dX9_isModel_25 ?_
    refine lv_iload_n hx hb dX9_isModel_28 rfl (lv_at hl 2 rfl) ?_
    refine lv_iload_n hx hb dX9_isModel_29 rfl (lv_at hl 0 rfl) ?_
    obtain ⟨t_30, ht_30⟩ : ∃ t, t = m_k_X7_isBroken c1 c2 c3 c4 c5 c6 lb a1 t_2 := ⟨_, rfl⟩
    rw [lE_eq ht_30] at hT
    refine wq_iQW (wc := (wW_k_X7_isBroken ty (X 21) (X 22) (X 23) (X 24) (X 25) (X 26) (X 27) cn c1 c2 c3 c4 c5 c6)) (pl := pw ty pp) (va_runV (As := [.int lb, .int a1, .int t_2]) (rest := []) ⟨hx, hb, hml, hown, hts⟩ (k_X7_isBroken l D ty td mi H.size (X 21) (X 22) (X 23) (X 24) (X 25) (X 26) (X 27) cn c1 c2 c3 c4 c5 c6 lb a1 t_2 t_30 ht_30) (cwV 3 hts gv_k_X9_isModel_2 rfl rfl rfl (by decide +kernel) ⟨(Nat.le_of_ble_eq_true rfl), (Nat.le_of_ble_eq_true rfl)⟩) (wm_V (wm_preS (vP_left hP) (vD_left hD) hK hE hS hA [false, false, false, true, true, true, true, true, true, true] rfl) (va_recv (q0 := 3) (ci := 9) hK hP rfl rfl)) rfl rfl hl.1 rfl (lv_room (Nat.le_of_ble_eq_true rfl)) dX9_isModel_30 ⟨(Nat.le_of_ble_eq_true rfl), (Nat.le_of_ble_eq_true rfl)⟩) hS hA hP hD [false, false, false, true, true, true, true, true, true, true] rfl (fun _ _ h => by rcases h with ⟨-, -, rfl⟩; rfl) (fun r u H locs hw hP hD hS => ?_)
    obtain ⟨hr0, c_11, rfl⟩ := hw
    subst r
    have hP : va_P D vwCl ((wW_k_X9_isModel ty X pn rn tn en rf an ch cg fb mh ml ih lb ic cn c1 c2 c3 c4 c5 c6 obi sc) ++ pw ty pp) H := hP
    have hD : va_D A ((wW_k_X9_isModel ty X pn rn tn en rf an ch cg fb mh ml ih lb ic cn c1 c2 c3 c4 c5 c6 obi sc) ++ pw ty pp) := hD
    refine W.widen (k := 0) (n := 0) (Nat.le_of_ble_eq_true rfl) (Nat.le_of_ble_eq_true rfl) ?_
    refine lv_if_eq (tgt := 38) hx hb dX9_isModel_33 (by decide) (fun c_12 => ?_) (fun c_12 => ?_)
    · rw [if_pos c_12] at hT
      exact J_38 () hT _ _ hP hD hS _ (lv_sub hl [1, 2, 0] rfl)
    · rw [if_neg c_12] at hT
      refine lv_iconst (v := 0) hx hb dX9_isModel_36 (by decide) ?_
      exact END 0 lb hT (by decide) _ _ hP hD hS _ _ dX9_isModel_37
theorem dX9_listActive_0 : decode cX9_listActive 0 = .ok (.aload_n 0, 1) := by decide +kernel
theorem dX9_listActive_1 : decode cX9_listActive 1 = .ok (.iload_n 1, 1) := by decide +kernel
theorem dX9_listActive_2 : decode cX9_listActive 2 = .ok (.invokevirtual 241, 3) := by decide +kernel
theorem dX9_listActive_5 : decode cX9_listActive 5 = .ok (.istore_n 2, 1) := by decide +kernel
theorem dX9_listActive_6 : decode cX9_listActive 6 = .ok (.aload_n 0, 1) := by decide +kernel
theorem dX9_listActive_7 : decode cX9_listActive 7 = .ok (.iconst 0, 1) := by decide +kernel
theorem dX9_listActive_8 : decode cX9_listActive 8 = .ok (.putfield 276, 3) := by decide +kernel
theorem dX9_listActive_11 : decode cX9_listActive 11 = .ok (.iconst 0, 1) := by decide +kernel
theorem dX9_listActive_12 : decode cX9_listActive 12 = .ok (.istore_n 3, 1) := by decide +kernel
theorem dX9_listActive_13 : decode cX9_listActive 13 = .ok (.iload_n 3, 1) := by decide +kernel
theorem dX9_listActive_14 : decode cX9_listActive 14 = .ok (.aload_n 0, 1) := by decide +kernel
theorem dX9_listActive_15 : decode cX9_listActive 15 = .ok (.getfield 12, 3) := by decide +kernel
theorem dX9_listActive_18 : decode cX9_listActive 18 = .ok (.getfield 93, 3) := by decide +kernel
theorem dX9_listActive_21 : decode cX9_listActive 21 = .ok (.if_icmp .ge 77, 3) := by decide +kernel
theorem dX9_listActive_24 : decode cX9_listActive 24 = .ok (.aload_n 0, 1) := by decide +kernel
theorem dX9_listActive_25 : decode cX9_listActive 25 = .ok (.getfield 12, 3) := by decide +kernel
theorem dX9_listActive_28 : decode cX9_listActive 28 = .ok (.iload_n 3, 1) := by decide +kernel
theorem dX9_listActive_29 : decode cX9_listActive 29 = .ok (.invokevirtual 279, 3) := by decide +kernel
theorem dX9_listActive_32 : decode cX9_listActive 32 = .ok (.iload_n 1, 1) := by decide +kernel
theorem dX9_listActive_33 : decode cX9_listActive 33 = .ok (.iand, 1) := by decide +kernel
theorem dX9_listActive_34 : decode cX9_listActive 34 = .ok (.ifCond .eq 7, 3) := by decide +kernel
theorem dX9_listActive_37 : decode cX9_listActive 37 = .ok (.iconst 1, 1) := by decide +kernel
theorem dX9_listActive_38 : decode cX9_listActive 38 = .ok (.goto 4, 3) := by decide +kernel
theorem dX9_listActive_41 : decode cX9_listActive 41 = .ok (.iconst 0, 1) := by decide +kernel
theorem dX9_listActive_42 : decode cX9_listActive 42 = .ok (.istore 4, 2) := by decide +kernel
theorem dX9_listActive_44 : decode cX9_listActive 44 = .ok (.iload 4, 2) := by decide +kernel
theorem dX9_listActive_46 : decode cX9_listActive 46 = .ok (.ifCond .eq 46, 3) := by decide +kernel
theorem dX9_listActive_49 : decode cX9_listActive 49 = .ok (.aload_n 0, 1) := by decide +kernel
theorem dX9_listActive_50 : decode cX9_listActive 50 = .ok (.getfield 12, 3) := by decide +kernel
theorem dX9_listActive_53 : decode cX9_listActive 53 = .ok (.iload_n 3, 1) := by decide +kernel
theorem dX9_listActive_54 : decode cX9_listActive 54 = .ok (.iload_n 1, 1) := by decide +kernel
theorem dX9_listActive_55 : decode cX9_listActive 55 = .ok (.iload_n 2, 1) := by decide +kernel
theorem dX9_listActive_56 : decode cX9_listActive 56 = .ok (.invokevirtual 282, 3) := by decide +kernel
theorem dX9_listActive_59 : decode cX9_listActive 59 = .ok (.ifCond .eq 33, 3) := by decide +kernel
theorem dX9_listActive_62 : decode cX9_listActive 62 = .ok (.aload_n 0, 1) := by decide +kernel
theorem dX9_listActive_63 : decode cX9_listActive 63 = .ok (.getfield 276, 3) := by decide +kernel
theorem dX9_listActive_66 : decode cX9_listActive 66 = .ok (.sipush 300, 3) := by decide +kernel
theorem dX9_listActive_69 : decode cX9_listActive 69 = .ok (.if_icmp .ge 23, 3) := by decide +kernel
theorem dX9_listActive_72 : decode cX9_listActive 72 = .ok (.aload_n 0, 1) := by decide +kernel
theorem dX9_listActive_73 : decode cX9_listActive 73 = .ok (.getfield 21, 3) := by decide +kernel
theorem dX9_listActive_76 : decode cX9_listActive 76 = .ok (.aload_n 0, 1) := by decide +kernel
theorem dX9_listActive_77 : decode cX9_listActive 77 = .ok (.getfield 276, 3) := by decide +kernel
theorem dX9_listActive_80 : decode cX9_listActive 80 = .ok (.iload_n 3, 1) := by decide +kernel
theorem dX9_listActive_81 : decode cX9_listActive 81 = .ok (.iastore, 1) := by decide +kernel
theorem dX9_listActive_82 : decode cX9_listActive 82 = .ok (.aload_n 0, 1) := by decide +kernel
theorem dX9_listActive_83 : decode cX9_listActive 83 = .ok (.dup, 1) := by decide +kernel
theorem dX9_listActive_84 : decode cX9_listActive 84 = .ok (.getfield 276, 3) := by decide +kernel
theorem dX9_listActive_87 : decode cX9_listActive 87 = .ok (.iconst 1, 1) := by decide +kernel
theorem dX9_listActive_88 : decode cX9_listActive 88 = .ok (.iadd, 1) := by decide +kernel
theorem dX9_listActive_89 : decode cX9_listActive 89 = .ok (.putfield 276, 3) := by decide +kernel
theorem dX9_listActive_92 : decode cX9_listActive 92 = .ok (.iinc 3 1, 3) := by decide +kernel
theorem dX9_listActive_95 : decode cX9_listActive 95 = .ok (.goto (-82), 3) := by decide +kernel
theorem dX9_listActive_98 : decode cX9_listActive 98 = .ok (.return_, 1) := by decide +kernel
def wW_k_X9_listActive (ty : Nat → ClassId) (X : Nat → Nat) (z9_0 : Int32) (z9_1 : Int32) (z9_2 : Int32) (z9_3 : Int32) (z9_4 : Nat → Option Nat) (z9_5 : Int32) (z9_6 : Int32) (z9_7 : Int32) (z9_8 : Int32) (z9_9 : Int32) (z9_10 : Int32) (z9_11 : Int32) (z9_12 : Int32) (z9_13 : Int32) (z9_14 : Int32) (z9_15 : Nat → Int32) (z9_16 : Nat → Int32) (z9_17 : Nat → Int32) (z9_18 : Nat → Int32) (z9_19 : Nat → Int32) (z9_20 : Nat → Int32) (z9_21 : Nat → Int32) : va_W := [((X 1), .inr (8, [.ref (X 2), .int z9_0, .ref (X 3), .int z9_1, .ref (X 4), .ref (X 5), .int z9_2, .ref (X 6), .ref (X 7), .int z9_3])), ((X 3), .inl (ty 4, 20, .inr (.inr (.inr (.inr z9_4))))), ((X 20), .inr (11, [.ref (X 1), .ref (X 8), .ref (X 21), .ref (X 28), .ref (X 35), .int z9_5, .ref (X 36), .ref (X 37), .ref (X 38), .int z9_6, .int z9_7, .int z9_8, .int z9_9, .int z9_10, .int z9_11, .int z9_12, .int z9_13])), ((X 21), .inr (9, [.ref (X 22), .ref (X 23), .ref (X 24), .ref (X 25), .ref (X 26), .ref (X 27), .int z9_14])), ((X 22), .inl (ty 0, 300, .inl z9_15)), ((X 23), .inl (ty 0, 300, .inl z9_16)), ((X 24), .inl (ty 0, 300, .inl z9_17)), ((X 25), .inl (ty 0, 300, .inl z9_18)), ((X 35), .inl (ty 0, 300, .inl z9_19)), ((X 36), .inl (ty 0, 6, .inl z9_20)), ((X 37), .inl (ty 0, 6, .inl z9_21))]
def vs_k_X9_listActive : List Cond := .code yX9_listActive cX9_listActive 5 none :: ([.methodLink RX9 241 yX9_countsHeld, .instanceMethod yX9_countsHeld, .selects RX9 yX9_countsHeld yX9_countsHeld, .initialized RX9, .fieldLink RX9 276 "AnswerFold$Solver" "activeCount" "I", .fieldLink RX9 12 "AnswerFold$Solver" "checks" "LAnswerFold$Rows;", .methodLink RX9 279 yX7_headsAt, .instanceMethod yX7_headsAt, .selects RX7 yX7_headsAt yX7_headsAt, .initialized RX7, .methodLink RX9 282 yX7_bodyHolds, .instanceMethod yX7_bodyHolds, .selects RX7 yX7_bodyHolds yX7_bodyHolds, .fieldLink RX9 21 "AnswerFold$Solver" "active" "[I"] ++ (vs_k_X9_countsHeld ++ (u_ws RX9 TX9 17 ++ (u_ws RX7 TX7 7 ++ (vs_k_X7_headsAt ++ (vs_k_X7_bodyHolds))))))
theorem iv_k_X9_listActive_X7 : ∀ w ∈ u_ws RX7 TX7 7, w ∈ vs_k_X9_listActive := (fun _ h => List.mem_cons_of_mem _ (List.mem_append_right _ (List.mem_append_right _ (List.mem_append_right _ (List.mem_append_left _ h)))))
theorem iv_k_X9_listActive_X9 : ∀ w ∈ u_ws RX9 TX9 17, w ∈ vs_k_X9_listActive := (fun _ h => List.mem_cons_of_mem _ (List.mem_append_right _ (List.mem_append_right _ (List.mem_append_left _ h))))
set_option maxRecDepth 20000 in
theorem gv_k_X9_listActive_0 : GoodIn vs_k_X9_listActive (wsV RX9 241 RX9 yX9_countsHeld vs_k_X9_countsHeld) := goodIn_app (goodIn_sub (by decide +kernel) (by decide +kernel)) (goodIn_sub (fun _ h => List.mem_cons_of_mem _ (List.mem_append_right _ (List.mem_append_left _ h))) (by decide +kernel))
set_option maxRecDepth 20000 in
theorem gv_k_X9_listActive_1 : GoodIn vs_k_X9_listActive (wsV RX9 279 RX7 yX7_headsAt vs_k_X7_headsAt) := goodIn_app (goodIn_sub (by decide +kernel) (by decide +kernel)) (goodIn_sub (fun _ h => List.mem_cons_of_mem _ (List.mem_append_right _ (List.mem_append_right _ (List.mem_append_right _ (List.mem_append_right _ (List.mem_append_left _ h)))))) (by decide +kernel))
set_option maxRecDepth 20000 in
theorem gv_k_X9_listActive_2 : GoodIn vs_k_X9_listActive (wsV RX9 282 RX7 yX7_bodyHolds vs_k_X7_bodyHolds) := goodIn_app (goodIn_sub (by decide +kernel) (by decide +kernel)) (goodIn_sub (fun _ h => List.mem_cons_of_mem _ (List.mem_append_right _ (List.mem_append_right _ (List.mem_append_right _ (List.mem_append_right _ (List.mem_append_right _ (h))))))) (by decide +kernel))
theorem om_k_X9_listActive_0 (x20_5_92 : Int32) (v3_13 : Int32) (x20_5_13 : Int32) (cn : Int32) (hn_13 : 0 ≤ v3_13.toInt) (hw0_13 : 0 ≤ (x20_5_13 : Int32).toInt) (c_3 : ¬ (cn ≤ v3_13)) (hw0_42 : 0 ≤ (x20_5_13 : Int32).toInt) (hw0_92 : 0 ≤ (x20_5_92 : Int32).toInt) : 0 ≤ (x20_5_92 : Int32).toInt := by
  have f_0 := hn_13
  have f_1 := hw0_13
  have f_2 := Int32.lt_iff_toInt_lt.mp (Int32.not_le.mp c_3)
  have f_3 := hw0_42
  have f_4 := hw0_92
  have r_x20_5_92 := wi_rng x20_5_92
  omega
theorem om_k_X9_listActive_1 (x20_5_13 : Int32) (v3_13 : Int32) (cn : Int32) (s0_42 : Int32) (hn_13 : 0 ≤ v3_13.toInt) (hw0_13 : 0 ≤ (x20_5_13 : Int32).toInt) (c_3 : ¬ (cn ≤ v3_13)) (hw0_42 : 0 ≤ (x20_5_13 : Int32).toInt) (c_6 : s0_42 = 0) : 0 ≤ (x20_5_13 : Int32).toInt := by
  have f_0 := hn_13
  have f_1 := hw0_13
  have f_2 := Int32.lt_iff_toInt_lt.mp (Int32.not_le.mp c_3)
  have f_3 := hw0_42
  have f_4 := congrArg Int32.toInt c_6
  have nl_0 : (0 : Int32).toInt = 0 := rfl
  have r_x20_5_13 := wi_rng x20_5_13
  omega
theorem om_k_X9_listActive_2 (x20_5_13 : Int32) (v3_13 : Int32) (cn : Int32) (s0_42 : Int32) (t_56 : r_k_X7_bodyHolds) (hn_13 : 0 ≤ v3_13.toInt) (hw0_13 : 0 ≤ (x20_5_13 : Int32).toInt) (c_3 : ¬ (cn ≤ v3_13)) (hw0_42 : 0 ≤ (x20_5_13 : Int32).toInt) (c_6 : ¬ (s0_42 = 0)) (c_10 : t_56 = 0) : 0 ≤ (x20_5_13 : Int32).toInt := by
  have f_0 := hn_13
  have f_1 := hw0_13
  have f_2 := Int32.lt_iff_toInt_lt.mp (Int32.not_le.mp c_3)
  have f_3 := hw0_42
  have f_4 : ¬ (s0_42 : Int32).toInt = (0 : Int32).toInt := fun h => c_6 (Int32.toInt_inj.mp h)
  have f_5 := congrArg Int32.toInt c_10
  have nl_0 : (0 : Int32).toInt = 0 := rfl
  have r_x20_5_13 := wi_rng x20_5_13
  omega
theorem om_k_X9_listActive_3 (x20_5_13 : Int32) (v3_13 : Int32) (cn : Int32) (s0_42 : Int32) (t_56 : r_k_X7_bodyHolds) (hn_13 : 0 ≤ v3_13.toInt) (hw0_13 : 0 ≤ (x20_5_13 : Int32).toInt) (c_3 : ¬ (cn ≤ v3_13)) (hw0_42 : 0 ≤ (x20_5_13 : Int32).toInt) (c_6 : ¬ (s0_42 = 0)) (c_10 : ¬ (t_56 = 0)) (c_11 : 300 ≤ x20_5_13) : 0 ≤ (x20_5_13 : Int32).toInt := by
  have f_0 := hn_13
  have f_1 := hw0_13
  have f_2 := Int32.lt_iff_toInt_lt.mp (Int32.not_le.mp c_3)
  have f_3 := hw0_42
  have f_4 : ¬ (s0_42 : Int32).toInt = (0 : Int32).toInt := fun h => c_6 (Int32.toInt_inj.mp h)
  have f_5 : ¬ (t_56 : Int32).toInt = (0 : Int32).toInt := fun h => c_10 (Int32.toInt_inj.mp h)
  have f_6 := Int32.le_iff_toInt_le.mp (c_11)
  have nl_0 : (0 : Int32).toInt = 0 := rfl
  have nl_300 : (300 : Int32).toInt = 300 := rfl
  have r_x20_5_13 := wi_rng x20_5_13
  omega
theorem om_k_X9_listActive_4 (x20_5_13 : Int32) (v3_13 : Int32) (cn : Int32) (s0_42 : Int32) (t_56 : r_k_X7_bodyHolds) (hn_13 : 0 ≤ v3_13.toInt) (hw0_13 : 0 ≤ (x20_5_13 : Int32).toInt) (c_3 : ¬ (cn ≤ v3_13)) (hw0_42 : 0 ≤ (x20_5_13 : Int32).toInt) (c_6 : ¬ (s0_42 = 0)) (c_10 : ¬ (t_56 = 0)) (c_11 : ¬ (300 ≤ x20_5_13)) : vp_in (x20_5_13) 300 := by
  have f_0 := hn_13
  have f_1 := hw0_13
  have f_2 := Int32.lt_iff_toInt_lt.mp (Int32.not_le.mp c_3)
  have f_3 := hw0_42
  have f_4 : ¬ (s0_42 : Int32).toInt = (0 : Int32).toInt := fun h => c_6 (Int32.toInt_inj.mp h)
  have f_5 : ¬ (t_56 : Int32).toInt = (0 : Int32).toInt := fun h => c_10 (Int32.toInt_inj.mp h)
  have f_6 := Int32.lt_iff_toInt_lt.mp (Int32.not_le.mp c_11)
  have nl_0 : (0 : Int32).toInt = 0 := rfl
  have nl_300 : (300 : Int32).toInt = 300 := rfl
  have r_x20_5_13 := wi_rng x20_5_13
  exact wi_in (by omega) (by omega)
theorem om_k_X9_listActive_5 (x20_5_13 : Int32) (v3_13 : Int32) (cn : Int32) (s0_42 : Int32) (t_56 : r_k_X7_bodyHolds) (hn_13 : 0 ≤ v3_13.toInt) (hw0_13 : 0 ≤ (x20_5_13 : Int32).toInt) (c_3 : ¬ (cn ≤ v3_13)) (hw0_42 : 0 ≤ (x20_5_13 : Int32).toInt) (c_6 : ¬ (s0_42 = 0)) (c_10 : ¬ (t_56 = 0)) (c_11 : ¬ (300 ≤ x20_5_13)) : 0 ≤ (x20_5_13 + 1 : Int32).toInt := by
  have f_0 := hn_13
  have f_1 := hw0_13
  have f_2 := Int32.lt_iff_toInt_lt.mp (Int32.not_le.mp c_3)
  have f_3 := hw0_42
  have f_4 : ¬ (s0_42 : Int32).toInt = (0 : Int32).toInt := fun h => c_6 (Int32.toInt_inj.mp h)
  have f_5 : ¬ (t_56 : Int32).toInt = (0 : Int32).toInt := fun h => c_10 (Int32.toInt_inj.mp h)
  have f_6 := Int32.lt_iff_toInt_lt.mp (Int32.not_le.mp c_11)
  have nl_0 : (0 : Int32).toInt = 0 := rfl
  have nl_1 : (1 : Int32).toInt = 1 := rfl
  have nl_300 : (300 : Int32).toInt = 300 := rfl
  have r_x20_5_13 := wi_rng x20_5_13
  have q_1 : (x20_5_13 + 1).toInt = (x20_5_13 : Int32).toInt + (1 : Int32).toInt := wi_add (by omega) (by omega)
  omega
theorem om_k_X9_listActive_6 (x20_5_13 : Int32) (v3_13 : Int32) (cn : Int32) (hn_13 : 0 ≤ v3_13.toInt) (hw0_13 : 0 ≤ (x20_5_13 : Int32).toInt) (c_3 : ¬ (cn ≤ v3_13)) : 0 ≤ (x20_5_13 : Int32).toInt := by
  have f_0 := hn_13
  have f_1 := hw0_13
  have f_2 := Int32.lt_iff_toInt_lt.mp (Int32.not_le.mp c_3)
  have r_x20_5_13 := wi_rng x20_5_13
  omega
theorem om_k_X9_listActive_7 (x20_5_13 : Int32) (v3_13 : Int32) (cn : Int32) (hn_13 : 0 ≤ v3_13.toInt) (hw0_13 : 0 ≤ (x20_5_13 : Int32).toInt) (c_3 : ¬ (cn ≤ v3_13)) : 0 ≤ (x20_5_13 : Int32).toInt := by
  have f_0 := hn_13
  have f_1 := hw0_13
  have f_2 := Int32.lt_iff_toInt_lt.mp (Int32.not_le.mp c_3)
  have r_x20_5_13 := wi_rng x20_5_13
  omega
theorem om_k_X9_listActive_8 : 0 ≤ (0 : Int32).toInt := by
  have nl_0 : (0 : Int32).toInt = 0 := rfl
  omega
set_option maxHeartbeats 4000000 in
set_option maxRecDepth 100000 in
theorem k_X9_listActive (l : Launch) (D : va_G) (ty : Nat → ClassId) (td mi sz : Nat) (pp : pT) (X : Nat → Nat) (pn : Int32) (rn : Int32) (tn : Int32) (en : Int32) (rf : Nat → Option Nat) (an : Int32) (ch : Int32) (cg : Int32) (fb : Int32) (mh : Int32) (ml : Int32) (ih : Int32) (lb : Int32) (ic : Int32) (cn : Int32) (c1 : Nat → Int32) (c2 : Nat → Int32) (c3 : Nat → Int32) (c4 : Nat → Int32) (ac : Nat → Int32) (obi : Nat → Int32) (sc : Nat → Int32) (a1 : Int32) (hok : pOK pp) (hru : ∀ (i a : Nat), rf i = some a → a ∈ pRA pp) (TT : r_k_X9_listActive) (hTT : TT = m_k_X9_listActive pp rn rf cg cn c1 c2 c3 c4 ac obi sc a1) : Met l yX9_listActive vs_k_X9_listActive { frames := 4, cells := 0, slots := 0, locals := 91 } (va_Pc [.ref (X 20), .int a1] (wq_P D ty td mi ((wW_k_X9_listActive ty X pn rn tn en rf an ch cg fb mh ml ih lb ic cn c1 c2 c3 c4 ac obi sc) ++ pw ty pp) sz)) (va_Qv (fun u : va_W => ((u = ((wW_k_X9_listActive ty X pn rn tn en rf TT.1 ch cg fb mh ml ih lb ic cn c1 c2 c3 c4 TT.2 obi sc) ++ pw ty pp)))) (wq_B D (va_A ((wW_k_X9_listActive ty X pn rn tn en rf an ch cg fb mh ml ih lb ic cn c1 c2 c3 c4 ac obi sc) ++ pw ty pp) sz)) (va_A ((wW_k_X9_listActive ty X pn rn tn en rf an ch cg fb mh ml ih lb ic cn c1 c2 c3 c4 ac obi sc) ++ pw ty pp) sz)) 0 0 (va_A ((wW_k_X9_listActive ty X pn rn tn en rf an ch cg fb mh ml ih lb ic cn c1 c2 c3 c4 ac obi sc) ++ pw ty pp) sz) := by
  refine Met.ofW (cc := cX9_listActive) (maxL := 5) (ret := none) (by decide) rfl ?_
  intro p e s m args below meth c s₁ B hml hv
  obtain ⟨rfl, hsz, hP, hK, hD0, hE⟩ := hv
  have hx := B.exec
  have hb := B.bytes
  have hr := B.returns
  have hts := atoms_spec (ws := vs_k_X9_listActive) B.pre
  have hown : s.vm.findClass RX9 = some m.cls := findClass_of_methodNamed B.named
  have hlocks := B.notSynchronized
  subst hsz
  have hD := hD0.self (sz := s.heap.size)
  generalize hAe : va_A ((wW_k_X9_listActive ty X pn rn tn en rf an ch cg fb mh ml ih lb ic cn c1 c2 c3 c4 ac obi sc) ++ pw ty pp) s.heap.size = A at hD hE ⊢
  have hA : ∀ q : Nat, s.heap.size ≤ q → A q := fun q h => by rw [← hAe]; exact Or.inr h
  have hS : va_S A s.heap s.heap [] := va_S.rf
  have hP : va_P D vwCl ((wW_k_X9_listActive ty X pn rn tn en rf an ch cg fb mh ml ih lb ic cn c1 c2 c3 c4 ac obi sc) ++ pw ty pp) s.heap := hP
  have hl := lv_entry ([.ref (X 20), .int a1]) (n := 5) (Nat.le_of_ble_eq_true rfl)
  rw [lg_entry_eq]
  generalize (lg_sl ([.ref (X 20), .int a1]) ++ List.replicate (5 - (lg_sl ([.ref (X 20), .int a1])).length) Slot.unset).toArray = ls at hl ⊢
  have hl : lv_has ls 5 [(0, .ref (X 20)), (1, .int a1)] := hl
  have END : ∀ (w9_0 : Int32) (w9_1 : Nat → Int32), TT = (w9_0, w9_1) → ∀ (H : Heap) (locs : List Loc), va_P D vwCl ((wW_k_X9_listActive ty X pn rn tn en rf w9_0 ch cg fb mh ml ih lb ic cn c1 c2 c3 c4 w9_1 obi sc) ++ pw ty pp) H → va_D A ((wW_k_X9_listActive ty X pn rn tn en rf w9_0 ch cg fb mh ml ih lb ic cn c1 c2 c3 c4 w9_1 obi sc) ++ pw ty pp) → va_S A s.heap H locs → ∀ (ls : Array Slot) (pc : Nat), decode cX9_listActive pc = .ok (.return_, 1) → W p l e (headSpec vs_k_X9_listActive { frames := 4, cells := 0, slots := 0, locals := 91 }).room s m ([.ref (X 20), .int a1] : List Value).toArray below meth c H locs 0 0 (MQ below (va_Qv (fun u : va_W => ((u = ((wW_k_X9_listActive ty X pn rn tn en rf TT.1 ch cg fb mh ml ih lb ic cn c1 c2 c3 c4 TT.2 obi sc) ++ pw ty pp)))) (wq_B D A) A) ([.ref (X 20), .int a1] : List Value).toArray s 0 0 A) (F0 m pc ls []) := by
    intro w9_0 w9_1 hT H locs hP hD hS ls pc hd
    have hM : TT = (w9_0, w9_1) := hT
    exact W.vret hx hb hr (fun t ht hW => ⟨⟨((wW_k_X9_listActive ty X pn rn tn en rf w9_0 ch cg fb mh ml ih lb ic cn c1 c2 c3 c4 w9_1 obi sc) ++ pw ty pp), rfl, (by rw [hM]), wq_B.of ht hP hD⟩, hS.F ht⟩) hS.2.2 hd
  have hT := hTT
  rw [m_k_X9_listActive] at hT
  refine lv_aload_n hx hb dX9_listActive_0 rfl (lv_at hl 0 rfl) ?_
  refine lv_iload_n hx hb dX9_listActive_1 rfl (lv_at hl 1 rfl) ?_
  obtain ⟨t_2, ht_2⟩ : ∃ t, t = m_k_X9_countsHeld pp rn rf cg obi sc a1 := ⟨_, rfl⟩
  rw [lE_eq ht_2] at hT
  refine wq_iPW (wc := (wW_k_X9_countsHeld ty X pn rn tn en rf an ch cg fb mh ml ih lb ic obi sc)) (pl := pw ty pp) (ux := (wW_k_X9_countsHeld ty X pn rn tn en rf an ch cg fb mh ml ih lb ic obi sc)) (va_runV (As := [.int a1]) (rest := []) ⟨hx, hb, hml, hown, hts⟩ (k_X9_countsHeld l D ty td mi s.heap.size pp X pn rn tn en rf an ch cg fb mh ml ih lb ic obi sc a1 hok hru t_2 ht_2) (cwV 1 hts gv_k_X9_listActive_0 rfl rfl rfl (by decide +kernel) ⟨(Nat.le_of_ble_eq_true rfl), (Nat.le_of_ble_eq_true rfl)⟩) (wm_V (wm_preSP hP hD hK hE hS hA [true, true, true, false, false, false, false, false, false, true, true] rfl) (va_recv (q0 := 2) (ci := 11) hK hP rfl rfl)) rfl rfl hl.1 rfl (lv_room (Nat.le_of_ble_eq_true rfl)) dX9_listActive_2 ⟨(Nat.le_of_ble_eq_true rfl), (Nat.le_of_ble_eq_true rfl)⟩) hS hA hP hD [true, true, true, false, false, false, false, false, false, true, true] rfl rfl (fun _ _ h => h.2) (fun r H locs hw hP hD hS => ?_)
  obtain ⟨hr0, -⟩ := hw
  subst r
  have hP : va_P D vwCl ((wW_k_X9_listActive ty X pn rn tn en rf an ch cg fb mh ml ih lb ic cn c1 c2 c3 c4 ac obi sc) ++ pw ty pp) H := hP
  have hD : va_D A ((wW_k_X9_listActive ty X pn rn tn en rf an ch cg fb mh ml ih lb ic cn c1 c2 c3 c4 ac obi sc) ++ pw ty pp) := hD
  refine W.widen (k := 0) (n := 0) (Nat.le_of_ble_eq_true rfl) (Nat.le_of_ble_eq_true rfl) ?_
  refine lv_istore_n (lv' := [(2, .int t_2), (0, .ref (X 20)), (1, .int a1)]) hx hb dX9_listActive_5 rfl hl (by decide) rfl (fun ls hl => ?_)
  refine lv_aload_n hx hb dX9_listActive_6 rfl (lv_at hl 1 rfl) ?_
  refine lv_iconst (v := 0) hx hb dX9_listActive_7 (by decide) ?_
  refine va_put (D := D) (ci := 11) (v := .int 0) (ty := tyX9 5) (C := RX9) (T := TX9) (N := 17) hx hb hts iv_k_X9_listActive_X9 tyX9 tyX9_ok nmX9 hown hK hP hD hS 2 rfl rfl 5 (by decide) (hts (.fieldLink RX9 276 "AnswerFold$Solver" "activeCount" "I") (by decide +kernel)) (fun _ h9 => h9) rfl (by decide +kernel) rfl rfl (Nat.le_of_ble_eq_true rfl) dX9_listActive_8 (fun H locs hP hD hS => ?_)
  have hP : va_P D vwCl ((wW_k_X9_listActive ty X pn rn tn en rf (0) ch cg fb mh ml ih lb ic cn c1 c2 c3 c4 ac obi sc) ++ pw ty pp) H := hP
  have hD : va_D A ((wW_k_X9_listActive ty X pn rn tn en rf (0) ch cg fb mh ml ih lb ic cn c1 c2 c3 c4 ac obi sc) ++ pw ty pp) := hD
  refine lv_iconst (v := 0) hx hb dX9_listActive_11 (by decide) ?_
  refine lv_istore_n (lv' := [(3, .int 0), (2, .int t_2), (0, .ref (X 20)), (1, .int a1)]) hx hb dX9_listActive_12 rfl hl (by decide) rfl (fun ls hl => ?_)
  have L_13 : ∀ (n_13 : Nat) (v3_13 : Int32) (x20_5_13 : Int32) (x35_f_13 : Nat → Int32), (2147483648 - v3_13.toInt).toNat < n_13 → TT = m_k_X9_listActive_13 cn c1 c2 c3 c4 a1 t_2 n_13 v3_13 x20_5_13 x35_f_13 → 0 ≤ v3_13.toInt → 0 ≤ (x20_5_13 : Int32).toInt → ∀ (H : Heap) (locs : List Loc), va_P D vwCl ((wW_k_X9_listActive ty X pn rn tn en rf x20_5_13 ch cg fb mh ml ih lb ic cn c1 c2 c3 c4 x35_f_13 obi sc) ++ pw ty pp) H → va_D A ((wW_k_X9_listActive ty X pn rn tn en rf x20_5_13 ch cg fb mh ml ih lb ic cn c1 c2 c3 c4 x35_f_13 obi sc) ++ pw ty pp) → va_S A s.heap H locs → ∀ ls : Array Slot, lv_has ls 5 [(0, .ref (X 20)), (1, .int a1), (2, .int t_2), (3, .int v3_13)] → W p l e (headSpec vs_k_X9_listActive { frames := 4, cells := 0, slots := 0, locals := 91 }).room s m ([.ref (X 20), .int a1] : List Value).toArray below meth c H locs 0 0 (MQ below (va_Qv (fun u : va_W => ((u = ((wW_k_X9_listActive ty X pn rn tn en rf TT.1 ch cg fb mh ml ih lb ic cn c1 c2 c3 c4 TT.2 obi sc) ++ pw ty pp)))) (wq_B D A) A) ([.ref (X 20), .int a1] : List Value).toArray s 0 0 A) (F0 m 13 ls []) := by
    intro n_13
    induction n_13 with
    | zero => intro v3_13 x20_5_13 x35_f_13 hu; exact absurd hu (Nat.not_lt_zero _)
    | succ n_13 ih_13 =>
      intro v3_13 x20_5_13 x35_f_13 hu_13 hT hn_13 hw0_13 H locs hP hD hS ls hl
      rw [m_k_X9_listActive_13_succ, m_k_X9_listActive_13s] at hT
      refine lv_iload_n hx hb dX9_listActive_13 rfl (lv_at hl 3 rfl) ?_
      refine lv_aload_n hx hb dX9_listActive_14 rfl (lv_at hl 0 rfl) ?_
      refine va_get (D := D) (ci := 11) (v := .ref (X 21)) (C := RX9) (T := TX9) (N := 17) hx hb hts iv_k_X9_listActive_X9 hown hK hP 2 rfl rfl 2 (by decide) (hts (.fieldLink RX9 12 "AnswerFold$Solver" "checks" "LAnswerFold$Rows;") (by decide +kernel)) (fun _ h9 => h9) rfl dX9_listActive_15 ?_
      refine va_getN (D := D) (ci := 9) (v := .int cn) (C := RX7) (T := TX7) (N := 7) hx hb hts iv_k_X9_listActive_X7 hown hK hP 3 rfl rfl 6 (by decide) (hE.at (.fieldLinkNest "AnswerFold$Solver" 93 "AnswerFold$Rows" "count" "I" "AnswerFold") (by decide +kernel)) (fun _ h9 => h9) rfl dX9_listActive_18 ?_
      refine lv_icmp_ge (tgt := 98) hx hb dX9_listActive_21 (by decide) (fun c_3 => ?_) (fun c_3 => ?_)
      · rw [if_pos c_3] at hT
        exact END x20_5_13 x35_f_13 hT _ _ hP hD hS _ _ dX9_listActive_98
      · rw [if_neg c_3] at hT
        refine lv_aload_n hx hb dX9_listActive_24 rfl (lv_at hl 0 rfl) ?_
        refine va_get (D := D) (ci := 11) (v := .ref (X 21)) (C := RX9) (T := TX9) (N := 17) hx hb hts iv_k_X9_listActive_X9 hown hK hP 2 rfl rfl 2 (by decide) (hts (.fieldLink RX9 12 "AnswerFold$Solver" "checks" "LAnswerFold$Rows;") (by decide +kernel)) (fun _ h9 => h9) rfl dX9_listActive_25 ?_
        refine lv_iload_n hx hb dX9_listActive_28 rfl (lv_at hl 3 rfl) ?_
        obtain ⟨t_29, ht_29⟩ : ∃ t, t = m_k_X7_headsAt c4 v3_13 := ⟨_, rfl⟩
        rw [lE_eq ht_29] at hT
        refine wq_iQW (wc := (wW_k_X7_headsAt ty (X 21) (X 22) (X 23) (X 24) (X 25) (X 26) (X 27) cn c4)) (pl := pw ty pp) (va_runV (As := [.int v3_13]) (rest := []) ⟨hx, hb, hml, hown, hts⟩ (k_X7_headsAt l D ty td mi H.size (X 21) (X 22) (X 23) (X 24) (X 25) (X 26) (X 27) cn c4 v3_13 t_29 ht_29) (cwV 1 hts gv_k_X9_listActive_1 rfl rfl rfl (by decide +kernel) ⟨(Nat.le_of_ble_eq_true rfl), (Nat.le_of_ble_eq_true rfl)⟩) (wm_V (wm_preS (vP_left hP) (vD_left hD) hK hE hS hA [false, false, false, true, false, false, false, true] rfl) (va_recv (q0 := 3) (ci := 9) hK hP rfl rfl)) rfl rfl hl.1 rfl (lv_room (Nat.le_of_ble_eq_true rfl)) dX9_listActive_29 ⟨(Nat.le_of_ble_eq_true rfl), (Nat.le_of_ble_eq_true rfl)⟩) hS hA hP hD [false, false, false, true, false, false, false, true] rfl (fun _ _ h => by rcases h with ⟨-, rfl⟩; rfl) (fun r u H locs hw hP hD hS => ?_)
        obtain ⟨hr0, rfl⟩ := hw
        subst r
        have hP : va_P D vwCl ((wW_k_X9_listActive ty X pn rn tn en rf x20_5_13 ch cg fb mh ml ih lb ic cn c1 c2 c3 c4 x35_f_13 obi sc) ++ pw ty pp) H := hP
        have hD : va_D A ((wW_k_X9_listActive ty X pn rn tn en rf x20_5_13 ch cg fb mh ml ih lb ic cn c1 c2 c3 c4 x35_f_13 obi sc) ++ pw ty pp) := hD
        refine W.widen (k := 0) (n := 0) (Nat.le_of_ble_eq_true rfl) (Nat.le_of_ble_eq_true rfl) ?_
        refine lv_iload_n hx hb dX9_listActive_32 rfl (lv_at hl 1 rfl) ?_
        refine lv_iand hx hb dX9_listActive_33 ?_
        have J_42 : ∀ (s0_42 : Int32), TT = m_k_X9_listActive_42 c1 c2 c3 a1 (m_k_X9_listActive_13 cn c1 c2 c3 c4 a1 t_2 n_13) t_2 v3_13 x20_5_13 x35_f_13 s0_42 → 0 ≤ (x20_5_13 : Int32).toInt → s0_42 = 0 ∨ s0_42 = 1 → ∀ (H : Heap) (locs : List Loc), va_P D vwCl ((wW_k_X9_listActive ty X pn rn tn en rf x20_5_13 ch cg fb mh ml ih lb ic cn c1 c2 c3 c4 x35_f_13 obi sc) ++ pw ty pp) H → va_D A ((wW_k_X9_listActive ty X pn rn tn en rf x20_5_13 ch cg fb mh ml ih lb ic cn c1 c2 c3 c4 x35_f_13 obi sc) ++ pw ty pp) → va_S A s.heap H locs → ∀ ls : Array Slot, lv_has ls 5 [(0, .ref (X 20)), (1, .int a1), (2, .int t_2), (3, .int v3_13)] → W p l e (headSpec vs_k_X9_listActive { frames := 4, cells := 0, slots := 0, locals := 91 }).room s m ([.ref (X 20), .int a1] : List Value).toArray below meth c H locs 0 0 (MQ below (va_Qv (fun u : va_W => ((u = ((wW_k_X9_listActive ty X pn rn tn en rf TT.1 ch cg fb mh ml ih lb ic cn c1 c2 c3 c4 TT.2 obi sc) ++ pw ty pp)))) (wq_B D A) A) ([.ref (X 20), .int a1] : List Value).toArray s 0 0 A) (F0 m 42 ls [.int s0_42]) := by
          intro s0_42 hT hw0_42 hb_s0_42 H locs hP hD hS ls hl
          rw [m_k_X9_listActive_42] at hT
          refine lv_istore (lv' := [(4, .int s0_42), (0, .ref (X 20)), (1, .int a1), (2, .int t_2), (3, .int v3_13)]) hx hb dX9_listActive_42 hl (by decide) rfl (fun ls hl => ?_)
          refine lv_iload hx hb dX9_listActive_44 (lv_at hl 0 rfl) ?_
          have J_92 : ∀ (x20_5_92 : Int32) (x35_f_92 : Nat → Int32), TT = m_k_X9_listActive_92 (m_k_X9_listActive_13 cn c1 c2 c3 c4 a1 t_2 n_13) v3_13 x20_5_92 x35_f_92 → 0 ≤ (x20_5_92 : Int32).toInt → ∀ (H : Heap) (locs : List Loc), va_P D vwCl ((wW_k_X9_listActive ty X pn rn tn en rf x20_5_92 ch cg fb mh ml ih lb ic cn c1 c2 c3 c4 x35_f_92 obi sc) ++ pw ty pp) H → va_D A ((wW_k_X9_listActive ty X pn rn tn en rf x20_5_92 ch cg fb mh ml ih lb ic cn c1 c2 c3 c4 x35_f_92 obi sc) ++ pw ty pp) → va_S A s.heap H locs → ∀ ls : Array Slot, lv_has ls 5 [(0, .ref (X 20)), (1, .int a1), (2, .int t_2), (3, .int v3_13)] → W p l e (headSpec vs_k_X9_listActive { frames := 4, cells := 0, slots := 0, locals := 91 }).room s m ([.ref (X 20), .int a1] : List Value).toArray below meth c H locs 0 0 (MQ below (va_Qv (fun u : va_W => ((u = ((wW_k_X9_listActive ty X pn rn tn en rf TT.1 ch cg fb mh ml ih lb ic cn c1 c2 c3 c4 TT.2 obi sc) ++ pw ty pp)))) (wq_B D A) A) ([.ref (X 20), .int a1] : List Value).toArray s 0 0 A) (F0 m 92 ls []) := by
            intro x20_5_92 x35_f_92 hT hw0_92 H locs hP hD hS ls hl
            rw [m_k_X9_listActive_92] at hT
            refine lv_iinc (v := v3_13 + 1) (lv' := [(3, .int (v3_13 + 1)), (0, .ref (X 20)), (1, .int a1), (2, .int t_2)]) hx hb dX9_listActive_92 hl (k := 3) rfl (by rfl) (by decide) rfl (fun ls hl => ?_)
            refine lv_goto (tgt := 13) hx hb dX9_listActive_95 (by decide) ?_
            exact ih_13 (v3_13 + 1) x20_5_92 x35_f_92 (wi_up hu_13 (Int32.not_le.mp c_3)) hT (wi_inc hn_13 (Int32.not_le.mp c_3)) (om_k_X9_listActive_0 x20_5_92 v3_13 x20_5_13 cn hn_13 hw0_13 c_3 hw0_42 hw0_92) _ _ hP hD hS _ (lv_sub hl [1, 2, 3, 0] rfl)
          refine lv_if_eq (tgt := 92) hx hb dX9_listActive_46 (by decide) (fun c_6 => ?_) (fun c_6 => ?_)
          · rw [if_pos c_6] at hT
            exact J_92 x20_5_13 x35_f_13 hT (om_k_X9_listActive_1 x20_5_13 v3_13 cn s0_42 hn_13 hw0_13 c_3 hw0_42 c_6) _ _ hP hD hS _ (lv_sub hl [1, 2, 3, 4] rfl)
          · rw [if_neg c_6] at hT
            refine lv_aload_n hx hb dX9_listActive_49 rfl (lv_at hl 1 rfl) ?_
            refine va_get (D := D) (ci := 11) (v := .ref (X 21)) (C := RX9) (T := TX9) (N := 17) hx hb hts iv_k_X9_listActive_X9 hown hK hP 2 rfl rfl 2 (by decide) (hts (.fieldLink RX9 12 "AnswerFold$Solver" "checks" "LAnswerFold$Rows;") (by decide +kernel)) (fun _ h9 => h9) rfl dX9_listActive_50 ?_
            refine lv_iload_n hx hb dX9_listActive_53 rfl (lv_at hl 4 rfl) ?_
            refine lv_iload_n hx hb dX9_listActive_54 rfl (lv_at hl 2 rfl) ?_
            refine lv_iload_n hx hb dX9_listActive_55 rfl (lv_at hl 3 rfl) ?_
            obtain ⟨t_56, ht_56⟩ : ∃ t, t = m_k_X7_bodyHolds c1 c2 c3 v3_13 a1 t_2 := ⟨_, rfl⟩
            rw [lE_eq ht_56] at hT
            refine wq_iQW (wc := (wW_k_X7_bodyHolds ty (X 21) (X 22) (X 23) (X 24) (X 25) (X 26) (X 27) cn c1 c2 c3)) (pl := pw ty pp) (va_runV (As := [.int v3_13, .int a1, .int t_2]) (rest := []) ⟨hx, hb, hml, hown, hts⟩ (k_X7_bodyHolds l D ty td mi H.size (X 21) (X 22) (X 23) (X 24) (X 25) (X 26) (X 27) cn c1 c2 c3 v3_13 a1 t_2 t_56 ht_56) (cwV 3 hts gv_k_X9_listActive_2 rfl rfl rfl (by decide +kernel) ⟨(Nat.le_of_ble_eq_true rfl), (Nat.le_of_ble_eq_true rfl)⟩) (wm_V (wm_preS (vP_left hP) (vD_left hD) hK hE hS hA [false, false, false, true, true, true, true] rfl) (va_recv (q0 := 3) (ci := 9) hK hP rfl rfl)) rfl rfl hl.1 rfl (lv_room (Nat.le_of_ble_eq_true rfl)) dX9_listActive_56 ⟨(Nat.le_of_ble_eq_true rfl), (Nat.le_of_ble_eq_true rfl)⟩) hS hA hP hD [false, false, false, true, true, true, true] rfl (fun _ _ h => by rcases h with ⟨-, -, rfl⟩; rfl) (fun r u H locs hw hP hD hS => ?_)
            obtain ⟨hr0, c_9, rfl⟩ := hw
            subst r
            have hP : va_P D vwCl ((wW_k_X9_listActive ty X pn rn tn en rf x20_5_13 ch cg fb mh ml ih lb ic cn c1 c2 c3 c4 x35_f_13 obi sc) ++ pw ty pp) H := hP
            have hD : va_D A ((wW_k_X9_listActive ty X pn rn tn en rf x20_5_13 ch cg fb mh ml ih lb ic cn c1 c2 c3 c4 x35_f_13 obi sc) ++ pw ty pp) := hD
            refine W.widen (k := 0) (n := 0) (Nat.le_of_ble_eq_true rfl) (Nat.le_of_ble_eq_true rfl) ?_
            refine lv_if_eq (tgt := 92) hx hb dX9_listActive_59 (by decide) (fun c_10 => ?_) (fun c_10 => ?_)
            · rw [if_pos c_10] at hT
              exact J_92 x20_5_13 x35_f_13 hT (om_k_X9_listActive_2 x20_5_13 v3_13 cn s0_42 t_56 hn_13 hw0_13 c_3 hw0_42 c_6 c_10) _ _ hP hD hS _ (lv_sub hl [1, 2, 3, 4] rfl)
            · rw [if_neg c_10] at hT
              refine lv_aload_n hx hb dX9_listActive_62 rfl (lv_at hl 1 rfl) ?_
              refine va_get (D := D) (ci := 11) (v := .int x20_5_13) (C := RX9) (T := TX9) (N := 17) hx hb hts iv_k_X9_listActive_X9 hown hK hP 2 rfl rfl 5 (by decide) (hts (.fieldLink RX9 276 "AnswerFold$Solver" "activeCount" "I") (by decide +kernel)) (fun _ h9 => h9) rfl dX9_listActive_63 ?_
              refine lv_sipush (v := 300) hx hb dX9_listActive_66 (by decide) ?_
              refine lv_icmp_ge (tgt := 92) hx hb dX9_listActive_69 (by decide) (fun c_11 => ?_) (fun c_11 => ?_)
              · rw [if_pos c_11] at hT
                exact J_92 x20_5_13 x35_f_13 hT (om_k_X9_listActive_3 x20_5_13 v3_13 cn s0_42 t_56 hn_13 hw0_13 c_3 hw0_42 c_6 c_10 c_11) _ _ hP hD hS _ (lv_sub hl [1, 2, 3, 4] rfl)
              · rw [if_neg c_11] at hT
                refine lv_aload_n hx hb dX9_listActive_72 rfl (lv_at hl 1 rfl) ?_
                refine va_get (D := D) (ci := 11) (v := .ref (X 35)) (C := RX9) (T := TX9) (N := 17) hx hb hts iv_k_X9_listActive_X9 hown hK hP 2 rfl rfl 4 (by decide) (hts (.fieldLink RX9 21 "AnswerFold$Solver" "active" "[I") (by decide +kernel)) (fun _ h9 => h9) rfl dX9_listActive_73 ?_
                refine lv_aload_n hx hb dX9_listActive_76 rfl (lv_at hl 1 rfl) ?_
                refine va_get (D := D) (ci := 11) (v := .int x20_5_13) (C := RX9) (T := TX9) (N := 17) hx hb hts iv_k_X9_listActive_X9 hown hK hP 2 rfl rfl 5 (by decide) (hts (.fieldLink RX9 276 "AnswerFold$Solver" "activeCount" "I") (by decide +kernel)) (fun _ h9 => h9) rfl dX9_listActive_77 ?_
                refine lv_iload_n hx hb dX9_listActive_80 rfl (lv_at hl 4 rfl) ?_
                refine va_iast (D := D) hx hb hK hP hD hS 8 0 rfl rfl (om_k_X9_listActive_4 x20_5_13 v3_13 cn s0_42 t_56 hn_13 hw0_13 c_3 hw0_42 c_6 c_10 c_11) dX9_listActive_81 (fun H locs hP hD hS => ?_)
                have hP : va_P D vwCl ((wW_k_X9_listActive ty X pn rn tn en rf x20_5_13 ch cg fb mh ml ih lb ic cn c1 c2 c3 c4 (upd x35_f_13 x20_5_13.toNatClampNeg v3_13) obi sc) ++ pw ty pp) H := hP
                have hD : va_D A ((wW_k_X9_listActive ty X pn rn tn en rf x20_5_13 ch cg fb mh ml ih lb ic cn c1 c2 c3 c4 (upd x35_f_13 x20_5_13.toNatClampNeg v3_13) obi sc) ++ pw ty pp) := hD
                refine lv_aload_n hx hb dX9_listActive_82 rfl (lv_at hl 1 rfl) ?_
                refine lv_dup hx hb dX9_listActive_83 rfl ?_
                refine va_get (D := D) (ci := 11) (v := .int x20_5_13) (C := RX9) (T := TX9) (N := 17) hx hb hts iv_k_X9_listActive_X9 hown hK hP 2 rfl rfl 5 (by decide) (hts (.fieldLink RX9 276 "AnswerFold$Solver" "activeCount" "I") (by decide +kernel)) (fun _ h9 => h9) rfl dX9_listActive_84 ?_
                refine lv_iconst (v := 1) hx hb dX9_listActive_87 (by decide) ?_
                refine lv_iadd hx hb dX9_listActive_88 ?_
                refine va_put (D := D) (ci := 11) (v := .int (x20_5_13 + 1)) (ty := tyX9 5) (C := RX9) (T := TX9) (N := 17) hx hb hts iv_k_X9_listActive_X9 tyX9 tyX9_ok nmX9 hown hK hP hD hS 2 rfl rfl 5 (by decide) (hts (.fieldLink RX9 276 "AnswerFold$Solver" "activeCount" "I") (by decide +kernel)) (fun _ h9 => h9) rfl (by decide +kernel) rfl rfl (Nat.le_of_ble_eq_true rfl) dX9_listActive_89 (fun H locs hP hD hS => ?_)
                have hP : va_P D vwCl ((wW_k_X9_listActive ty X pn rn tn en rf (x20_5_13 + 1) ch cg fb mh ml ih lb ic cn c1 c2 c3 c4 (upd x35_f_13 x20_5_13.toNatClampNeg v3_13) obi sc) ++ pw ty pp) H := hP
                have hD : va_D A ((wW_k_X9_listActive ty X pn rn tn en rf (x20_5_13 + 1) ch cg fb mh ml ih lb ic cn c1 c2 c3 c4 (upd x35_f_13 x20_5_13.toNatClampNeg v3_13) obi sc) ++ pw ty pp) := hD
                exact J_92 (x20_5_13 + 1) (upd x35_f_13 x20_5_13.toNatClampNeg v3_13) hT (om_k_X9_listActive_5 x20_5_13 v3_13 cn s0_42 t_56 hn_13 hw0_13 c_3 hw0_42 c_6 c_10 c_11) _ _ hP hD hS _ (lv_sub hl [1, 2, 3, 4] rfl)
        refine lv_if_eq (tgt := 41) hx hb dX9_listActive_34 (by decide) (fun c_12 => ?_) (fun c_12 => ?_)
        · rw [if_pos c_12] at hT
          refine lv_iconst (v := 0) hx hb dX9_listActive_41 (by decide) ?_
          exact J_42 0 hT (om_k_X9_listActive_6 x20_5_13 v3_13 cn hn_13 hw0_13 c_3) (by decide) _ _ hP hD hS _ (lv_sub hl [0, 1, 2, 3] rfl)
        · rw [if_neg c_12] at hT
          refine lv_iconst (v := 1) hx hb dX9_listActive_37 (by decide) ?_
          refine lv_goto (tgt := 42) hx hb dX9_listActive_38 (by decide) ?_
          exact J_42 1 hT (om_k_X9_listActive_7 x20_5_13 v3_13 cn hn_13 hw0_13 c_3) (by decide) _ _ hP hD hS _ (lv_sub hl [0, 1, 2, 3] rfl)
  exact L_13 wF 0 0 ac (wF_up 0) hT (by decide) (om_k_X9_listActive_8) _ _ hP hD hS _ (lv_sub hl [2, 3, 1, 0] rfl)
theorem dX9_grow_0 : decode cX9_grow 0 = .ok (.iload_n 1, 1) := by decide +kernel
theorem dX9_grow_1 : decode cX9_grow 1 = .ok (.istore_n 3, 1) := by decide +kernel
theorem dX9_grow_2 : decode cX9_grow 2 = .ok (.iconst 1, 1) := by decide +kernel
theorem dX9_grow_3 : decode cX9_grow 3 = .ok (.istore 4, 2) := by decide +kernel
theorem dX9_grow_5 : decode cX9_grow 5 = .ok (.iconst 0, 1) := by decide +kernel
theorem dX9_grow_6 : decode cX9_grow 6 = .ok (.istore 5, 2) := by decide +kernel
theorem dX9_grow_8 : decode cX9_grow 8 = .ok (.iload 4, 2) := by decide +kernel
theorem dX9_grow_10 : decode cX9_grow 10 = .ok (.ifCond .eq 148, 3) := by decide +kernel
theorem dX9_grow_13 : decode cX9_grow 13 = .ok (.iload 5, 2) := by decide +kernel
theorem dX9_grow_15 : decode cX9_grow 15 = .ok (.sipush 1000, 3) := by decide +kernel
theorem dX9_grow_18 : decode cX9_grow 18 = .ok (.if_icmp .ge 140, 3) := by decide +kernel
theorem dX9_grow_21 : decode cX9_grow 21 = .ok (.iload_n 3, 1) := by decide +kernel
theorem dX9_grow_22 : decode cX9_grow 22 = .ok (.istore 6, 2) := by decide +kernel
theorem dX9_grow_24 : decode cX9_grow 24 = .ok (.aload_n 0, 1) := by decide +kernel
theorem dX9_grow_25 : decode cX9_grow 25 = .ok (.iload_n 3, 1) := by decide +kernel
theorem dX9_grow_26 : decode cX9_grow 26 = .ok (.invokevirtual 241, 3) := by decide +kernel
theorem dX9_grow_29 : decode cX9_grow 29 = .ok (.istore 7, 2) := by decide +kernel
theorem dX9_grow_31 : decode cX9_grow 31 = .ok (.iconst 0, 1) := by decide +kernel
theorem dX9_grow_32 : decode cX9_grow 32 = .ok (.istore 8, 2) := by decide +kernel
theorem dX9_grow_34 : decode cX9_grow 34 = .ok (.iload 8, 2) := by decide +kernel
theorem dX9_grow_36 : decode cX9_grow 36 = .ok (.aload_n 0, 1) := by decide +kernel
theorem dX9_grow_37 : decode cX9_grow 37 = .ok (.getfield 276, 3) := by decide +kernel
theorem dX9_grow_40 : decode cX9_grow 40 = .ok (.if_icmp .ge 99, 3) := by decide +kernel
theorem dX9_grow_43 : decode cX9_grow 43 = .ok (.iload 8, 2) := by decide +kernel
theorem dX9_grow_45 : decode cX9_grow 45 = .ok (.sipush 300, 3) := by decide +kernel
theorem dX9_grow_48 : decode cX9_grow 48 = .ok (.if_icmp .ge 91, 3) := by decide +kernel
theorem dX9_grow_51 : decode cX9_grow 51 = .ok (.aload_n 0, 1) := by decide +kernel
theorem dX9_grow_52 : decode cX9_grow 52 = .ok (.getfield 21, 3) := by decide +kernel
theorem dX9_grow_55 : decode cX9_grow 55 = .ok (.iload 8, 2) := by decide +kernel
theorem dX9_grow_57 : decode cX9_grow 57 = .ok (.iaload, 1) := by decide +kernel
theorem dX9_grow_58 : decode cX9_grow 58 = .ok (.istore 9, 2) := by decide +kernel
theorem dX9_grow_60 : decode cX9_grow 60 = .ok (.aload_n 0, 1) := by decide +kernel
theorem dX9_grow_61 : decode cX9_grow 61 = .ok (.getfield 12, 3) := by decide +kernel
theorem dX9_grow_64 : decode cX9_grow 64 = .ok (.iload 9, 2) := by decide +kernel
theorem dX9_grow_66 : decode cX9_grow 66 = .ok (.invokevirtual 279, 3) := by decide +kernel
theorem dX9_grow_69 : decode cX9_grow 69 = .ok (.iload_n 2, 1) := by decide +kernel
theorem dX9_grow_70 : decode cX9_grow 70 = .ok (.iand, 1) := by decide +kernel
theorem dX9_grow_71 : decode cX9_grow 71 = .ok (.istore 10, 2) := by decide +kernel
theorem dX9_grow_73 : decode cX9_grow 73 = .ok (.aload_n 0, 1) := by decide +kernel
theorem dX9_grow_74 : decode cX9_grow 74 = .ok (.iload 9, 2) := by decide +kernel
theorem dX9_grow_76 : decode cX9_grow 76 = .ok (.invokevirtual 287, 3) := by decide +kernel
theorem dX9_grow_79 : decode cX9_grow 79 = .ok (.ifCond .ne 13, 3) := by decide +kernel
theorem dX9_grow_82 : decode cX9_grow 82 = .ok (.iload 10, 2) := by decide +kernel
theorem dX9_grow_84 : decode cX9_grow 84 = .ok (.iload 10, 2) := by decide +kernel
theorem dX9_grow_86 : decode cX9_grow 86 = .ok (.iconst 1, 1) := by decide +kernel
theorem dX9_grow_87 : decode cX9_grow 87 = .ok (.isub, 1) := by decide +kernel
theorem dX9_grow_88 : decode cX9_grow 88 = .ok (.iand, 1) := by decide +kernel
theorem dX9_grow_89 : decode cX9_grow 89 = .ok (.ifCond .ne 7, 3) := by decide +kernel
theorem dX9_grow_92 : decode cX9_grow 92 = .ok (.iconst 1, 1) := by decide +kernel
theorem dX9_grow_93 : decode cX9_grow 93 = .ok (.goto 4, 3) := by decide +kernel
theorem dX9_grow_96 : decode cX9_grow 96 = .ok (.iconst 0, 1) := by decide +kernel
theorem dX9_grow_97 : decode cX9_grow 97 = .ok (.istore 11, 2) := by decide +kernel
theorem dX9_grow_99 : decode cX9_grow 99 = .ok (.iload 11, 2) := by decide +kernel
theorem dX9_grow_101 : decode cX9_grow 101 = .ok (.ifCond .eq 32, 3) := by decide +kernel
theorem dX9_grow_104 : decode cX9_grow 104 = .ok (.iload 10, 2) := by decide +kernel
theorem dX9_grow_106 : decode cX9_grow 106 = .ok (.iload_n 3, 1) := by decide +kernel
theorem dX9_grow_107 : decode cX9_grow 107 = .ok (.iconst (-1), 1) := by decide +kernel
theorem dX9_grow_108 : decode cX9_grow 108 = .ok (.ixor, 1) := by decide +kernel
theorem dX9_grow_109 : decode cX9_grow 109 = .ok (.iand, 1) := by decide +kernel
theorem dX9_grow_110 : decode cX9_grow 110 = .ok (.ifCond .eq 23, 3) := by decide +kernel
theorem dX9_grow_113 : decode cX9_grow 113 = .ok (.aload_n 0, 1) := by decide +kernel
theorem dX9_grow_114 : decode cX9_grow 114 = .ok (.getfield 12, 3) := by decide +kernel
theorem dX9_grow_117 : decode cX9_grow 117 = .ok (.iload 9, 2) := by decide +kernel
theorem dX9_grow_119 : decode cX9_grow 119 = .ok (.iload_n 3, 1) := by decide +kernel
theorem dX9_grow_120 : decode cX9_grow 120 = .ok (.iload 7, 2) := by decide +kernel
theorem dX9_grow_122 : decode cX9_grow 122 = .ok (.invokevirtual 282, 3) := by decide +kernel
theorem dX9_grow_125 : decode cX9_grow 125 = .ok (.ifCond .eq 8, 3) := by decide +kernel
theorem dX9_grow_128 : decode cX9_grow 128 = .ok (.iload_n 3, 1) := by decide +kernel
theorem dX9_grow_129 : decode cX9_grow 129 = .ok (.iload 10, 2) := by decide +kernel
theorem dX9_grow_131 : decode cX9_grow 131 = .ok (.ior, 1) := by decide +kernel
theorem dX9_grow_132 : decode cX9_grow 132 = .ok (.istore_n 3, 1) := by decide +kernel
theorem dX9_grow_133 : decode cX9_grow 133 = .ok (.iinc 8 1, 3) := by decide +kernel
theorem dX9_grow_136 : decode cX9_grow 136 = .ok (.goto (-102), 3) := by decide +kernel
theorem dX9_grow_139 : decode cX9_grow 139 = .ok (.iload_n 3, 1) := by decide +kernel
theorem dX9_grow_140 : decode cX9_grow 140 = .ok (.iload 6, 2) := by decide +kernel
theorem dX9_grow_142 : decode cX9_grow 142 = .ok (.if_icmp .eq 7, 3) := by decide +kernel
theorem dX9_grow_145 : decode cX9_grow 145 = .ok (.iconst 1, 1) := by decide +kernel
theorem dX9_grow_146 : decode cX9_grow 146 = .ok (.goto 4, 3) := by decide +kernel
theorem dX9_grow_149 : decode cX9_grow 149 = .ok (.iconst 0, 1) := by decide +kernel
theorem dX9_grow_150 : decode cX9_grow 150 = .ok (.istore 4, 2) := by decide +kernel
theorem dX9_grow_152 : decode cX9_grow 152 = .ok (.iinc 5 1, 3) := by decide +kernel
theorem dX9_grow_155 : decode cX9_grow 155 = .ok (.goto (-147), 3) := by decide +kernel
theorem dX9_grow_158 : decode cX9_grow 158 = .ok (.iload_n 3, 1) := by decide +kernel
theorem dX9_grow_159 : decode cX9_grow 159 = .ok (.ireturn, 1) := by decide +kernel
def wW_k_X9_grow (ty : Nat → ClassId) (X : Nat → Nat) (z9_0 : Int32) (z9_1 : Int32) (z9_2 : Int32) (z9_3 : Int32) (z9_4 : Nat → Option Nat) (z9_5 : Int32) (z9_6 : Int32) (z9_7 : Int32) (z9_8 : Int32) (z9_9 : Int32) (z9_10 : Int32) (z9_11 : Int32) (z9_12 : Int32) (z9_13 : Int32) (z9_14 : Int32) (z9_15 : Nat → Int32) (z9_16 : Nat → Int32) (z9_17 : Nat → Int32) (z9_18 : Nat → Int32) (z9_19 : Nat → Int32) (z9_20 : Nat → Int32) (z9_21 : Nat → Int32) : va_W := [((X 1), .inr (8, [.ref (X 2), .int z9_0, .ref (X 3), .int z9_1, .ref (X 4), .ref (X 5), .int z9_2, .ref (X 6), .ref (X 7), .int z9_3])), ((X 3), .inl (ty 4, 20, .inr (.inr (.inr (.inr z9_4))))), ((X 20), .inr (11, [.ref (X 1), .ref (X 8), .ref (X 21), .ref (X 28), .ref (X 35), .int z9_5, .ref (X 36), .ref (X 37), .ref (X 38), .int z9_6, .int z9_7, .int z9_8, .int z9_9, .int z9_10, .int z9_11, .int z9_12, .int z9_13])), ((X 21), .inr (9, [.ref (X 22), .ref (X 23), .ref (X 24), .ref (X 25), .ref (X 26), .ref (X 27), .int z9_14])), ((X 22), .inl (ty 0, 300, .inl z9_15)), ((X 23), .inl (ty 0, 300, .inl z9_16)), ((X 24), .inl (ty 0, 300, .inl z9_17)), ((X 25), .inl (ty 0, 300, .inl z9_18)), ((X 35), .inl (ty 0, 300, .inl z9_19)), ((X 36), .inl (ty 0, 6, .inl z9_20)), ((X 37), .inl (ty 0, 6, .inl z9_21))]
def vs_k_X9_grow : List Cond := .code yX9_grow cX9_grow 12 (some .int) :: ([.methodLink RX9 241 yX9_countsHeld, .instanceMethod yX9_countsHeld, .selects RX9 yX9_countsHeld yX9_countsHeld, .initialized RX9, .fieldLink RX9 276 "AnswerFold$Solver" "activeCount" "I", .fieldLink RX9 21 "AnswerFold$Solver" "active" "[I", .fieldLink RX9 12 "AnswerFold$Solver" "checks" "LAnswerFold$Rows;", .methodLink RX9 279 yX7_headsAt, .instanceMethod yX7_headsAt, .selects RX7 yX7_headsAt yX7_headsAt, .initialized RX7, .methodLink RX9 287 yX9_isChoice, .instanceMethod yX9_isChoice, .selects RX9 yX9_isChoice yX9_isChoice, .methodLink RX9 282 yX7_bodyHolds, .instanceMethod yX7_bodyHolds, .selects RX7 yX7_bodyHolds yX7_bodyHolds] ++ (vs_k_X9_countsHeld ++ (u_ws RX9 TX9 17 ++ (vs_k_X7_headsAt ++ (vs_k_X9_isChoice ++ (vs_k_X7_bodyHolds))))))
theorem iv_k_X9_grow_X9 : ∀ w ∈ u_ws RX9 TX9 17, w ∈ vs_k_X9_grow := (fun _ h => List.mem_cons_of_mem _ (List.mem_append_right _ (List.mem_append_right _ (List.mem_append_left _ h))))
set_option maxRecDepth 20000 in
theorem gv_k_X9_grow_0 : GoodIn vs_k_X9_grow (wsV RX9 241 RX9 yX9_countsHeld vs_k_X9_countsHeld) := goodIn_app (goodIn_sub (by decide +kernel) (by decide +kernel)) (goodIn_sub (fun _ h => List.mem_cons_of_mem _ (List.mem_append_right _ (List.mem_append_left _ h))) (by decide +kernel))
set_option maxRecDepth 20000 in
theorem gv_k_X9_grow_1 : GoodIn vs_k_X9_grow (wsV RX9 279 RX7 yX7_headsAt vs_k_X7_headsAt) := goodIn_app (goodIn_sub (by decide +kernel) (by decide +kernel)) (goodIn_sub (fun _ h => List.mem_cons_of_mem _ (List.mem_append_right _ (List.mem_append_right _ (List.mem_append_right _ (List.mem_append_left _ h))))) (by decide +kernel))
set_option maxRecDepth 20000 in
theorem gv_k_X9_grow_2 : GoodIn vs_k_X9_grow (wsV RX9 287 RX9 yX9_isChoice vs_k_X9_isChoice) := goodIn_app (goodIn_sub (by decide +kernel) (by decide +kernel)) (goodIn_sub (fun _ h => List.mem_cons_of_mem _ (List.mem_append_right _ (List.mem_append_right _ (List.mem_append_right _ (List.mem_append_right _ (List.mem_append_left _ h)))))) (by decide +kernel))
set_option maxRecDepth 20000 in
theorem gv_k_X9_grow_3 : GoodIn vs_k_X9_grow (wsV RX9 282 RX7 yX7_bodyHolds vs_k_X7_bodyHolds) := goodIn_app (goodIn_sub (by decide +kernel) (by decide +kernel)) (goodIn_sub (fun _ h => List.mem_cons_of_mem _ (List.mem_append_right _ (List.mem_append_right _ (List.mem_append_right _ (List.mem_append_right _ (List.mem_append_right _ (h))))))) (by decide +kernel))
set_option maxHeartbeats 4000000 in
set_option maxRecDepth 100000 in
theorem k_X9_grow (l : Launch) (D : va_G) (ty : Nat → ClassId) (td mi sz : Nat) (pp : pT) (X : Nat → Nat) (pn : Int32) (rn : Int32) (tn : Int32) (en : Int32) (rf : Nat → Option Nat) (an : Int32) (ch : Int32) (cg : Int32) (fb : Int32) (mh : Int32) (ml : Int32) (ih : Int32) (lb : Int32) (ic : Int32) (cn : Int32) (c1 : Nat → Int32) (c2 : Nat → Int32) (c3 : Nat → Int32) (c4 : Nat → Int32) (ac : Nat → Int32) (obi : Nat → Int32) (sc : Nat → Int32) (a1 : Int32) (a2 : Int32) (hok : pOK pp) (hru : ∀ (i a : Nat), rf i = some a → a ∈ pRA pp) (TT : r_k_X9_grow) (hTT : TT = m_k_X9_grow pp rn rf an ch cg c1 c2 c3 c4 ac obi sc a1 a2) : Met l yX9_grow vs_k_X9_grow { frames := 4, cells := 0, slots := 0, locals := 91 } (va_Pc [.ref (X 20), .int a1, .int a2] (wq_P D ty td mi ((wW_k_X9_grow ty X pn rn tn en rf an ch cg fb mh ml ih lb ic cn c1 c2 c3 c4 ac obi sc) ++ pw ty pp) sz)) (va_Qi (fun (r : Int32) (u : va_W) => (r = TT ∧ (u = ((wW_k_X9_grow ty X pn rn tn en rf an ch cg fb mh ml ih lb ic cn c1 c2 c3 c4 ac obi sc) ++ pw ty pp)))) (wq_B D (va_A ((wW_k_X9_grow ty X pn rn tn en rf an ch cg fb mh ml ih lb ic cn c1 c2 c3 c4 ac obi sc) ++ pw ty pp) sz)) (va_A ((wW_k_X9_grow ty X pn rn tn en rf an ch cg fb mh ml ih lb ic cn c1 c2 c3 c4 ac obi sc) ++ pw ty pp) sz)) 0 0 (va_A ((wW_k_X9_grow ty X pn rn tn en rf an ch cg fb mh ml ih lb ic cn c1 c2 c3 c4 ac obi sc) ++ pw ty pp) sz) := by
  refine Met.ofW (cc := cX9_grow) (maxL := 12) (ret := (some .int)) (by decide) rfl ?_
  intro p e s m args below meth c s₁ B hml hv
  obtain ⟨rfl, hsz, hP, hK, hD0, hE⟩ := hv
  have hx := B.exec
  have hb := B.bytes
  have hr := B.returns
  have hts := atoms_spec (ws := vs_k_X9_grow) B.pre
  have hown : s.vm.findClass RX9 = some m.cls := findClass_of_methodNamed B.named
  have hlocks := B.notSynchronized
  subst hsz
  have hD := hD0.self (sz := s.heap.size)
  generalize hAe : va_A ((wW_k_X9_grow ty X pn rn tn en rf an ch cg fb mh ml ih lb ic cn c1 c2 c3 c4 ac obi sc) ++ pw ty pp) s.heap.size = A at hD hE ⊢
  have hA : ∀ q : Nat, s.heap.size ≤ q → A q := fun q h => by rw [← hAe]; exact Or.inr h
  have hS : va_S A s.heap s.heap [] := va_S.rf
  have hP : va_P D vwCl ((wW_k_X9_grow ty X pn rn tn en rf an ch cg fb mh ml ih lb ic cn c1 c2 c3 c4 ac obi sc) ++ pw ty pp) s.heap := hP
  have hl := lv_entry ([.ref (X 20), .int a1, .int a2]) (n := 12) (Nat.le_of_ble_eq_true rfl)
  rw [lg_entry_eq]
  generalize (lg_sl ([.ref (X 20), .int a1, .int a2]) ++ List.replicate (12 - (lg_sl ([.ref (X 20), .int a1, .int a2])).length) Slot.unset).toArray = ls at hl ⊢
  have hl : lv_has ls 12 [(0, .ref (X 20)), (1, .int a1), (2, .int a2)] := hl
  have END : ∀ (r : Int32), TT = r → ∀ (H : Heap) (locs : List Loc), va_P D vwCl ((wW_k_X9_grow ty X pn rn tn en rf an ch cg fb mh ml ih lb ic cn c1 c2 c3 c4 ac obi sc) ++ pw ty pp) H → va_D A ((wW_k_X9_grow ty X pn rn tn en rf an ch cg fb mh ml ih lb ic cn c1 c2 c3 c4 ac obi sc) ++ pw ty pp) → va_S A s.heap H locs → ∀ (ls : Array Slot) (pc : Nat), decode cX9_grow pc = .ok (.ireturn, 1) → W p l e (headSpec vs_k_X9_grow { frames := 4, cells := 0, slots := 0, locals := 91 }).room s m ([.ref (X 20), .int a1, .int a2] : List Value).toArray below meth c H locs 0 0 (MQ below (va_Qi (fun (r : Int32) (u : va_W) => (r = TT ∧ (u = ((wW_k_X9_grow ty X pn rn tn en rf an ch cg fb mh ml ih lb ic cn c1 c2 c3 c4 ac obi sc) ++ pw ty pp)))) (wq_B D A) A) ([.ref (X 20), .int a1, .int a2] : List Value).toArray s 0 0 A) (F0 m pc ls [.int r]) := by
    intro r hT H locs hP hD hS ls pc hd
    have hM : TT = r := hT
    exact W.iret (v := r) hx hb hr (fun t ht hW => ⟨⟨r, ((wW_k_X9_grow ty X pn rn tn en rf an ch cg fb mh ml ih lb ic cn c1 c2 c3 c4 ac obi sc) ++ pw ty pp), rfl, ⟨(by rw [hM]), rfl⟩, wq_B.of ht hP hD⟩, hS.F ht⟩) hS.2.2 hd
  have hT := hTT
  rw [m_k_X9_grow] at hT
  refine lv_iload_n hx hb dX9_grow_0 rfl (lv_at hl 1 rfl) ?_
  refine lv_istore_n (lv' := [(3, .int a1), (0, .ref (X 20)), (1, .int a1), (2, .int a2)]) hx hb dX9_grow_1 rfl hl (by decide) rfl (fun ls hl => ?_)
  refine lv_iconst (v := 1) hx hb dX9_grow_2 (by decide) ?_
  refine lv_istore (lv' := [(4, .int 1), (3, .int a1), (0, .ref (X 20)), (1, .int a1), (2, .int a2)]) hx hb dX9_grow_3 hl (by decide) rfl (fun ls hl => ?_)
  refine lv_iconst (v := 0) hx hb dX9_grow_5 (by decide) ?_
  refine lv_istore (lv' := [(5, .int 0), (4, .int 1), (3, .int a1), (0, .ref (X 20)), (1, .int a1), (2, .int a2)]) hx hb dX9_grow_6 hl (by decide) rfl (fun ls hl => ?_)
  have L_8 : ∀ (n_8 : Nat) (v3_8 : Int32) (v4_8 : Int32) (v5_8 : Int32), (2147483648 - v5_8.toInt).toNat < n_8 → TT = m_k_X9_grow_8 pp rn rf an ch cg c1 c2 c3 c4 ac obi sc a2 n_8 v3_8 v4_8 v5_8 → 0 ≤ v5_8.toInt → v4_8 = 0 ∨ v4_8 = 1 → ∀ (H : Heap) (locs : List Loc), va_P D vwCl ((wW_k_X9_grow ty X pn rn tn en rf an ch cg fb mh ml ih lb ic cn c1 c2 c3 c4 ac obi sc) ++ pw ty pp) H → va_D A ((wW_k_X9_grow ty X pn rn tn en rf an ch cg fb mh ml ih lb ic cn c1 c2 c3 c4 ac obi sc) ++ pw ty pp) → va_S A s.heap H locs → ∀ ls : Array Slot, lv_has ls 12 [(0, .ref (X 20)), (2, .int a2), (3, .int v3_8), (4, .int v4_8), (5, .int v5_8)] → W p l e (headSpec vs_k_X9_grow { frames := 4, cells := 0, slots := 0, locals := 91 }).room s m ([.ref (X 20), .int a1, .int a2] : List Value).toArray below meth c H locs 0 0 (MQ below (va_Qi (fun (r : Int32) (u : va_W) => (r = TT ∧ (u = ((wW_k_X9_grow ty X pn rn tn en rf an ch cg fb mh ml ih lb ic cn c1 c2 c3 c4 ac obi sc) ++ pw ty pp)))) (wq_B D A) A) ([.ref (X 20), .int a1, .int a2] : List Value).toArray s 0 0 A) (F0 m 8 ls []) := by
    intro n_8
    induction n_8 with
    | zero => intro v3_8 v4_8 v5_8 hu; exact absurd hu (Nat.not_lt_zero _)
    | succ n_8 ih_8 =>
      intro v3_8 v4_8 v5_8 hu_8 hT hn_8 hb_v4_8 H locs hP hD hS ls hl
      rw [m_k_X9_grow_8_succ, m_k_X9_grow_8s] at hT
      refine lv_iload hx hb dX9_grow_8 (lv_at hl 3 rfl) ?_
      refine lv_if_eq (tgt := 158) hx hb dX9_grow_10 (by decide) (fun c_1 => ?_) (fun c_1 => ?_)
      · rw [if_pos c_1] at hT
        refine lv_iload_n hx hb dX9_grow_158 rfl (lv_at hl 2 rfl) ?_
        exact END v3_8 hT _ _ hP hD hS _ _ dX9_grow_159
      · rw [if_neg c_1] at hT
        refine lv_iload hx hb dX9_grow_13 (lv_at hl 4 rfl) ?_
        refine lv_sipush (v := 1000) hx hb dX9_grow_15 (by decide) ?_
        refine lv_icmp_ge (tgt := 158) hx hb dX9_grow_18 (by decide) (fun c_2 => ?_) (fun c_2 => ?_)
        · rw [if_pos c_2] at hT
          refine lv_iload_n hx hb dX9_grow_158 rfl (lv_at hl 2 rfl) ?_
          exact END v3_8 hT _ _ hP hD hS _ _ dX9_grow_159
        · rw [if_neg c_2] at hT
          refine lv_iload_n hx hb dX9_grow_21 rfl (lv_at hl 2 rfl) ?_
          refine lv_istore (lv' := [(6, .int v3_8), (0, .ref (X 20)), (2, .int a2), (3, .int v3_8), (4, .int v4_8), (5, .int v5_8)]) hx hb dX9_grow_22 hl (by decide) rfl (fun ls hl => ?_)
          refine lv_aload_n hx hb dX9_grow_24 rfl (lv_at hl 1 rfl) ?_
          refine lv_iload_n hx hb dX9_grow_25 rfl (lv_at hl 3 rfl) ?_
          obtain ⟨t_26, ht_26⟩ : ∃ t, t = m_k_X9_countsHeld pp rn rf cg obi sc v3_8 := ⟨_, rfl⟩
          rw [lE_eq ht_26] at hT
          refine wq_iPW (wc := (wW_k_X9_countsHeld ty X pn rn tn en rf an ch cg fb mh ml ih lb ic obi sc)) (pl := pw ty pp) (ux := (wW_k_X9_countsHeld ty X pn rn tn en rf an ch cg fb mh ml ih lb ic obi sc)) (va_runV (As := [.int v3_8]) (rest := []) ⟨hx, hb, hml, hown, hts⟩ (k_X9_countsHeld l D ty td mi H.size pp X pn rn tn en rf an ch cg fb mh ml ih lb ic obi sc v3_8 hok hru t_26 ht_26) (cwV 1 hts gv_k_X9_grow_0 rfl rfl rfl (by decide +kernel) ⟨(Nat.le_of_ble_eq_true rfl), (Nat.le_of_ble_eq_true rfl)⟩) (wm_V (wm_preSP hP hD hK hE hS hA [true, true, true, false, false, false, false, false, false, true, true] rfl) (va_recv (q0 := 2) (ci := 11) hK hP rfl rfl)) rfl rfl hl.1 rfl (lv_room (Nat.le_of_ble_eq_true rfl)) dX9_grow_26 ⟨(Nat.le_of_ble_eq_true rfl), (Nat.le_of_ble_eq_true rfl)⟩) hS hA hP hD [true, true, true, false, false, false, false, false, false, true, true] rfl rfl (fun _ _ h => h.2) (fun r H locs hw hP hD hS => ?_)
          obtain ⟨hr0, -⟩ := hw
          subst r
          have hP : va_P D vwCl ((wW_k_X9_grow ty X pn rn tn en rf an ch cg fb mh ml ih lb ic cn c1 c2 c3 c4 ac obi sc) ++ pw ty pp) H := hP
          have hD : va_D A ((wW_k_X9_grow ty X pn rn tn en rf an ch cg fb mh ml ih lb ic cn c1 c2 c3 c4 ac obi sc) ++ pw ty pp) := hD
          refine W.widen (k := 0) (n := 0) (Nat.le_of_ble_eq_true rfl) (Nat.le_of_ble_eq_true rfl) ?_
          refine lv_istore (lv' := [(7, .int t_26), (6, .int v3_8), (0, .ref (X 20)), (2, .int a2), (3, .int v3_8), (4, .int v4_8), (5, .int v5_8)]) hx hb dX9_grow_29 hl (by decide) rfl (fun ls hl => ?_)
          refine lv_iconst (v := 0) hx hb dX9_grow_31 (by decide) ?_
          refine lv_istore (lv' := [(8, .int 0), (7, .int t_26), (6, .int v3_8), (0, .ref (X 20)), (2, .int a2), (3, .int v3_8), (4, .int v4_8), (5, .int v5_8)]) hx hb dX9_grow_32 hl (by decide) rfl (fun ls hl => ?_)
          have L_34 : ∀ (n_34 : Nat) (v3_34 : Int32) (v8_34 : Int32), (2147483648 - v8_34.toInt).toNat < n_34 → TT = m_k_X9_grow_34 an ch c1 c2 c3 c4 ac a2 (m_k_X9_grow_8 pp rn rf an ch cg c1 c2 c3 c4 ac obi sc a2 n_8) t_26 v3_8 v5_8 n_34 v3_34 v8_34 → 0 ≤ v8_34.toInt → ∀ (H : Heap) (locs : List Loc), va_P D vwCl ((wW_k_X9_grow ty X pn rn tn en rf an ch cg fb mh ml ih lb ic cn c1 c2 c3 c4 ac obi sc) ++ pw ty pp) H → va_D A ((wW_k_X9_grow ty X pn rn tn en rf an ch cg fb mh ml ih lb ic cn c1 c2 c3 c4 ac obi sc) ++ pw ty pp) → va_S A s.heap H locs → ∀ ls : Array Slot, lv_has ls 12 [(0, .ref (X 20)), (2, .int a2), (3, .int v3_34), (5, .int v5_8), (6, .int v3_8), (7, .int t_26), (8, .int v8_34)] → W p l e (headSpec vs_k_X9_grow { frames := 4, cells := 0, slots := 0, locals := 91 }).room s m ([.ref (X 20), .int a1, .int a2] : List Value).toArray below meth c H locs 0 0 (MQ below (va_Qi (fun (r : Int32) (u : va_W) => (r = TT ∧ (u = ((wW_k_X9_grow ty X pn rn tn en rf an ch cg fb mh ml ih lb ic cn c1 c2 c3 c4 ac obi sc) ++ pw ty pp)))) (wq_B D A) A) ([.ref (X 20), .int a1, .int a2] : List Value).toArray s 0 0 A) (F0 m 34 ls []) := by
            intro n_34
            induction n_34 with
            | zero => intro v3_34 v8_34 hu; exact absurd hu (Nat.not_lt_zero _)
            | succ n_34 ih_34 =>
              intro v3_34 v8_34 hu_34 hT hn_34 H locs hP hD hS ls hl
              rw [m_k_X9_grow_34_succ, m_k_X9_grow_34s] at hT
              refine lv_iload hx hb dX9_grow_34 (lv_at hl 6 rfl) ?_
              refine lv_aload_n hx hb dX9_grow_36 rfl (lv_at hl 0 rfl) ?_
              refine va_get (D := D) (ci := 11) (v := .int an) (C := RX9) (T := TX9) (N := 17) hx hb hts iv_k_X9_grow_X9 hown hK hP 2 rfl rfl 5 (by decide) (hts (.fieldLink RX9 276 "AnswerFold$Solver" "activeCount" "I") (by decide +kernel)) (fun _ h9 => h9) rfl dX9_grow_37 ?_
              have J_139 : ∀ (_ : Unit), TT = m_k_X9_grow_139 (m_k_X9_grow_8 pp rn rf an ch cg c1 c2 c3 c4 ac obi sc a2 n_8) v3_34 v3_8 v5_8 → ∀ (H : Heap) (locs : List Loc), va_P D vwCl ((wW_k_X9_grow ty X pn rn tn en rf an ch cg fb mh ml ih lb ic cn c1 c2 c3 c4 ac obi sc) ++ pw ty pp) H → va_D A ((wW_k_X9_grow ty X pn rn tn en rf an ch cg fb mh ml ih lb ic cn c1 c2 c3 c4 ac obi sc) ++ pw ty pp) → va_S A s.heap H locs → ∀ ls : Array Slot, lv_has ls 12 [(0, .ref (X 20)), (2, .int a2), (3, .int v3_34), (5, .int v5_8), (6, .int v3_8)] → W p l e (headSpec vs_k_X9_grow { frames := 4, cells := 0, slots := 0, locals := 91 }).room s m ([.ref (X 20), .int a1, .int a2] : List Value).toArray below meth c H locs 0 0 (MQ below (va_Qi (fun (r : Int32) (u : va_W) => (r = TT ∧ (u = ((wW_k_X9_grow ty X pn rn tn en rf an ch cg fb mh ml ih lb ic cn c1 c2 c3 c4 ac obi sc) ++ pw ty pp)))) (wq_B D A) A) ([.ref (X 20), .int a1, .int a2] : List Value).toArray s 0 0 A) (F0 m 139 ls []) := by
                intro _ hT  H locs hP hD hS ls hl
                rw [m_k_X9_grow_139] at hT
                refine lv_iload_n hx hb dX9_grow_139 rfl (lv_at hl 2 rfl) ?_
                refine lv_iload hx hb dX9_grow_140 (lv_at hl 4 rfl) ?_
                have J_150 : ∀ (s0_150 : Int32), TT = m_k_X9_grow_150 (m_k_X9_grow_8 pp rn rf an ch cg c1 c2 c3 c4 ac obi sc a2 n_8) v3_34 v5_8 s0_150 → s0_150 = 0 ∨ s0_150 = 1 → ∀ (H : Heap) (locs : List Loc), va_P D vwCl ((wW_k_X9_grow ty X pn rn tn en rf an ch cg fb mh ml ih lb ic cn c1 c2 c3 c4 ac obi sc) ++ pw ty pp) H → va_D A ((wW_k_X9_grow ty X pn rn tn en rf an ch cg fb mh ml ih lb ic cn c1 c2 c3 c4 ac obi sc) ++ pw ty pp) → va_S A s.heap H locs → ∀ ls : Array Slot, lv_has ls 12 [(0, .ref (X 20)), (2, .int a2), (3, .int v3_34), (5, .int v5_8)] → W p l e (headSpec vs_k_X9_grow { frames := 4, cells := 0, slots := 0, locals := 91 }).room s m ([.ref (X 20), .int a1, .int a2] : List Value).toArray below meth c H locs 0 0 (MQ below (va_Qi (fun (r : Int32) (u : va_W) => (r = TT ∧ (u = ((wW_k_X9_grow ty X pn rn tn en rf an ch cg fb mh ml ih lb ic cn c1 c2 c3 c4 ac obi sc) ++ pw ty pp)))) (wq_B D A) A) ([.ref (X 20), .int a1, .int a2] : List Value).toArray s 0 0 A) (F0 m 150 ls [.int s0_150]) := by
                  intro s0_150 hT hb_s0_150 H locs hP hD hS ls hl
                  rw [m_k_X9_grow_150] at hT
                  refine lv_istore (lv' := [(4, .int s0_150), (0, .ref (X 20)), (2, .int a2), (3, .int v3_34), (5, .int v5_8)]) hx hb dX9_grow_150 hl (by decide) rfl (fun ls hl => ?_)
                  refine lv_iinc (v := v5_8 + 1) (lv' := [(5, .int (v5_8 + 1)), (4, .int s0_150), (0, .ref (X 20)), (2, .int a2), (3, .int v3_34)]) hx hb dX9_grow_152 hl (k := 4) rfl (by rfl) (by decide) rfl (fun ls hl => ?_)
                  refine lv_goto (tgt := 8) hx hb dX9_grow_155 (by decide) ?_
                  exact ih_8 v3_34 s0_150 (v5_8 + 1) (wi_up hu_8 (Int32.not_le.mp c_2)) hT (wi_inc hn_8 (Int32.not_le.mp c_2)) hb_s0_150 _ _ hP hD hS _ (lv_sub hl [2, 3, 4, 1, 0] rfl)
                refine lv_icmp_eq (tgt := 149) hx hb dX9_grow_142 (by decide) (fun c_5 => ?_) (fun c_5 => ?_)
                · rw [if_pos c_5] at hT
                  refine lv_iconst (v := 0) hx hb dX9_grow_149 (by decide) ?_
                  exact J_150 0 hT (by decide) _ _ hP hD hS _ (lv_sub hl [0, 1, 2, 3] rfl)
                · rw [if_neg c_5] at hT
                  refine lv_iconst (v := 1) hx hb dX9_grow_145 (by decide) ?_
                  refine lv_goto (tgt := 150) hx hb dX9_grow_146 (by decide) ?_
                  exact J_150 1 hT (by decide) _ _ hP hD hS _ (lv_sub hl [0, 1, 2, 3] rfl)
              refine lv_icmp_ge (tgt := 139) hx hb dX9_grow_40 (by decide) (fun c_6 => ?_) (fun c_6 => ?_)
              · rw [if_pos c_6] at hT
                exact J_139 () hT _ _ hP hD hS _ (lv_sub hl [0, 1, 2, 3, 4] rfl)
              · rw [if_neg c_6] at hT
                refine lv_iload hx hb dX9_grow_43 (lv_at hl 6 rfl) ?_
                refine lv_sipush (v := 300) hx hb dX9_grow_45 (by decide) ?_
                refine lv_icmp_ge (tgt := 139) hx hb dX9_grow_48 (by decide) (fun c_7 => ?_) (fun c_7 => ?_)
                · rw [if_pos c_7] at hT
                  exact J_139 () hT _ _ hP hD hS _ (lv_sub hl [0, 1, 2, 3, 4] rfl)
                · rw [if_neg c_7] at hT
                  refine lv_aload_n hx hb dX9_grow_51 rfl (lv_at hl 0 rfl) ?_
                  refine va_get (D := D) (ci := 11) (v := .ref (X 35)) (C := RX9) (T := TX9) (N := 17) hx hb hts iv_k_X9_grow_X9 hown hK hP 2 rfl rfl 4 (by decide) (hts (.fieldLink RX9 21 "AnswerFold$Solver" "active" "[I") (by decide +kernel)) (fun _ h9 => h9) rfl dX9_grow_52 ?_
                  refine lv_iload hx hb dX9_grow_55 (lv_at hl 6 rfl) ?_
                  refine va_iald (D := D) hx hb hK hP 8 0 rfl rfl (wi_in hn_34 (wi_hi c_7 (by decide))) dX9_grow_57 ?_
                  refine lv_istore (lv' := [(9, .int (ac v8_34.toNatClampNeg)), (0, .ref (X 20)), (2, .int a2), (3, .int v3_34), (5, .int v5_8), (6, .int v3_8), (7, .int t_26), (8, .int v8_34)]) hx hb dX9_grow_58 hl (by decide) rfl (fun ls hl => ?_)
                  refine lv_aload_n hx hb dX9_grow_60 rfl (lv_at hl 1 rfl) ?_
                  refine va_get (D := D) (ci := 11) (v := .ref (X 21)) (C := RX9) (T := TX9) (N := 17) hx hb hts iv_k_X9_grow_X9 hown hK hP 2 rfl rfl 2 (by decide) (hts (.fieldLink RX9 12 "AnswerFold$Solver" "checks" "LAnswerFold$Rows;") (by decide +kernel)) (fun _ h9 => h9) rfl dX9_grow_61 ?_
                  refine lv_iload hx hb dX9_grow_64 (lv_at hl 0 rfl) ?_
                  obtain ⟨t_66, ht_66⟩ : ∃ t, t = m_k_X7_headsAt c4 (ac v8_34.toNatClampNeg) := ⟨_, rfl⟩
                  rw [lE_eq ht_66] at hT
                  refine wq_iQW (wc := (wW_k_X7_headsAt ty (X 21) (X 22) (X 23) (X 24) (X 25) (X 26) (X 27) cn c4)) (pl := pw ty pp) (va_runV (As := [.int (ac v8_34.toNatClampNeg)]) (rest := []) ⟨hx, hb, hml, hown, hts⟩ (k_X7_headsAt l D ty td mi H.size (X 21) (X 22) (X 23) (X 24) (X 25) (X 26) (X 27) cn c4 (ac v8_34.toNatClampNeg) t_66 ht_66) (cwV 1 hts gv_k_X9_grow_1 rfl rfl rfl (by decide +kernel) ⟨(Nat.le_of_ble_eq_true rfl), (Nat.le_of_ble_eq_true rfl)⟩) (wm_V (wm_preS (vP_left hP) (vD_left hD) hK hE hS hA [false, false, false, true, false, false, false, true] rfl) (va_recv (q0 := 3) (ci := 9) hK hP rfl rfl)) rfl rfl hl.1 rfl (lv_room (Nat.le_of_ble_eq_true rfl)) dX9_grow_66 ⟨(Nat.le_of_ble_eq_true rfl), (Nat.le_of_ble_eq_true rfl)⟩) hS hA hP hD [false, false, false, true, false, false, false, true] rfl (fun _ _ h => by rcases h with ⟨-, rfl⟩; rfl) (fun r u H locs hw hP hD hS => ?_)
                  obtain ⟨hr0, rfl⟩ := hw
                  subst r
                  have hP : va_P D vwCl ((wW_k_X9_grow ty X pn rn tn en rf an ch cg fb mh ml ih lb ic cn c1 c2 c3 c4 ac obi sc) ++ pw ty pp) H := hP
                  have hD : va_D A ((wW_k_X9_grow ty X pn rn tn en rf an ch cg fb mh ml ih lb ic cn c1 c2 c3 c4 ac obi sc) ++ pw ty pp) := hD
                  refine W.widen (k := 0) (n := 0) (Nat.le_of_ble_eq_true rfl) (Nat.le_of_ble_eq_true rfl) ?_
                  refine lv_iload_n hx hb dX9_grow_69 rfl (lv_at hl 2 rfl) ?_
                  refine lv_iand hx hb dX9_grow_70 ?_
                  refine lv_istore (lv' := [(10, .int (t_66 &&& a2)), (9, .int (ac v8_34.toNatClampNeg)), (0, .ref (X 20)), (2, .int a2), (3, .int v3_34), (5, .int v5_8), (6, .int v3_8), (7, .int t_26), (8, .int v8_34)]) hx hb dX9_grow_71 hl (by decide) rfl (fun ls hl => ?_)
                  refine lv_aload_n hx hb dX9_grow_73 rfl (lv_at hl 2 rfl) ?_
                  refine lv_iload hx hb dX9_grow_74 (lv_at hl 1 rfl) ?_
                  obtain ⟨t_76, ht_76⟩ : ∃ t, t = m_k_X9_isChoice ch c1 (ac v8_34.toNatClampNeg) := ⟨_, rfl⟩
                  rw [lE_eq ht_76] at hT
                  refine wq_iQW (wc := (wW_k_X9_isChoice ty X an ch cg fb mh ml ih lb ic cn c1)) (pl := pw ty pp) (va_runV (As := [.int (ac v8_34.toNatClampNeg)]) (rest := []) ⟨hx, hb, hml, hown, hts⟩ (k_X9_isChoice l D ty td mi H.size X an ch cg fb mh ml ih lb ic cn c1 (ac v8_34.toNatClampNeg) t_76 ht_76) (cwV 1 hts gv_k_X9_grow_2 rfl rfl rfl (by decide +kernel) ⟨(Nat.le_of_ble_eq_true rfl), (Nat.le_of_ble_eq_true rfl)⟩) (wm_V (wm_preS (vP_left hP) (vD_left hD) hK hE hS hA [false, false, true, true, true] rfl) (va_recv (q0 := 2) (ci := 11) hK hP rfl rfl)) rfl rfl hl.1 rfl (lv_room (Nat.le_of_ble_eq_true rfl)) dX9_grow_76 ⟨(Nat.le_of_ble_eq_true rfl), (Nat.le_of_ble_eq_true rfl)⟩) hS hA hP hD [false, false, true, true, true] rfl (fun _ _ h => by rcases h with ⟨-, -, rfl⟩; rfl) (fun r u H locs hw hP hD hS => ?_)
                  obtain ⟨hr0, c_12, rfl⟩ := hw
                  subst r
                  have hP : va_P D vwCl ((wW_k_X9_grow ty X pn rn tn en rf an ch cg fb mh ml ih lb ic cn c1 c2 c3 c4 ac obi sc) ++ pw ty pp) H := hP
                  have hD : va_D A ((wW_k_X9_grow ty X pn rn tn en rf an ch cg fb mh ml ih lb ic cn c1 c2 c3 c4 ac obi sc) ++ pw ty pp) := hD
                  refine W.widen (k := 0) (n := 0) (Nat.le_of_ble_eq_true rfl) (Nat.le_of_ble_eq_true rfl) ?_
                  have J_97 : ∀ (s0_97 : Int32), TT = m_k_X9_grow_97 c1 c2 c3 ac a2 (m_k_X9_grow_34 an ch c1 c2 c3 c4 ac a2 (m_k_X9_grow_8 pp rn rf an ch cg c1 c2 c3 c4 ac obi sc a2 n_8) t_26 v3_8 v5_8 n_34) t_26 t_66 v3_34 v8_34 s0_97 → s0_97 = 0 ∨ s0_97 = 1 → ∀ (H : Heap) (locs : List Loc), va_P D vwCl ((wW_k_X9_grow ty X pn rn tn en rf an ch cg fb mh ml ih lb ic cn c1 c2 c3 c4 ac obi sc) ++ pw ty pp) H → va_D A ((wW_k_X9_grow ty X pn rn tn en rf an ch cg fb mh ml ih lb ic cn c1 c2 c3 c4 ac obi sc) ++ pw ty pp) → va_S A s.heap H locs → ∀ ls : Array Slot, lv_has ls 12 [(0, .ref (X 20)), (2, .int a2), (3, .int v3_34), (5, .int v5_8), (6, .int v3_8), (7, .int t_26), (8, .int v8_34), (9, .int (ac v8_34.toNatClampNeg)), (10, .int (t_66 &&& a2))] → W p l e (headSpec vs_k_X9_grow { frames := 4, cells := 0, slots := 0, locals := 91 }).room s m ([.ref (X 20), .int a1, .int a2] : List Value).toArray below meth c H locs 0 0 (MQ below (va_Qi (fun (r : Int32) (u : va_W) => (r = TT ∧ (u = ((wW_k_X9_grow ty X pn rn tn en rf an ch cg fb mh ml ih lb ic cn c1 c2 c3 c4 ac obi sc) ++ pw ty pp)))) (wq_B D A) A) ([.ref (X 20), .int a1, .int a2] : List Value).toArray s 0 0 A) (F0 m 97 ls [.int s0_97]) := by
                    intro s0_97 hT hb_s0_97 H locs hP hD hS ls hl
                    rw [m_k_X9_grow_97] at hT
                    refine lv_istore (lv' := [(11, .int s0_97), (0, .ref (X 20)), (2, .int a2), (3, .int v3_34), (5, .int v5_8), (6, .int v3_8), (7, .int t_26), (8, .int v8_34), (9, .int (ac v8_34.toNatClampNeg)), (10, .int (t_66 &&& a2))]) hx hb dX9_grow_97 hl (by decide) rfl (fun ls hl => ?_)
                    refine lv_iload hx hb dX9_grow_99 (lv_at hl 0 rfl) ?_
                    have J_133 : ∀ (v3_133 : Int32), TT = m_k_X9_grow_133 (m_k_X9_grow_34 an ch c1 c2 c3 c4 ac a2 (m_k_X9_grow_8 pp rn rf an ch cg c1 c2 c3 c4 ac obi sc a2 n_8) t_26 v3_8 v5_8 n_34) v8_34 v3_133 → ∀ (H : Heap) (locs : List Loc), va_P D vwCl ((wW_k_X9_grow ty X pn rn tn en rf an ch cg fb mh ml ih lb ic cn c1 c2 c3 c4 ac obi sc) ++ pw ty pp) H → va_D A ((wW_k_X9_grow ty X pn rn tn en rf an ch cg fb mh ml ih lb ic cn c1 c2 c3 c4 ac obi sc) ++ pw ty pp) → va_S A s.heap H locs → ∀ ls : Array Slot, lv_has ls 12 [(0, .ref (X 20)), (2, .int a2), (3, .int v3_133), (5, .int v5_8), (6, .int v3_8), (7, .int t_26), (8, .int v8_34)] → W p l e (headSpec vs_k_X9_grow { frames := 4, cells := 0, slots := 0, locals := 91 }).room s m ([.ref (X 20), .int a1, .int a2] : List Value).toArray below meth c H locs 0 0 (MQ below (va_Qi (fun (r : Int32) (u : va_W) => (r = TT ∧ (u = ((wW_k_X9_grow ty X pn rn tn en rf an ch cg fb mh ml ih lb ic cn c1 c2 c3 c4 ac obi sc) ++ pw ty pp)))) (wq_B D A) A) ([.ref (X 20), .int a1, .int a2] : List Value).toArray s 0 0 A) (F0 m 133 ls []) := by
                      intro v3_133 hT  H locs hP hD hS ls hl
                      rw [m_k_X9_grow_133] at hT
                      refine lv_iinc (v := v8_34 + 1) (lv' := [(8, .int (v8_34 + 1)), (0, .ref (X 20)), (2, .int a2), (3, .int v3_133), (5, .int v5_8), (6, .int v3_8), (7, .int t_26)]) hx hb dX9_grow_133 hl (k := 6) rfl (by rfl) (by decide) rfl (fun ls hl => ?_)
                      refine lv_goto (tgt := 34) hx hb dX9_grow_136 (by decide) ?_
                      exact ih_34 v3_133 (v8_34 + 1) (wi_up hu_34 (Int32.not_le.mp c_6)) hT (wi_inc hn_34 (Int32.not_le.mp c_6)) _ _ hP hD hS _ (lv_sub hl [1, 2, 3, 4, 5, 6, 0] rfl)
                    refine lv_if_eq (tgt := 133) hx hb dX9_grow_101 (by decide) (fun c_13 => ?_) (fun c_13 => ?_)
                    · rw [if_pos c_13] at hT
                      exact J_133 v3_34 hT _ _ hP hD hS _ (lv_sub hl [1, 2, 3, 4, 5, 6, 7] rfl)
                    · rw [if_neg c_13] at hT
                      refine lv_iload hx hb dX9_grow_104 (lv_at hl 9 rfl) ?_
                      refine lv_iload_n hx hb dX9_grow_106 rfl (lv_at hl 3 rfl) ?_
                      refine lv_iconst (v := (-1)) hx hb dX9_grow_107 (by decide) ?_
                      refine lv_ixor hx hb dX9_grow_108 ?_
                      refine lv_iand hx hb dX9_grow_109 ?_
                      refine lv_if_eq (tgt := 133) hx hb dX9_grow_110 (by decide) (fun c_14 => ?_) (fun c_14 => ?_)
                      · rw [if_pos c_14] at hT
                        exact J_133 v3_34 hT _ _ hP hD hS _ (lv_sub hl [1, 2, 3, 4, 5, 6, 7] rfl)
                      · rw [if_neg c_14] at hT
                        refine lv_aload_n hx hb dX9_grow_113 rfl (lv_at hl 1 rfl) ?_
                        refine va_get (D := D) (ci := 11) (v := .ref (X 21)) (C := RX9) (T := TX9) (N := 17) hx hb hts iv_k_X9_grow_X9 hown hK hP 2 rfl rfl 2 (by decide) (hts (.fieldLink RX9 12 "AnswerFold$Solver" "checks" "LAnswerFold$Rows;") (by decide +kernel)) (fun _ h9 => h9) rfl dX9_grow_114 ?_
                        refine lv_iload hx hb dX9_grow_117 (lv_at hl 8 rfl) ?_
                        refine lv_iload_n hx hb dX9_grow_119 rfl (lv_at hl 3 rfl) ?_
                        refine lv_iload hx hb dX9_grow_120 (lv_at hl 6 rfl) ?_
                        obtain ⟨t_122, ht_122⟩ : ∃ t, t = m_k_X7_bodyHolds c1 c2 c3 (ac v8_34.toNatClampNeg) v3_34 t_26 := ⟨_, rfl⟩
                        rw [lE_eq ht_122] at hT
                        refine wq_iQW (wc := (wW_k_X7_bodyHolds ty (X 21) (X 22) (X 23) (X 24) (X 25) (X 26) (X 27) cn c1 c2 c3)) (pl := pw ty pp) (va_runV (As := [.int (ac v8_34.toNatClampNeg), .int v3_34, .int t_26]) (rest := []) ⟨hx, hb, hml, hown, hts⟩ (k_X7_bodyHolds l D ty td mi H.size (X 21) (X 22) (X 23) (X 24) (X 25) (X 26) (X 27) cn c1 c2 c3 (ac v8_34.toNatClampNeg) v3_34 t_26 t_122 ht_122) (cwV 3 hts gv_k_X9_grow_3 rfl rfl rfl (by decide +kernel) ⟨(Nat.le_of_ble_eq_true rfl), (Nat.le_of_ble_eq_true rfl)⟩) (wm_V (wm_preS (vP_left hP) (vD_left hD) hK hE hS hA [false, false, false, true, true, true, true] rfl) (va_recv (q0 := 3) (ci := 9) hK hP rfl rfl)) rfl rfl hl.1 rfl (lv_room (Nat.le_of_ble_eq_true rfl)) dX9_grow_122 ⟨(Nat.le_of_ble_eq_true rfl), (Nat.le_of_ble_eq_true rfl)⟩) hS hA hP hD [false, false, false, true, true, true, true] rfl (fun _ _ h => by rcases h with ⟨-, -, rfl⟩; rfl) (fun r u H locs hw hP hD hS => ?_)
                        obtain ⟨hr0, c_17, rfl⟩ := hw
                        subst r
                        have hP : va_P D vwCl ((wW_k_X9_grow ty X pn rn tn en rf an ch cg fb mh ml ih lb ic cn c1 c2 c3 c4 ac obi sc) ++ pw ty pp) H := hP
                        have hD : va_D A ((wW_k_X9_grow ty X pn rn tn en rf an ch cg fb mh ml ih lb ic cn c1 c2 c3 c4 ac obi sc) ++ pw ty pp) := hD
                        refine W.widen (k := 0) (n := 0) (Nat.le_of_ble_eq_true rfl) (Nat.le_of_ble_eq_true rfl) ?_
                        refine lv_if_eq (tgt := 133) hx hb dX9_grow_125 (by decide) (fun c_18 => ?_) (fun c_18 => ?_)
                        · rw [if_pos c_18] at hT
                          exact J_133 v3_34 hT _ _ hP hD hS _ (lv_sub hl [1, 2, 3, 4, 5, 6, 7] rfl)
                        · rw [if_neg c_18] at hT
                          refine lv_iload_n hx hb dX9_grow_128 rfl (lv_at hl 3 rfl) ?_
                          refine lv_iload hx hb dX9_grow_129 (lv_at hl 9 rfl) ?_
                          refine lv_ior hx hb dX9_grow_131 ?_
                          refine lv_istore_n (lv' := [(3, .int (v3_34 ||| (t_66 &&& a2))), (11, .int s0_97), (0, .ref (X 20)), (2, .int a2), (5, .int v5_8), (6, .int v3_8), (7, .int t_26), (8, .int v8_34), (9, .int (ac v8_34.toNatClampNeg)), (10, .int (t_66 &&& a2))]) hx hb dX9_grow_132 rfl hl (by decide) rfl (fun ls hl => ?_)
                          exact J_133 (v3_34 ||| (t_66 &&& a2)) hT _ _ hP hD hS _ (lv_sub hl [2, 3, 0, 4, 5, 6, 7] rfl)
                  have J_92 : ∀ (_ : Unit), TT = m_k_X9_grow_92 c1 c2 c3 ac a2 (m_k_X9_grow_34 an ch c1 c2 c3 c4 ac a2 (m_k_X9_grow_8 pp rn rf an ch cg c1 c2 c3 c4 ac obi sc a2 n_8) t_26 v3_8 v5_8 n_34) t_26 t_66 v3_34 v8_34 → ∀ (H : Heap) (locs : List Loc), va_P D vwCl ((wW_k_X9_grow ty X pn rn tn en rf an ch cg fb mh ml ih lb ic cn c1 c2 c3 c4 ac obi sc) ++ pw ty pp) H → va_D A ((wW_k_X9_grow ty X pn rn tn en rf an ch cg fb mh ml ih lb ic cn c1 c2 c3 c4 ac obi sc) ++ pw ty pp) → va_S A s.heap H locs → ∀ ls : Array Slot, lv_has ls 12 [(0, .ref (X 20)), (2, .int a2), (3, .int v3_34), (5, .int v5_8), (6, .int v3_8), (7, .int t_26), (8, .int v8_34), (9, .int (ac v8_34.toNatClampNeg)), (10, .int (t_66 &&& a2))] → W p l e (headSpec vs_k_X9_grow { frames := 4, cells := 0, slots := 0, locals := 91 }).room s m ([.ref (X 20), .int a1, .int a2] : List Value).toArray below meth c H locs 0 0 (MQ below (va_Qi (fun (r : Int32) (u : va_W) => (r = TT ∧ (u = ((wW_k_X9_grow ty X pn rn tn en rf an ch cg fb mh ml ih lb ic cn c1 c2 c3 c4 ac obi sc) ++ pw ty pp)))) (wq_B D A) A) ([.ref (X 20), .int a1, .int a2] : List Value).toArray s 0 0 A) (F0 m 92 ls []) := by
                    intro _ hT  H locs hP hD hS ls hl
                    rw [m_k_X9_grow_92] at hT
                    refine lv_iconst (v := 1) hx hb dX9_grow_92 (by decide) ?_
                    refine lv_goto (tgt := 97) hx hb dX9_grow_93 (by decide) ?_
                    exact J_97 1 hT (by decide) _ _ hP hD hS _ (lv_sub hl [0, 1, 2, 3, 4, 5, 6, 7, 8] rfl)
                  refine lv_if_ne (tgt := 92) hx hb dX9_grow_79 (by decide) (fun c_19 => ?_) (fun c_19 => ?_)
                  · rw [if_neg c_19] at hT
                    exact J_92 () hT _ _ hP hD hS _ (lv_sub hl [2, 3, 4, 5, 6, 7, 8, 1, 0] rfl)
                  · rw [if_pos c_19] at hT
                    refine lv_iload hx hb dX9_grow_82 (lv_at hl 0 rfl) ?_
                    refine lv_iload hx hb dX9_grow_84 (lv_at hl 0 rfl) ?_
                    refine lv_iconst (v := 1) hx hb dX9_grow_86 (by decide) ?_
                    refine lv_isub hx hb dX9_grow_87 ?_
                    refine lv_iand hx hb dX9_grow_88 ?_
                    refine lv_if_ne (tgt := 96) hx hb dX9_grow_89 (by decide) (fun c_20 => ?_) (fun c_20 => ?_)
                    · rw [if_neg c_20] at hT
                      refine lv_iconst (v := 0) hx hb dX9_grow_96 (by decide) ?_
                      exact J_97 0 hT (by decide) _ _ hP hD hS _ (lv_sub hl [2, 3, 4, 5, 6, 7, 8, 1, 0] rfl)
                    · rw [if_pos c_20] at hT
                      exact J_92 () hT _ _ hP hD hS _ (lv_sub hl [2, 3, 4, 5, 6, 7, 8, 1, 0] rfl)
          exact L_34 wF v3_8 0 (wF_up 0) hT (by decide) _ _ hP hD hS _ (lv_sub hl [3, 4, 5, 7, 2, 1, 0] rfl)
  exact L_8 wF a1 1 0 (wF_up 0) hT (by decide) (by decide) _ _ hP hD hS _ (lv_sub hl [3, 5, 2, 1, 0] rfl)
theorem dX9_headsToSplit_0 : decode cX9_headsToSplit 0 = .ok (.aload_n 0, 1) := by decide +kernel
theorem dX9_headsToSplit_1 : decode cX9_headsToSplit 1 = .ok (.iload_n 1, 1) := by decide +kernel
theorem dX9_headsToSplit_2 : decode cX9_headsToSplit 2 = .ok (.invokevirtual 241, 3) := by decide +kernel
theorem dX9_headsToSplit_5 : decode cX9_headsToSplit 5 = .ok (.istore_n 3, 1) := by decide +kernel
theorem dX9_headsToSplit_6 : decode cX9_headsToSplit 6 = .ok (.iconst 0, 1) := by decide +kernel
theorem dX9_headsToSplit_7 : decode cX9_headsToSplit 7 = .ok (.istore 4, 2) := by decide +kernel
theorem dX9_headsToSplit_9 : decode cX9_headsToSplit 9 = .ok (.iload 4, 2) := by decide +kernel
theorem dX9_headsToSplit_11 : decode cX9_headsToSplit 11 = .ok (.aload_n 0, 1) := by decide +kernel
theorem dX9_headsToSplit_12 : decode cX9_headsToSplit 12 = .ok (.getfield 276, 3) := by decide +kernel
theorem dX9_headsToSplit_15 : decode cX9_headsToSplit 15 = .ok (.if_icmp .ge 72, 3) := by decide +kernel
theorem dX9_headsToSplit_18 : decode cX9_headsToSplit 18 = .ok (.iload 4, 2) := by decide +kernel
theorem dX9_headsToSplit_20 : decode cX9_headsToSplit 20 = .ok (.sipush 300, 3) := by decide +kernel
theorem dX9_headsToSplit_23 : decode cX9_headsToSplit 23 = .ok (.if_icmp .ge 64, 3) := by decide +kernel
theorem dX9_headsToSplit_26 : decode cX9_headsToSplit 26 = .ok (.aload_n 0, 1) := by decide +kernel
theorem dX9_headsToSplit_27 : decode cX9_headsToSplit 27 = .ok (.getfield 21, 3) := by decide +kernel
theorem dX9_headsToSplit_30 : decode cX9_headsToSplit 30 = .ok (.iload 4, 2) := by decide +kernel
theorem dX9_headsToSplit_32 : decode cX9_headsToSplit 32 = .ok (.iaload, 1) := by decide +kernel
theorem dX9_headsToSplit_33 : decode cX9_headsToSplit 33 = .ok (.istore 5, 2) := by decide +kernel
theorem dX9_headsToSplit_35 : decode cX9_headsToSplit 35 = .ok (.aload_n 0, 1) := by decide +kernel
theorem dX9_headsToSplit_36 : decode cX9_headsToSplit 36 = .ok (.getfield 12, 3) := by decide +kernel
theorem dX9_headsToSplit_39 : decode cX9_headsToSplit 39 = .ok (.iload 5, 2) := by decide +kernel
theorem dX9_headsToSplit_41 : decode cX9_headsToSplit 41 = .ok (.invokevirtual 279, 3) := by decide +kernel
theorem dX9_headsToSplit_44 : decode cX9_headsToSplit 44 = .ok (.iload_n 2, 1) := by decide +kernel
theorem dX9_headsToSplit_45 : decode cX9_headsToSplit 45 = .ok (.iand, 1) := by decide +kernel
theorem dX9_headsToSplit_46 : decode cX9_headsToSplit 46 = .ok (.istore 6, 2) := by decide +kernel
theorem dX9_headsToSplit_48 : decode cX9_headsToSplit 48 = .ok (.aload_n 0, 1) := by decide +kernel
theorem dX9_headsToSplit_49 : decode cX9_headsToSplit 49 = .ok (.iload 5, 2) := by decide +kernel
theorem dX9_headsToSplit_51 : decode cX9_headsToSplit 51 = .ok (.invokevirtual 287, 3) := by decide +kernel
theorem dX9_headsToSplit_54 : decode cX9_headsToSplit 54 = .ok (.ifCond .ne 27, 3) := by decide +kernel
theorem dX9_headsToSplit_57 : decode cX9_headsToSplit 57 = .ok (.iload 6, 2) := by decide +kernel
theorem dX9_headsToSplit_59 : decode cX9_headsToSplit 59 = .ok (.iload_n 1, 1) := by decide +kernel
theorem dX9_headsToSplit_60 : decode cX9_headsToSplit 60 = .ok (.iand, 1) := by decide +kernel
theorem dX9_headsToSplit_61 : decode cX9_headsToSplit 61 = .ok (.ifCond .ne 20, 3) := by decide +kernel
theorem dX9_headsToSplit_64 : decode cX9_headsToSplit 64 = .ok (.aload_n 0, 1) := by decide +kernel
theorem dX9_headsToSplit_65 : decode cX9_headsToSplit 65 = .ok (.getfield 12, 3) := by decide +kernel
theorem dX9_headsToSplit_68 : decode cX9_headsToSplit 68 = .ok (.iload 5, 2) := by decide +kernel
theorem dX9_headsToSplit_70 : decode cX9_headsToSplit 70 = .ok (.iload_n 1, 1) := by decide +kernel
theorem dX9_headsToSplit_71 : decode cX9_headsToSplit 71 = .ok (.iload_n 3, 1) := by decide +kernel
theorem dX9_headsToSplit_72 : decode cX9_headsToSplit 72 = .ok (.invokevirtual 282, 3) := by decide +kernel
theorem dX9_headsToSplit_75 : decode cX9_headsToSplit 75 = .ok (.ifCond .eq 6, 3) := by decide +kernel
theorem dX9_headsToSplit_78 : decode cX9_headsToSplit 78 = .ok (.iload 6, 2) := by decide +kernel
theorem dX9_headsToSplit_80 : decode cX9_headsToSplit 80 = .ok (.ireturn, 1) := by decide +kernel
theorem dX9_headsToSplit_81 : decode cX9_headsToSplit 81 = .ok (.iinc 4 1, 3) := by decide +kernel
theorem dX9_headsToSplit_84 : decode cX9_headsToSplit 84 = .ok (.goto (-75), 3) := by decide +kernel
theorem dX9_headsToSplit_87 : decode cX9_headsToSplit 87 = .ok (.iconst 0, 1) := by decide +kernel
theorem dX9_headsToSplit_88 : decode cX9_headsToSplit 88 = .ok (.ireturn, 1) := by decide +kernel
def wW_k_X9_headsToSplit (ty : Nat → ClassId) (X : Nat → Nat) (z9_0 : Int32) (z9_1 : Int32) (z9_2 : Int32) (z9_3 : Int32) (z9_4 : Nat → Option Nat) (z9_5 : Int32) (z9_6 : Int32) (z9_7 : Int32) (z9_8 : Int32) (z9_9 : Int32) (z9_10 : Int32) (z9_11 : Int32) (z9_12 : Int32) (z9_13 : Int32) (z9_14 : Int32) (z9_15 : Nat → Int32) (z9_16 : Nat → Int32) (z9_17 : Nat → Int32) (z9_18 : Nat → Int32) (z9_19 : Nat → Int32) (z9_20 : Nat → Int32) (z9_21 : Nat → Int32) : va_W := [((X 1), .inr (8, [.ref (X 2), .int z9_0, .ref (X 3), .int z9_1, .ref (X 4), .ref (X 5), .int z9_2, .ref (X 6), .ref (X 7), .int z9_3])), ((X 3), .inl (ty 4, 20, .inr (.inr (.inr (.inr z9_4))))), ((X 20), .inr (11, [.ref (X 1), .ref (X 8), .ref (X 21), .ref (X 28), .ref (X 35), .int z9_5, .ref (X 36), .ref (X 37), .ref (X 38), .int z9_6, .int z9_7, .int z9_8, .int z9_9, .int z9_10, .int z9_11, .int z9_12, .int z9_13])), ((X 21), .inr (9, [.ref (X 22), .ref (X 23), .ref (X 24), .ref (X 25), .ref (X 26), .ref (X 27), .int z9_14])), ((X 22), .inl (ty 0, 300, .inl z9_15)), ((X 23), .inl (ty 0, 300, .inl z9_16)), ((X 24), .inl (ty 0, 300, .inl z9_17)), ((X 25), .inl (ty 0, 300, .inl z9_18)), ((X 35), .inl (ty 0, 300, .inl z9_19)), ((X 36), .inl (ty 0, 6, .inl z9_20)), ((X 37), .inl (ty 0, 6, .inl z9_21))]
def vs_k_X9_headsToSplit : List Cond := .code yX9_headsToSplit cX9_headsToSplit 7 (some .int) :: ([.methodLink RX9 241 yX9_countsHeld, .instanceMethod yX9_countsHeld, .selects RX9 yX9_countsHeld yX9_countsHeld, .initialized RX9, .fieldLink RX9 276 "AnswerFold$Solver" "activeCount" "I", .fieldLink RX9 21 "AnswerFold$Solver" "active" "[I", .fieldLink RX9 12 "AnswerFold$Solver" "checks" "LAnswerFold$Rows;", .methodLink RX9 279 yX7_headsAt, .instanceMethod yX7_headsAt, .selects RX7 yX7_headsAt yX7_headsAt, .initialized RX7, .methodLink RX9 287 yX9_isChoice, .instanceMethod yX9_isChoice, .selects RX9 yX9_isChoice yX9_isChoice, .methodLink RX9 282 yX7_bodyHolds, .instanceMethod yX7_bodyHolds, .selects RX7 yX7_bodyHolds yX7_bodyHolds] ++ (vs_k_X9_countsHeld ++ (u_ws RX9 TX9 17 ++ (vs_k_X7_headsAt ++ (vs_k_X9_isChoice ++ (vs_k_X7_bodyHolds))))))
theorem iv_k_X9_headsToSplit_X9 : ∀ w ∈ u_ws RX9 TX9 17, w ∈ vs_k_X9_headsToSplit := (fun _ h => List.mem_cons_of_mem _ (List.mem_append_right _ (List.mem_append_right _ (List.mem_append_left _ h))))
set_option maxRecDepth 20000 in
theorem gv_k_X9_headsToSplit_0 : GoodIn vs_k_X9_headsToSplit (wsV RX9 241 RX9 yX9_countsHeld vs_k_X9_countsHeld) := goodIn_app (goodIn_sub (by decide +kernel) (by decide +kernel)) (goodIn_sub (fun _ h => List.mem_cons_of_mem _ (List.mem_append_right _ (List.mem_append_left _ h))) (by decide +kernel))
set_option maxRecDepth 20000 in
theorem gv_k_X9_headsToSplit_1 : GoodIn vs_k_X9_headsToSplit (wsV RX9 279 RX7 yX7_headsAt vs_k_X7_headsAt) := goodIn_app (goodIn_sub (by decide +kernel) (by decide +kernel)) (goodIn_sub (fun _ h => List.mem_cons_of_mem _ (List.mem_append_right _ (List.mem_append_right _ (List.mem_append_right _ (List.mem_append_left _ h))))) (by decide +kernel))
set_option maxRecDepth 20000 in
theorem gv_k_X9_headsToSplit_2 : GoodIn vs_k_X9_headsToSplit (wsV RX9 287 RX9 yX9_isChoice vs_k_X9_isChoice) := goodIn_app (goodIn_sub (by decide +kernel) (by decide +kernel)) (goodIn_sub (fun _ h => List.mem_cons_of_mem _ (List.mem_append_right _ (List.mem_append_right _ (List.mem_append_right _ (List.mem_append_right _ (List.mem_append_left _ h)))))) (by decide +kernel))
set_option maxRecDepth 20000 in
theorem gv_k_X9_headsToSplit_3 : GoodIn vs_k_X9_headsToSplit (wsV RX9 282 RX7 yX7_bodyHolds vs_k_X7_bodyHolds) := goodIn_app (goodIn_sub (by decide +kernel) (by decide +kernel)) (goodIn_sub (fun _ h => List.mem_cons_of_mem _ (List.mem_append_right _ (List.mem_append_right _ (List.mem_append_right _ (List.mem_append_right _ (List.mem_append_right _ (h))))))) (by decide +kernel))
set_option maxHeartbeats 4000000 in
set_option maxRecDepth 100000 in
theorem k_X9_headsToSplit (l : Launch) (D : va_G) (ty : Nat → ClassId) (td mi sz : Nat) (pp : pT) (X : Nat → Nat) (pn : Int32) (rn : Int32) (tn : Int32) (en : Int32) (rf : Nat → Option Nat) (an : Int32) (ch : Int32) (cg : Int32) (fb : Int32) (mh : Int32) (ml : Int32) (ih : Int32) (lb : Int32) (ic : Int32) (cn : Int32) (c1 : Nat → Int32) (c2 : Nat → Int32) (c3 : Nat → Int32) (c4 : Nat → Int32) (ac : Nat → Int32) (obi : Nat → Int32) (sc : Nat → Int32) (a1 : Int32) (a2 : Int32) (hok : pOK pp) (hru : ∀ (i a : Nat), rf i = some a → a ∈ pRA pp) (TT : r_k_X9_headsToSplit) (hTT : TT = m_k_X9_headsToSplit pp rn rf an ch cg c1 c2 c3 c4 ac obi sc a1 a2) : Met l yX9_headsToSplit vs_k_X9_headsToSplit { frames := 4, cells := 0, slots := 0, locals := 91 } (va_Pc [.ref (X 20), .int a1, .int a2] (wq_P D ty td mi ((wW_k_X9_headsToSplit ty X pn rn tn en rf an ch cg fb mh ml ih lb ic cn c1 c2 c3 c4 ac obi sc) ++ pw ty pp) sz)) (va_Qi (fun (r : Int32) (u : va_W) => (r = TT ∧ (u = ((wW_k_X9_headsToSplit ty X pn rn tn en rf an ch cg fb mh ml ih lb ic cn c1 c2 c3 c4 ac obi sc) ++ pw ty pp)))) (wq_B D (va_A ((wW_k_X9_headsToSplit ty X pn rn tn en rf an ch cg fb mh ml ih lb ic cn c1 c2 c3 c4 ac obi sc) ++ pw ty pp) sz)) (va_A ((wW_k_X9_headsToSplit ty X pn rn tn en rf an ch cg fb mh ml ih lb ic cn c1 c2 c3 c4 ac obi sc) ++ pw ty pp) sz)) 0 0 (va_A ((wW_k_X9_headsToSplit ty X pn rn tn en rf an ch cg fb mh ml ih lb ic cn c1 c2 c3 c4 ac obi sc) ++ pw ty pp) sz) := by
  refine Met.ofW (cc := cX9_headsToSplit) (maxL := 7) (ret := (some .int)) (by decide) rfl ?_
  intro p e s m args below meth c s₁ B hml hv
  obtain ⟨rfl, hsz, hP, hK, hD0, hE⟩ := hv
  have hx := B.exec
  have hb := B.bytes
  have hr := B.returns
  have hts := atoms_spec (ws := vs_k_X9_headsToSplit) B.pre
  have hown : s.vm.findClass RX9 = some m.cls := findClass_of_methodNamed B.named
  have hlocks := B.notSynchronized
  subst hsz
  have hD := hD0.self (sz := s.heap.size)
  generalize hAe : va_A ((wW_k_X9_headsToSplit ty X pn rn tn en rf an ch cg fb mh ml ih lb ic cn c1 c2 c3 c4 ac obi sc) ++ pw ty pp) s.heap.size = A at hD hE ⊢
  have hA : ∀ q : Nat, s.heap.size ≤ q → A q := fun q h => by rw [← hAe]; exact Or.inr h
  have hS : va_S A s.heap s.heap [] := va_S.rf
  have hP : va_P D vwCl ((wW_k_X9_headsToSplit ty X pn rn tn en rf an ch cg fb mh ml ih lb ic cn c1 c2 c3 c4 ac obi sc) ++ pw ty pp) s.heap := hP
  have hl := lv_entry ([.ref (X 20), .int a1, .int a2]) (n := 7) (Nat.le_of_ble_eq_true rfl)
  rw [lg_entry_eq]
  generalize (lg_sl ([.ref (X 20), .int a1, .int a2]) ++ List.replicate (7 - (lg_sl ([.ref (X 20), .int a1, .int a2])).length) Slot.unset).toArray = ls at hl ⊢
  have hl : lv_has ls 7 [(0, .ref (X 20)), (1, .int a1), (2, .int a2)] := hl
  have END : ∀ (r : Int32), TT = r → ∀ (H : Heap) (locs : List Loc), va_P D vwCl ((wW_k_X9_headsToSplit ty X pn rn tn en rf an ch cg fb mh ml ih lb ic cn c1 c2 c3 c4 ac obi sc) ++ pw ty pp) H → va_D A ((wW_k_X9_headsToSplit ty X pn rn tn en rf an ch cg fb mh ml ih lb ic cn c1 c2 c3 c4 ac obi sc) ++ pw ty pp) → va_S A s.heap H locs → ∀ (ls : Array Slot) (pc : Nat), decode cX9_headsToSplit pc = .ok (.ireturn, 1) → W p l e (headSpec vs_k_X9_headsToSplit { frames := 4, cells := 0, slots := 0, locals := 91 }).room s m ([.ref (X 20), .int a1, .int a2] : List Value).toArray below meth c H locs 0 0 (MQ below (va_Qi (fun (r : Int32) (u : va_W) => (r = TT ∧ (u = ((wW_k_X9_headsToSplit ty X pn rn tn en rf an ch cg fb mh ml ih lb ic cn c1 c2 c3 c4 ac obi sc) ++ pw ty pp)))) (wq_B D A) A) ([.ref (X 20), .int a1, .int a2] : List Value).toArray s 0 0 A) (F0 m pc ls [.int r]) := by
    intro r hT H locs hP hD hS ls pc hd
    have hM : TT = r := hT
    exact W.iret (v := r) hx hb hr (fun t ht hW => ⟨⟨r, ((wW_k_X9_headsToSplit ty X pn rn tn en rf an ch cg fb mh ml ih lb ic cn c1 c2 c3 c4 ac obi sc) ++ pw ty pp), rfl, ⟨(by rw [hM]), rfl⟩, wq_B.of ht hP hD⟩, hS.F ht⟩) hS.2.2 hd
  have hT := hTT
  rw [m_k_X9_headsToSplit] at hT
  refine lv_aload_n hx hb dX9_headsToSplit_0 rfl (lv_at hl 0 rfl) ?_
  refine lv_iload_n hx hb dX9_headsToSplit_1 rfl (lv_at hl 1 rfl) ?_
  obtain ⟨t_2, ht_2⟩ : ∃ t, t = m_k_X9_countsHeld pp rn rf cg obi sc a1 := ⟨_, rfl⟩
  rw [lE_eq ht_2] at hT
  refine wq_iPW (wc := (wW_k_X9_countsHeld ty X pn rn tn en rf an ch cg fb mh ml ih lb ic obi sc)) (pl := pw ty pp) (ux := (wW_k_X9_countsHeld ty X pn rn tn en rf an ch cg fb mh ml ih lb ic obi sc)) (va_runV (As := [.int a1]) (rest := []) ⟨hx, hb, hml, hown, hts⟩ (k_X9_countsHeld l D ty td mi s.heap.size pp X pn rn tn en rf an ch cg fb mh ml ih lb ic obi sc a1 hok hru t_2 ht_2) (cwV 1 hts gv_k_X9_headsToSplit_0 rfl rfl rfl (by decide +kernel) ⟨(Nat.le_of_ble_eq_true rfl), (Nat.le_of_ble_eq_true rfl)⟩) (wm_V (wm_preSP hP hD hK hE hS hA [true, true, true, false, false, false, false, false, false, true, true] rfl) (va_recv (q0 := 2) (ci := 11) hK hP rfl rfl)) rfl rfl hl.1 rfl (lv_room (Nat.le_of_ble_eq_true rfl)) dX9_headsToSplit_2 ⟨(Nat.le_of_ble_eq_true rfl), (Nat.le_of_ble_eq_true rfl)⟩) hS hA hP hD [true, true, true, false, false, false, false, false, false, true, true] rfl rfl (fun _ _ h => h.2) (fun r H locs hw hP hD hS => ?_)
  obtain ⟨hr0, -⟩ := hw
  subst r
  have hP : va_P D vwCl ((wW_k_X9_headsToSplit ty X pn rn tn en rf an ch cg fb mh ml ih lb ic cn c1 c2 c3 c4 ac obi sc) ++ pw ty pp) H := hP
  have hD : va_D A ((wW_k_X9_headsToSplit ty X pn rn tn en rf an ch cg fb mh ml ih lb ic cn c1 c2 c3 c4 ac obi sc) ++ pw ty pp) := hD
  refine W.widen (k := 0) (n := 0) (Nat.le_of_ble_eq_true rfl) (Nat.le_of_ble_eq_true rfl) ?_
  refine lv_istore_n (lv' := [(3, .int t_2), (0, .ref (X 20)), (1, .int a1), (2, .int a2)]) hx hb dX9_headsToSplit_5 rfl hl (by decide) rfl (fun ls hl => ?_)
  refine lv_iconst (v := 0) hx hb dX9_headsToSplit_6 (by decide) ?_
  refine lv_istore (lv' := [(4, .int 0), (3, .int t_2), (0, .ref (X 20)), (1, .int a1), (2, .int a2)]) hx hb dX9_headsToSplit_7 hl (by decide) rfl (fun ls hl => ?_)
  have L_9 : ∀ (n_9 : Nat) (v4_9 : Int32), (2147483648 - v4_9.toInt).toNat < n_9 → TT = m_k_X9_headsToSplit_9 an ch c1 c2 c3 c4 ac a1 a2 t_2 n_9 v4_9 → 0 ≤ v4_9.toInt → ∀ (H : Heap) (locs : List Loc), va_P D vwCl ((wW_k_X9_headsToSplit ty X pn rn tn en rf an ch cg fb mh ml ih lb ic cn c1 c2 c3 c4 ac obi sc) ++ pw ty pp) H → va_D A ((wW_k_X9_headsToSplit ty X pn rn tn en rf an ch cg fb mh ml ih lb ic cn c1 c2 c3 c4 ac obi sc) ++ pw ty pp) → va_S A s.heap H locs → ∀ ls : Array Slot, lv_has ls 7 [(0, .ref (X 20)), (1, .int a1), (2, .int a2), (3, .int t_2), (4, .int v4_9)] → W p l e (headSpec vs_k_X9_headsToSplit { frames := 4, cells := 0, slots := 0, locals := 91 }).room s m ([.ref (X 20), .int a1, .int a2] : List Value).toArray below meth c H locs 0 0 (MQ below (va_Qi (fun (r : Int32) (u : va_W) => (r = TT ∧ (u = ((wW_k_X9_headsToSplit ty X pn rn tn en rf an ch cg fb mh ml ih lb ic cn c1 c2 c3 c4 ac obi sc) ++ pw ty pp)))) (wq_B D A) A) ([.ref (X 20), .int a1, .int a2] : List Value).toArray s 0 0 A) (F0 m 9 ls []) := by
    intro n_9
    induction n_9 with
    | zero => intro v4_9 hu; exact absurd hu (Nat.not_lt_zero _)
    | succ n_9 ih_9 =>
      intro v4_9 hu_9 hT hn_9 H locs hP hD hS ls hl
      rw [m_k_X9_headsToSplit_9_succ, m_k_X9_headsToSplit_9s] at hT
      refine lv_iload hx hb dX9_headsToSplit_9 (lv_at hl 4 rfl) ?_
      refine lv_aload_n hx hb dX9_headsToSplit_11 rfl (lv_at hl 0 rfl) ?_
      refine va_get (D := D) (ci := 11) (v := .int an) (C := RX9) (T := TX9) (N := 17) hx hb hts iv_k_X9_headsToSplit_X9 hown hK hP 2 rfl rfl 5 (by decide) (hts (.fieldLink RX9 276 "AnswerFold$Solver" "activeCount" "I") (by decide +kernel)) (fun _ h9 => h9) rfl dX9_headsToSplit_12 ?_
      refine lv_icmp_ge (tgt := 87) hx hb dX9_headsToSplit_15 (by decide) (fun c_3 => ?_) (fun c_3 => ?_)
      · rw [if_pos c_3] at hT
        refine lv_iconst (v := 0) hx hb dX9_headsToSplit_87 (by decide) ?_
        exact END 0 hT _ _ hP hD hS _ _ dX9_headsToSplit_88
      · rw [if_neg c_3] at hT
        refine lv_iload hx hb dX9_headsToSplit_18 (lv_at hl 4 rfl) ?_
        refine lv_sipush (v := 300) hx hb dX9_headsToSplit_20 (by decide) ?_
        refine lv_icmp_ge (tgt := 87) hx hb dX9_headsToSplit_23 (by decide) (fun c_4 => ?_) (fun c_4 => ?_)
        · rw [if_pos c_4] at hT
          refine lv_iconst (v := 0) hx hb dX9_headsToSplit_87 (by decide) ?_
          exact END 0 hT _ _ hP hD hS _ _ dX9_headsToSplit_88
        · rw [if_neg c_4] at hT
          refine lv_aload_n hx hb dX9_headsToSplit_26 rfl (lv_at hl 0 rfl) ?_
          refine va_get (D := D) (ci := 11) (v := .ref (X 35)) (C := RX9) (T := TX9) (N := 17) hx hb hts iv_k_X9_headsToSplit_X9 hown hK hP 2 rfl rfl 4 (by decide) (hts (.fieldLink RX9 21 "AnswerFold$Solver" "active" "[I") (by decide +kernel)) (fun _ h9 => h9) rfl dX9_headsToSplit_27 ?_
          refine lv_iload hx hb dX9_headsToSplit_30 (lv_at hl 4 rfl) ?_
          refine va_iald (D := D) hx hb hK hP 8 0 rfl rfl (wi_in hn_9 (wi_hi c_4 (by decide))) dX9_headsToSplit_32 ?_
          refine lv_istore (lv' := [(5, .int (ac v4_9.toNatClampNeg)), (0, .ref (X 20)), (1, .int a1), (2, .int a2), (3, .int t_2), (4, .int v4_9)]) hx hb dX9_headsToSplit_33 hl (by decide) rfl (fun ls hl => ?_)
          refine lv_aload_n hx hb dX9_headsToSplit_35 rfl (lv_at hl 1 rfl) ?_
          refine va_get (D := D) (ci := 11) (v := .ref (X 21)) (C := RX9) (T := TX9) (N := 17) hx hb hts iv_k_X9_headsToSplit_X9 hown hK hP 2 rfl rfl 2 (by decide) (hts (.fieldLink RX9 12 "AnswerFold$Solver" "checks" "LAnswerFold$Rows;") (by decide +kernel)) (fun _ h9 => h9) rfl dX9_headsToSplit_36 ?_
          refine lv_iload hx hb dX9_headsToSplit_39 (lv_at hl 0 rfl) ?_
          obtain ⟨t_41, ht_41⟩ : ∃ t, t = m_k_X7_headsAt c4 (ac v4_9.toNatClampNeg) := ⟨_, rfl⟩
          rw [lE_eq ht_41] at hT
          refine wq_iQW (wc := (wW_k_X7_headsAt ty (X 21) (X 22) (X 23) (X 24) (X 25) (X 26) (X 27) cn c4)) (pl := pw ty pp) (va_runV (As := [.int (ac v4_9.toNatClampNeg)]) (rest := []) ⟨hx, hb, hml, hown, hts⟩ (k_X7_headsAt l D ty td mi H.size (X 21) (X 22) (X 23) (X 24) (X 25) (X 26) (X 27) cn c4 (ac v4_9.toNatClampNeg) t_41 ht_41) (cwV 1 hts gv_k_X9_headsToSplit_1 rfl rfl rfl (by decide +kernel) ⟨(Nat.le_of_ble_eq_true rfl), (Nat.le_of_ble_eq_true rfl)⟩) (wm_V (wm_preS (vP_left hP) (vD_left hD) hK hE hS hA [false, false, false, true, false, false, false, true] rfl) (va_recv (q0 := 3) (ci := 9) hK hP rfl rfl)) rfl rfl hl.1 rfl (lv_room (Nat.le_of_ble_eq_true rfl)) dX9_headsToSplit_41 ⟨(Nat.le_of_ble_eq_true rfl), (Nat.le_of_ble_eq_true rfl)⟩) hS hA hP hD [false, false, false, true, false, false, false, true] rfl (fun _ _ h => by rcases h with ⟨-, rfl⟩; rfl) (fun r u H locs hw hP hD hS => ?_)
          obtain ⟨hr0, rfl⟩ := hw
          subst r
          have hP : va_P D vwCl ((wW_k_X9_headsToSplit ty X pn rn tn en rf an ch cg fb mh ml ih lb ic cn c1 c2 c3 c4 ac obi sc) ++ pw ty pp) H := hP
          have hD : va_D A ((wW_k_X9_headsToSplit ty X pn rn tn en rf an ch cg fb mh ml ih lb ic cn c1 c2 c3 c4 ac obi sc) ++ pw ty pp) := hD
          refine W.widen (k := 0) (n := 0) (Nat.le_of_ble_eq_true rfl) (Nat.le_of_ble_eq_true rfl) ?_
          refine lv_iload_n hx hb dX9_headsToSplit_44 rfl (lv_at hl 3 rfl) ?_
          refine lv_iand hx hb dX9_headsToSplit_45 ?_
          refine lv_istore (lv' := [(6, .int (t_41 &&& a2)), (5, .int (ac v4_9.toNatClampNeg)), (0, .ref (X 20)), (1, .int a1), (2, .int a2), (3, .int t_2), (4, .int v4_9)]) hx hb dX9_headsToSplit_46 hl (by decide) rfl (fun ls hl => ?_)
          refine lv_aload_n hx hb dX9_headsToSplit_48 rfl (lv_at hl 2 rfl) ?_
          refine lv_iload hx hb dX9_headsToSplit_49 (lv_at hl 1 rfl) ?_
          obtain ⟨t_51, ht_51⟩ : ∃ t, t = m_k_X9_isChoice ch c1 (ac v4_9.toNatClampNeg) := ⟨_, rfl⟩
          rw [lE_eq ht_51] at hT
          refine wq_iQW (wc := (wW_k_X9_isChoice ty X an ch cg fb mh ml ih lb ic cn c1)) (pl := pw ty pp) (va_runV (As := [.int (ac v4_9.toNatClampNeg)]) (rest := []) ⟨hx, hb, hml, hown, hts⟩ (k_X9_isChoice l D ty td mi H.size X an ch cg fb mh ml ih lb ic cn c1 (ac v4_9.toNatClampNeg) t_51 ht_51) (cwV 1 hts gv_k_X9_headsToSplit_2 rfl rfl rfl (by decide +kernel) ⟨(Nat.le_of_ble_eq_true rfl), (Nat.le_of_ble_eq_true rfl)⟩) (wm_V (wm_preS (vP_left hP) (vD_left hD) hK hE hS hA [false, false, true, true, true] rfl) (va_recv (q0 := 2) (ci := 11) hK hP rfl rfl)) rfl rfl hl.1 rfl (lv_room (Nat.le_of_ble_eq_true rfl)) dX9_headsToSplit_51 ⟨(Nat.le_of_ble_eq_true rfl), (Nat.le_of_ble_eq_true rfl)⟩) hS hA hP hD [false, false, true, true, true] rfl (fun _ _ h => by rcases h with ⟨-, -, rfl⟩; rfl) (fun r u H locs hw hP hD hS => ?_)
          obtain ⟨hr0, c_9, rfl⟩ := hw
          subst r
          have hP : va_P D vwCl ((wW_k_X9_headsToSplit ty X pn rn tn en rf an ch cg fb mh ml ih lb ic cn c1 c2 c3 c4 ac obi sc) ++ pw ty pp) H := hP
          have hD : va_D A ((wW_k_X9_headsToSplit ty X pn rn tn en rf an ch cg fb mh ml ih lb ic cn c1 c2 c3 c4 ac obi sc) ++ pw ty pp) := hD
          refine W.widen (k := 0) (n := 0) (Nat.le_of_ble_eq_true rfl) (Nat.le_of_ble_eq_true rfl) ?_
          have J_81 : ∀ (_ : Unit), TT = m_k_X9_headsToSplit_81 (m_k_X9_headsToSplit_9 an ch c1 c2 c3 c4 ac a1 a2 t_2 n_9) v4_9 → ∀ (H : Heap) (locs : List Loc), va_P D vwCl ((wW_k_X9_headsToSplit ty X pn rn tn en rf an ch cg fb mh ml ih lb ic cn c1 c2 c3 c4 ac obi sc) ++ pw ty pp) H → va_D A ((wW_k_X9_headsToSplit ty X pn rn tn en rf an ch cg fb mh ml ih lb ic cn c1 c2 c3 c4 ac obi sc) ++ pw ty pp) → va_S A s.heap H locs → ∀ ls : Array Slot, lv_has ls 7 [(0, .ref (X 20)), (1, .int a1), (2, .int a2), (3, .int t_2), (4, .int v4_9)] → W p l e (headSpec vs_k_X9_headsToSplit { frames := 4, cells := 0, slots := 0, locals := 91 }).room s m ([.ref (X 20), .int a1, .int a2] : List Value).toArray below meth c H locs 0 0 (MQ below (va_Qi (fun (r : Int32) (u : va_W) => (r = TT ∧ (u = ((wW_k_X9_headsToSplit ty X pn rn tn en rf an ch cg fb mh ml ih lb ic cn c1 c2 c3 c4 ac obi sc) ++ pw ty pp)))) (wq_B D A) A) ([.ref (X 20), .int a1, .int a2] : List Value).toArray s 0 0 A) (F0 m 81 ls []) := by
            intro _ hT  H locs hP hD hS ls hl
            rw [m_k_X9_headsToSplit_81] at hT
            refine lv_iinc (v := v4_9 + 1) (lv' := [(4, .int (v4_9 + 1)), (0, .ref (X 20)), (1, .int a1), (2, .int a2), (3, .int t_2)]) hx hb dX9_headsToSplit_81 hl (k := 4) rfl (by rfl) (by decide) rfl (fun ls hl => ?_)
            refine lv_goto (tgt := 9) hx hb dX9_headsToSplit_84 (by decide) ?_
            exact ih_9 (v4_9 + 1) (wi_up hu_9 (Int32.not_le.mp c_3)) hT (wi_inc hn_9 (Int32.not_le.mp c_3)) _ _ hP hD hS _ (lv_sub hl [1, 2, 3, 4, 0] rfl)
          refine lv_if_ne (tgt := 81) hx hb dX9_headsToSplit_54 (by decide) (fun c_10 => ?_) (fun c_10 => ?_)
          · rw [if_neg c_10] at hT
            exact J_81 () hT _ _ hP hD hS _ (lv_sub hl [2, 3, 4, 5, 6] rfl)
          · rw [if_pos c_10] at hT
            refine lv_iload hx hb dX9_headsToSplit_57 (lv_at hl 0 rfl) ?_
            refine lv_iload_n hx hb dX9_headsToSplit_59 rfl (lv_at hl 3 rfl) ?_
            refine lv_iand hx hb dX9_headsToSplit_60 ?_
            refine lv_if_ne (tgt := 81) hx hb dX9_headsToSplit_61 (by decide) (fun c_11 => ?_) (fun c_11 => ?_)
            · rw [if_neg c_11] at hT
              exact J_81 () hT _ _ hP hD hS _ (lv_sub hl [2, 3, 4, 5, 6] rfl)
            · rw [if_pos c_11] at hT
              refine lv_aload_n hx hb dX9_headsToSplit_64 rfl (lv_at hl 2 rfl) ?_
              refine va_get (D := D) (ci := 11) (v := .ref (X 21)) (C := RX9) (T := TX9) (N := 17) hx hb hts iv_k_X9_headsToSplit_X9 hown hK hP 2 rfl rfl 2 (by decide) (hts (.fieldLink RX9 12 "AnswerFold$Solver" "checks" "LAnswerFold$Rows;") (by decide +kernel)) (fun _ h9 => h9) rfl dX9_headsToSplit_65 ?_
              refine lv_iload hx hb dX9_headsToSplit_68 (lv_at hl 1 rfl) ?_
              refine lv_iload_n hx hb dX9_headsToSplit_70 rfl (lv_at hl 3 rfl) ?_
              refine lv_iload_n hx hb dX9_headsToSplit_71 rfl (lv_at hl 5 rfl) ?_
              obtain ⟨t_72, ht_72⟩ : ∃ t, t = m_k_X7_bodyHolds c1 c2 c3 (ac v4_9.toNatClampNeg) a1 t_2 := ⟨_, rfl⟩
              rw [lE_eq ht_72] at hT
              refine wq_iQW (wc := (wW_k_X7_bodyHolds ty (X 21) (X 22) (X 23) (X 24) (X 25) (X 26) (X 27) cn c1 c2 c3)) (pl := pw ty pp) (va_runV (As := [.int (ac v4_9.toNatClampNeg), .int a1, .int t_2]) (rest := []) ⟨hx, hb, hml, hown, hts⟩ (k_X7_bodyHolds l D ty td mi H.size (X 21) (X 22) (X 23) (X 24) (X 25) (X 26) (X 27) cn c1 c2 c3 (ac v4_9.toNatClampNeg) a1 t_2 t_72 ht_72) (cwV 3 hts gv_k_X9_headsToSplit_3 rfl rfl rfl (by decide +kernel) ⟨(Nat.le_of_ble_eq_true rfl), (Nat.le_of_ble_eq_true rfl)⟩) (wm_V (wm_preS (vP_left hP) (vD_left hD) hK hE hS hA [false, false, false, true, true, true, true] rfl) (va_recv (q0 := 3) (ci := 9) hK hP rfl rfl)) rfl rfl hl.1 rfl (lv_room (Nat.le_of_ble_eq_true rfl)) dX9_headsToSplit_72 ⟨(Nat.le_of_ble_eq_true rfl), (Nat.le_of_ble_eq_true rfl)⟩) hS hA hP hD [false, false, false, true, true, true, true] rfl (fun _ _ h => by rcases h with ⟨-, -, rfl⟩; rfl) (fun r u H locs hw hP hD hS => ?_)
              obtain ⟨hr0, c_14, rfl⟩ := hw
              subst r
              have hP : va_P D vwCl ((wW_k_X9_headsToSplit ty X pn rn tn en rf an ch cg fb mh ml ih lb ic cn c1 c2 c3 c4 ac obi sc) ++ pw ty pp) H := hP
              have hD : va_D A ((wW_k_X9_headsToSplit ty X pn rn tn en rf an ch cg fb mh ml ih lb ic cn c1 c2 c3 c4 ac obi sc) ++ pw ty pp) := hD
              refine W.widen (k := 0) (n := 0) (Nat.le_of_ble_eq_true rfl) (Nat.le_of_ble_eq_true rfl) ?_
              refine lv_if_eq (tgt := 81) hx hb dX9_headsToSplit_75 (by decide) (fun c_15 => ?_) (fun c_15 => ?_)
              · rw [if_pos c_15] at hT
                exact J_81 () hT _ _ hP hD hS _ (lv_sub hl [2, 3, 4, 5, 6] rfl)
              · rw [if_neg c_15] at hT
                refine lv_iload hx hb dX9_headsToSplit_78 (lv_at hl 0 rfl) ?_
                exact END (t_41 &&& a2) hT _ _ hP hD hS _ _ dX9_headsToSplit_80
  exact L_9 wF 0 (wF_up 0) hT (by decide) _ _ hP hD hS _ (lv_sub hl [2, 3, 4, 1, 0] rfl)
