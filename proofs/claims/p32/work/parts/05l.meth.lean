theorem dX9_conditionHolds_0 : decode cX9_conditionHolds 0 = .ok (.aload_n 1, 1) := by decide +kernel
theorem dX9_conditionHolds_1 : decode cX9_conditionHolds 1 = .ok (.invokevirtual 253, 3) := by decide +kernel
theorem dX9_conditionHolds_4 : decode cX9_conditionHolds 4 = .ok (.ifCond .eq 10, 3) := by decide +kernel
theorem dX9_conditionHolds_7 : decode cX9_conditionHolds 7 = .ok (.aload_n 0, 1) := by decide +kernel
theorem dX9_conditionHolds_8 : decode cX9_conditionHolds 8 = .ok (.aload_n 1, 1) := by decide +kernel
theorem dX9_conditionHolds_9 : decode cX9_conditionHolds 9 = .ok (.iload_n 2, 1) := by decide +kernel
theorem dX9_conditionHolds_10 : decode cX9_conditionHolds 10 = .ok (.invokevirtual 256, 3) := by decide +kernel
theorem dX9_conditionHolds_13 : decode cX9_conditionHolds 13 = .ok (.ireturn, 1) := by decide +kernel
theorem dX9_conditionHolds_14 : decode cX9_conditionHolds 14 = .ok (.aload_n 1, 1) := by decide +kernel
theorem dX9_conditionHolds_15 : decode cX9_conditionHolds 15 = .ok (.getfield 139, 3) := by decide +kernel
theorem dX9_conditionHolds_18 : decode cX9_conditionHolds 18 = .ok (.bipush 116, 2) := by decide +kernel
theorem dX9_conditionHolds_20 : decode cX9_conditionHolds 20 = .ok (.if_icmp .ne 20, 3) := by decide +kernel
theorem dX9_conditionHolds_23 : decode cX9_conditionHolds 23 = .ok (.aload_n 0, 1) := by decide +kernel
theorem dX9_conditionHolds_24 : decode cX9_conditionHolds 24 = .ok (.iload_n 2, 1) := by decide +kernel
theorem dX9_conditionHolds_25 : decode cX9_conditionHolds 25 = .ok (.aload_n 0, 1) := by decide +kernel
theorem dX9_conditionHolds_26 : decode cX9_conditionHolds 26 = .ok (.getfield 38, 3) := by decide +kernel
theorem dX9_conditionHolds_29 : decode cX9_conditionHolds 29 = .ok (.getfield 142, 3) := by decide +kernel
theorem dX9_conditionHolds_32 : decode cX9_conditionHolds 32 = .ok (.aload_n 1, 1) := by decide +kernel
theorem dX9_conditionHolds_33 : decode cX9_conditionHolds 33 = .ok (.invokevirtual 146, 3) := by decide +kernel
theorem dX9_conditionHolds_36 : decode cX9_conditionHolds 36 = .ok (.invokevirtual 312, 3) := by decide +kernel
theorem dX9_conditionHolds_39 : decode cX9_conditionHolds 39 = .ok (.ireturn, 1) := by decide +kernel
theorem dX9_conditionHolds_40 : decode cX9_conditionHolds 40 = .ok (.aload_n 1, 1) := by decide +kernel
theorem dX9_conditionHolds_41 : decode cX9_conditionHolds 41 = .ok (.getfield 139, 3) := by decide +kernel
theorem dX9_conditionHolds_44 : decode cX9_conditionHolds 44 = .ok (.bipush 102, 2) := by decide +kernel
theorem dX9_conditionHolds_46 : decode cX9_conditionHolds 46 = .ok (.if_icmp .ne 28, 3) := by decide +kernel
theorem dX9_conditionHolds_49 : decode cX9_conditionHolds 49 = .ok (.aload_n 0, 1) := by decide +kernel
theorem dX9_conditionHolds_50 : decode cX9_conditionHolds 50 = .ok (.iload_n 2, 1) := by decide +kernel
theorem dX9_conditionHolds_51 : decode cX9_conditionHolds 51 = .ok (.aload_n 0, 1) := by decide +kernel
theorem dX9_conditionHolds_52 : decode cX9_conditionHolds 52 = .ok (.getfield 38, 3) := by decide +kernel
theorem dX9_conditionHolds_55 : decode cX9_conditionHolds 55 = .ok (.getfield 142, 3) := by decide +kernel
theorem dX9_conditionHolds_58 : decode cX9_conditionHolds 58 = .ok (.aload_n 1, 1) := by decide +kernel
theorem dX9_conditionHolds_59 : decode cX9_conditionHolds 59 = .ok (.invokevirtual 146, 3) := by decide +kernel
theorem dX9_conditionHolds_62 : decode cX9_conditionHolds 62 = .ok (.invokevirtual 312, 3) := by decide +kernel
theorem dX9_conditionHolds_65 : decode cX9_conditionHolds 65 = .ok (.ifCond .ne 7, 3) := by decide +kernel
theorem dX9_conditionHolds_68 : decode cX9_conditionHolds 68 = .ok (.iconst 1, 1) := by decide +kernel
theorem dX9_conditionHolds_69 : decode cX9_conditionHolds 69 = .ok (.goto 4, 3) := by decide +kernel
theorem dX9_conditionHolds_72 : decode cX9_conditionHolds 72 = .ok (.iconst 0, 1) := by decide +kernel
theorem dX9_conditionHolds_73 : decode cX9_conditionHolds 73 = .ok (.ireturn, 1) := by decide +kernel
theorem dX9_conditionHolds_74 : decode cX9_conditionHolds 74 = .ok (.aload_n 0, 1) := by decide +kernel
theorem dX9_conditionHolds_75 : decode cX9_conditionHolds 75 = .ok (.getfield 38, 3) := by decide +kernel
theorem dX9_conditionHolds_78 : decode cX9_conditionHolds 78 = .ok (.getfield 142, 3) := by decide +kernel
theorem dX9_conditionHolds_81 : decode cX9_conditionHolds 81 = .ok (.aload_n 1, 1) := by decide +kernel
theorem dX9_conditionHolds_82 : decode cX9_conditionHolds 82 = .ok (.invokevirtual 315, 3) := by decide +kernel
theorem dX9_conditionHolds_85 : decode cX9_conditionHolds 85 = .ok (.ireturn, 1) := by decide +kernel
def wW_k_X9_conditionHolds (ty : Nat → ClassId) (X : Nat → Nat) (z9_0 : Int32) (z9_1 : Int32) (z9_2 : Int32) (z9_3 : Int32) (z9_4 : Int32) (z9_5 : Int32) (z9_6 : Int32) (z9_7 : Int32) (z9_8 : Int32) (z9_9 : Int32) (z9_10 : Nat → Int64) (z9_11 : Nat → Int32) (z9_12 : Int32) (z9_13 : Int32) (z9_14 : Int32) (z9_15 : Int32) (z9_16 : Int32) (z9_17 : Int32) (z9_18 : Int32) (z9_19 : Int32) (z9_20 : Int32) (z9_21 : Nat → Int32) (z9_22 : Nat → Int32) : va_W := [((X 8), .inr (5, [.ref (X 1), .ref (X 9), .ref (X 10), .ref (X 12), .ref (X 14), .int z9_0, .ref (X 15), .ref (X 16), .ref (X 17), .int z9_1, .ref (X 18), .ref (X 19), .int z9_2, .int z9_3, .int z9_4, .int z9_5])), ((X 9), .inr (4, [.int z9_6, .int z9_7, .int z9_8, .int z9_9])), ((X 10), .inr (3, [.ref (X 11)])), ((X 11), .inl (ty 1, 6, .inr (.inl z9_10))), ((X 19), .inl (ty 0, 384, .inl z9_11)), ((X 20), .inr (11, [.ref (X 1), .ref (X 8), .ref (X 21), .ref (X 28), .ref (X 35), .int z9_12, .ref (X 36), .ref (X 37), .ref (X 38), .int z9_13, .int z9_14, .int z9_15, .int z9_16, .int z9_17, .int z9_18, .int z9_19, .int z9_20])), ((X 36), .inl (ty 0, 6, .inl z9_21)), ((X 37), .inl (ty 0, 6, .inl z9_22))]
def vs_k_X9_conditionHolds : List Cond := .code yX9_conditionHolds cX9_conditionHolds 3 (some .boolean) :: ([.methodLink RX9 253 yX4_isCount, .instanceMethod yX4_isCount, .selects RX4 yX4_isCount yX4_isCount, .initialized RX4, .fieldLink RX9 38 "AnswerFold$Solver" "grounding" "LAnswerFold$Grounding;", .methodLink RX9 315 yX2_testHolds, .instanceMethod yX2_testHolds, .selects RX2 yX2_testHolds yX2_testHolds, .initialized RX2, .methodLink RX9 146 yX2_atomOf, .instanceMethod yX2_atomOf, .selects RX2 yX2_atomOf yX2_atomOf, .methodLink RX9 312 yX9_isIn, .instanceMethod yX9_isIn, .selects RX9 yX9_isIn yX9_isIn, .initialized RX9, .methodLink RX9 256 yX9_countHolds, .instanceMethod yX9_countHolds, .selects RX9 yX9_countHolds yX9_countHolds] ++ (vs_k_X4_isCount ++ (u_ws RX4 TX4 8 ++ (u_ws RX9 TX9 17 ++ (u_ws RX3 TX3 16 ++ (vs_k_X2_testHolds ++ (vs_k_X2_atomOf ++ (vs_k_X9_isIn ++ (vs_k_X9_countHolds)))))))))
theorem iv_k_X9_conditionHolds_X3 : ∀ w ∈ u_ws RX3 TX3 16, w ∈ vs_k_X9_conditionHolds := (fun _ h => List.mem_cons_of_mem _ (List.mem_append_right _ (List.mem_append_right _ (List.mem_append_right _ (List.mem_append_right _ (List.mem_append_left _ h))))))
theorem iv_k_X9_conditionHolds_X4 : ∀ w ∈ u_ws RX4 TX4 8, w ∈ vs_k_X9_conditionHolds := (fun _ h => List.mem_cons_of_mem _ (List.mem_append_right _ (List.mem_append_right _ (List.mem_append_left _ h))))
theorem iv_k_X9_conditionHolds_X9 : ∀ w ∈ u_ws RX9 TX9 17, w ∈ vs_k_X9_conditionHolds := (fun _ h => List.mem_cons_of_mem _ (List.mem_append_right _ (List.mem_append_right _ (List.mem_append_right _ (List.mem_append_left _ h)))))
set_option maxRecDepth 20000 in
theorem gv_k_X9_conditionHolds_0 : GoodIn vs_k_X9_conditionHolds (wsV RX9 253 RX4 yX4_isCount vs_k_X4_isCount) := goodIn_app (goodIn_sub (by decide +kernel) (by decide +kernel)) (goodIn_sub (fun _ h => List.mem_cons_of_mem _ (List.mem_append_right _ (List.mem_append_left _ h))) (by decide +kernel))
set_option maxRecDepth 20000 in
theorem gv_k_X9_conditionHolds_1 : GoodIn vs_k_X9_conditionHolds (wsV RX9 315 RX2 yX2_testHolds vs_k_X2_testHolds) := goodIn_app (goodIn_sub (by decide +kernel) (by decide +kernel)) (goodIn_sub (fun _ h => List.mem_cons_of_mem _ (List.mem_append_right _ (List.mem_append_right _ (List.mem_append_right _ (List.mem_append_right _ (List.mem_append_right _ (List.mem_append_left _ h))))))) (by decide +kernel))
set_option maxRecDepth 20000 in
theorem gv_k_X9_conditionHolds_2 : GoodIn vs_k_X9_conditionHolds (wsV RX9 146 RX2 yX2_atomOf vs_k_X2_atomOf) := goodIn_app (goodIn_sub (by decide +kernel) (by decide +kernel)) (goodIn_sub (fun _ h => List.mem_cons_of_mem _ (List.mem_append_right _ (List.mem_append_right _ (List.mem_append_right _ (List.mem_append_right _ (List.mem_append_right _ (List.mem_append_right _ (List.mem_append_left _ h)))))))) (by decide +kernel))
set_option maxRecDepth 20000 in
theorem gv_k_X9_conditionHolds_3 : GoodIn vs_k_X9_conditionHolds (wsV RX9 312 RX9 yX9_isIn vs_k_X9_isIn) := goodIn_app (goodIn_sub (by decide +kernel) (by decide +kernel)) (goodIn_sub (fun _ h => List.mem_cons_of_mem _ (List.mem_append_right _ (List.mem_append_right _ (List.mem_append_right _ (List.mem_append_right _ (List.mem_append_right _ (List.mem_append_right _ (List.mem_append_right _ (List.mem_append_left _ h))))))))) (by decide +kernel))
set_option maxRecDepth 20000 in
theorem gv_k_X9_conditionHolds_4 : GoodIn vs_k_X9_conditionHolds (wsV RX9 146 RX2 yX2_atomOf vs_k_X2_atomOf) := goodIn_app (goodIn_sub (by decide +kernel) (by decide +kernel)) (goodIn_sub (fun _ h => List.mem_cons_of_mem _ (List.mem_append_right _ (List.mem_append_right _ (List.mem_append_right _ (List.mem_append_right _ (List.mem_append_right _ (List.mem_append_right _ (List.mem_append_left _ h)))))))) (by decide +kernel))
set_option maxRecDepth 20000 in
theorem gv_k_X9_conditionHolds_5 : GoodIn vs_k_X9_conditionHolds (wsV RX9 312 RX9 yX9_isIn vs_k_X9_isIn) := goodIn_app (goodIn_sub (by decide +kernel) (by decide +kernel)) (goodIn_sub (fun _ h => List.mem_cons_of_mem _ (List.mem_append_right _ (List.mem_append_right _ (List.mem_append_right _ (List.mem_append_right _ (List.mem_append_right _ (List.mem_append_right _ (List.mem_append_right _ (List.mem_append_left _ h))))))))) (by decide +kernel))
set_option maxRecDepth 20000 in
theorem gv_k_X9_conditionHolds_6 : GoodIn vs_k_X9_conditionHolds (wsV RX9 256 RX9 yX9_countHolds vs_k_X9_countHolds) := goodIn_app (goodIn_sub (by decide +kernel) (by decide +kernel)) (goodIn_sub (fun _ h => List.mem_cons_of_mem _ (List.mem_append_right _ (List.mem_append_right _ (List.mem_append_right _ (List.mem_append_right _ (List.mem_append_right _ (List.mem_append_right _ (List.mem_append_right _ (List.mem_append_right _ (h)))))))))) (by decide +kernel))
set_option maxHeartbeats 4000000 in
set_option maxRecDepth 100000 in
theorem k_X9_conditionHolds (l : Launch) (D : va_G) (ty : Nat → ClassId) (td mi sz : Nat) (pp : pT) (X : Nat → Nat) (hn : Int32) (kn : Int32) (on : Int32) (cu : Int32) (pu : Int32) (gw : Int32) (b_1 : Int32) (b_2 : Int32) (b_3 : Int32) (b_p : Int32) (su : Nat → Int64) (ob : Nat → Int32) (an : Int32) (ch : Int32) (cg : Int32) (fb : Int32) (mh : Int32) (ml : Int32) (ih : Int32) (lb : Int32) (ic : Int32) (obi : Nat → Int32) (sc : Nat → Int32) (a0 : Nat) (a1 : Int32) (hok : pOK pp) (hm_a0 : a0 ∈ pLA pp) (TT : r_k_X9_conditionHolds) (hTT : TT = m_k_X9_conditionHolds pp on b_1 b_2 b_3 b_p su ob obi sc a0 a1) : Met l yX9_conditionHolds vs_k_X9_conditionHolds { frames := 3, cells := 0, slots := 0, locals := 66 } (va_Pc [.ref (X 20), .ref a0, .int a1] (wq_P D ty td mi ((wW_k_X9_conditionHolds ty X hn kn on cu pu gw b_1 b_2 b_3 b_p su ob an ch cg fb mh ml ih lb ic obi sc) ++ pw ty pp) sz)) (va_Qi (fun (r : Int32) (u : va_W) => (r = TT ∧ (TT = 0 ∨ TT = 1) ∧ (u = ((wW_k_X9_conditionHolds ty X hn kn on cu pu gw b_1 b_2 b_3 b_p su ob an ch cg fb mh ml ih lb ic obi sc) ++ pw ty pp)))) (wq_B D (va_A ((wW_k_X9_conditionHolds ty X hn kn on cu pu gw b_1 b_2 b_3 b_p su ob an ch cg fb mh ml ih lb ic obi sc) ++ pw ty pp) sz)) (va_A ((wW_k_X9_conditionHolds ty X hn kn on cu pu gw b_1 b_2 b_3 b_p su ob an ch cg fb mh ml ih lb ic obi sc) ++ pw ty pp) sz)) 0 0 (va_A ((wW_k_X9_conditionHolds ty X hn kn on cu pu gw b_1 b_2 b_3 b_p su ob an ch cg fb mh ml ih lb ic obi sc) ++ pw ty pp) sz) := by
  refine Met.ofW (cc := cX9_conditionHolds) (maxL := 3) (ret := (some .boolean)) (by decide) rfl ?_
  intro p e s m args below meth c s₁ B hml hv
  obtain ⟨rfl, hsz, hP, hK, hD0, hE⟩ := hv
  have hx := B.exec
  have hb := B.bytes
  have hr := B.returns
  have hts := atoms_spec (ws := vs_k_X9_conditionHolds) B.pre
  have hown : s.vm.findClass RX9 = some m.cls := findClass_of_methodNamed B.named
  have hlocks := B.notSynchronized
  subst hsz
  have hD := hD0.self (sz := s.heap.size)
  generalize hAe : va_A ((wW_k_X9_conditionHolds ty X hn kn on cu pu gw b_1 b_2 b_3 b_p su ob an ch cg fb mh ml ih lb ic obi sc) ++ pw ty pp) s.heap.size = A at hD hE ⊢
  have hA : ∀ q : Nat, s.heap.size ≤ q → A q := fun q h => by rw [← hAe]; exact Or.inr h
  have hS : va_S A s.heap s.heap [] := va_S.rf
  have hP : va_P D vwCl ((wW_k_X9_conditionHolds ty X hn kn on cu pu gw b_1 b_2 b_3 b_p su ob an ch cg fb mh ml ih lb ic obi sc) ++ pw ty pp) s.heap := hP
  have hl := lv_entry ([.ref (X 20), .ref a0, .int a1]) (n := 3) (Nat.le_of_ble_eq_true rfl)
  rw [lg_entry_eq]
  generalize (lg_sl ([.ref (X 20), .ref a0, .int a1]) ++ List.replicate (3 - (lg_sl ([.ref (X 20), .ref a0, .int a1])).length) Slot.unset).toArray = ls at hl ⊢
  have hl : lv_has ls 3 [(0, .ref (X 20)), (1, .ref a0), (2, .int a1)] := hl
  have END : ∀ (r : Int32), TT = r → (r = 0 ∨ r = 1) → ∀ (H : Heap) (locs : List Loc), va_P D vwCl ((wW_k_X9_conditionHolds ty X hn kn on cu pu gw b_1 b_2 b_3 b_p su ob an ch cg fb mh ml ih lb ic obi sc) ++ pw ty pp) H → va_D A ((wW_k_X9_conditionHolds ty X hn kn on cu pu gw b_1 b_2 b_3 b_p su ob an ch cg fb mh ml ih lb ic obi sc) ++ pw ty pp) → va_S A s.heap H locs → ∀ (ls : Array Slot) (pc : Nat), decode cX9_conditionHolds pc = .ok (.ireturn, 1) → W p l e (headSpec vs_k_X9_conditionHolds { frames := 3, cells := 0, slots := 0, locals := 66 }).room s m ([.ref (X 20), .ref a0, .int a1] : List Value).toArray below meth c H locs 0 0 (MQ below (va_Qi (fun (r : Int32) (u : va_W) => (r = TT ∧ (TT = 0 ∨ TT = 1) ∧ (u = ((wW_k_X9_conditionHolds ty X hn kn on cu pu gw b_1 b_2 b_3 b_p su ob an ch cg fb mh ml ih lb ic obi sc) ++ pw ty pp)))) (wq_B D A) A) ([.ref (X 20), .ref a0, .int a1] : List Value).toArray s 0 0 A) (F0 m pc ls [.int r]) := by
    intro r hT hb01 H locs hP hD hS ls pc hd
    have hM : TT = r := hT
    exact W.zret (v := r) hx hb hr (wz_nar hb01) (fun t ht hW => ⟨⟨r, ((wW_k_X9_conditionHolds ty X hn kn on cu pu gw b_1 b_2 b_3 b_p su ob an ch cg fb mh ml ih lb ic obi sc) ++ pw ty pp), rfl, ⟨(by rw [hM]), (by rw [hM]; exact hb01), rfl⟩, wq_B.of ht hP hD⟩, hS.F ht⟩) hS.2.2 hd
  have hT := hTT
  rw [m_k_X9_conditionHolds] at hT
  refine lv_aload_n hx hb dX9_conditionHolds_0 rfl (lv_at hl 1 rfl) ?_
  obtain ⟨t_1, ht_1⟩ : ∃ t, t = m_k_X4_isCount pp a0 := ⟨_, rfl⟩
  rw [lE_eq ht_1] at hT
  obtain ⟨k_1, hk_1⟩ := List.getElem?_of_mem (pw_lit (ty := ty) (p := pp) (L := [((X 8), .inr (5, [.ref (X 1), .ref (X 9), .ref (X 10), .ref (X 12), .ref (X 14), .int hn, .ref (X 15), .ref (X 16), .ref (X 17), .int kn, .ref (X 18), .ref (X 19), .int on, .int cu, .int pu, .int gw])), ((X 9), .inr (4, [.int b_1, .int b_2, .int b_3, .int b_p])), ((X 10), .inr (3, [.ref (X 11)])), ((X 11), .inl (ty 1, 6, .inr (.inl su))), ((X 19), .inl (ty 0, 384, .inl ob)), ((X 20), .inr (11, [.ref (X 1), .ref (X 8), .ref (X 21), .ref (X 28), .ref (X 35), .int an, .ref (X 36), .ref (X 37), .ref (X 38), .int ch, .int cg, .int fb, .int mh, .int ml, .int ih, .int lb, .int ic])), ((X 36), .inl (ty 0, 6, .inl obi)), ((X 37), .inl (ty 0, 6, .inl sc))]) hm_a0)
  refine wq_iPW (wc := []) (pl := pw ty pp) (ux := []) (va_runV (As := []) (rest := []) ⟨hx, hb, hml, hown, hts⟩ (k_X4_isCount l D ty td mi s.heap.size pp a0 hok hm_a0 t_1 ht_1) (cwV 0 hts gv_k_X9_conditionHolds_0 rfl rfl rfl (by decide +kernel) ⟨(Nat.le_of_ble_eq_true rfl), (Nat.le_of_ble_eq_true rfl)⟩) (wm_V (wm_preSP hP hD hK hE hS hA [] rfl) (va_recv (q0 := k_1) (ci := 6) hK hP rfl hk_1)) rfl rfl hl.1 rfl (lv_room (Nat.le_of_ble_eq_true rfl)) dX9_conditionHolds_1 ⟨(Nat.le_of_ble_eq_true rfl), (Nat.le_of_ble_eq_true rfl)⟩) hS hA hP hD [] rfl rfl (fun _ _ h => h.2.2) (fun r H locs hw hP hD hS => ?_)
  obtain ⟨hr0, c_4, -⟩ := hw
  subst r
  have hP : va_P D vwCl ((wW_k_X9_conditionHolds ty X hn kn on cu pu gw b_1 b_2 b_3 b_p su ob an ch cg fb mh ml ih lb ic obi sc) ++ pw ty pp) H := hP
  have hD : va_D A ((wW_k_X9_conditionHolds ty X hn kn on cu pu gw b_1 b_2 b_3 b_p su ob an ch cg fb mh ml ih lb ic obi sc) ++ pw ty pp) := hD
  refine W.widen (k := 0) (n := 0) (Nat.le_of_ble_eq_true rfl) (Nat.le_of_ble_eq_true rfl) ?_
  refine lv_if_eq (tgt := 14) hx hb dX9_conditionHolds_4 (by decide) (fun c_5 => ?_) (fun c_5 => ?_)
  · rw [if_pos c_5] at hT
    refine lv_aload_n hx hb dX9_conditionHolds_14 rfl (lv_at hl 1 rfl) ?_
    obtain ⟨k_6, hk_6⟩ := List.getElem?_of_mem (pw_lit (ty := ty) (p := pp) (L := [((X 8), .inr (5, [.ref (X 1), .ref (X 9), .ref (X 10), .ref (X 12), .ref (X 14), .int hn, .ref (X 15), .ref (X 16), .ref (X 17), .int kn, .ref (X 18), .ref (X 19), .int on, .int cu, .int pu, .int gw])), ((X 9), .inr (4, [.int b_1, .int b_2, .int b_3, .int b_p])), ((X 10), .inr (3, [.ref (X 11)])), ((X 11), .inl (ty 1, 6, .inr (.inl su))), ((X 19), .inl (ty 0, 384, .inl ob)), ((X 20), .inr (11, [.ref (X 1), .ref (X 8), .ref (X 21), .ref (X 28), .ref (X 35), .int an, .ref (X 36), .ref (X 37), .ref (X 38), .int ch, .int cg, .int fb, .int mh, .int ml, .int ih, .int lb, .int ic])), ((X 36), .inl (ty 0, 6, .inl obi)), ((X 37), .inl (ty 0, 6, .inl sc))]) hm_a0)
    refine va_getN (D := D) (ci := 6) (v := .int (pI pp a0 0)) (C := RX4) (T := TX4) (N := 8) hx hb hts iv_k_X9_conditionHolds_X4 hown hK hP k_6 hk_6 rfl 0 (by decide) (hE.at (.fieldLinkNest "AnswerFold$Solver" 139 "AnswerFold$Literal" "kind" "C" "AnswerFold") (by decide +kernel)) (fun _ h9 => h9) rfl dX9_conditionHolds_15 ?_
    refine lv_bipush (v := 116) hx hb dX9_conditionHolds_18 (by decide) ?_
    refine lv_icmp_ne (tgt := 40) hx hb dX9_conditionHolds_20 (by decide) (fun c_7 => ?_) (fun c_7 => ?_)
    · rw [if_neg c_7] at hT
      refine lv_aload_n hx hb dX9_conditionHolds_40 rfl (lv_at hl 1 rfl) ?_
      obtain ⟨k_8, hk_8⟩ := List.getElem?_of_mem (pw_lit (ty := ty) (p := pp) (L := [((X 8), .inr (5, [.ref (X 1), .ref (X 9), .ref (X 10), .ref (X 12), .ref (X 14), .int hn, .ref (X 15), .ref (X 16), .ref (X 17), .int kn, .ref (X 18), .ref (X 19), .int on, .int cu, .int pu, .int gw])), ((X 9), .inr (4, [.int b_1, .int b_2, .int b_3, .int b_p])), ((X 10), .inr (3, [.ref (X 11)])), ((X 11), .inl (ty 1, 6, .inr (.inl su))), ((X 19), .inl (ty 0, 384, .inl ob)), ((X 20), .inr (11, [.ref (X 1), .ref (X 8), .ref (X 21), .ref (X 28), .ref (X 35), .int an, .ref (X 36), .ref (X 37), .ref (X 38), .int ch, .int cg, .int fb, .int mh, .int ml, .int ih, .int lb, .int ic])), ((X 36), .inl (ty 0, 6, .inl obi)), ((X 37), .inl (ty 0, 6, .inl sc))]) hm_a0)
      refine va_getN (D := D) (ci := 6) (v := .int (pI pp a0 0)) (C := RX4) (T := TX4) (N := 8) hx hb hts iv_k_X9_conditionHolds_X4 hown hK hP k_8 hk_8 rfl 0 (by decide) (hE.at (.fieldLinkNest "AnswerFold$Solver" 139 "AnswerFold$Literal" "kind" "C" "AnswerFold") (by decide +kernel)) (fun _ h9 => h9) rfl dX9_conditionHolds_41 ?_
      refine lv_bipush (v := 102) hx hb dX9_conditionHolds_44 (by decide) ?_
      refine lv_icmp_ne (tgt := 74) hx hb dX9_conditionHolds_46 (by decide) (fun c_9 => ?_) (fun c_9 => ?_)
      · rw [if_neg c_9] at hT
        refine lv_aload_n hx hb dX9_conditionHolds_74 rfl (lv_at hl 0 rfl) ?_
        refine va_get (D := D) (ci := 11) (v := .ref (X 8)) (C := RX9) (T := TX9) (N := 17) hx hb hts iv_k_X9_conditionHolds_X9 hown hK hP 5 rfl rfl 1 (by decide) (hts (.fieldLink RX9 38 "AnswerFold$Solver" "grounding" "LAnswerFold$Grounding;") (by decide +kernel)) (fun _ h9 => h9) rfl dX9_conditionHolds_75 ?_
        refine va_getN (D := D) (ci := 5) (v := .ref (X 9)) (C := RX3) (T := TX3) (N := 16) hx hb hts iv_k_X9_conditionHolds_X3 hown hK hP 0 rfl rfl 1 (by decide) (hE.at (.fieldLinkNest "AnswerFold$Solver" 142 "AnswerFold$Grounding" "binding" "LAnswerFold$Binding;" "AnswerFold") (by decide +kernel)) (fun _ h9 => h9) rfl dX9_conditionHolds_78 ?_
        refine lv_aload_n hx hb dX9_conditionHolds_81 rfl (lv_at hl 1 rfl) ?_
        obtain ⟨t_82, ht_82⟩ : ∃ t, t = m_k_X2_testHolds pp b_1 b_2 b_3 b_p a0 := ⟨_, rfl⟩
        rw [lE_eq ht_82] at hT
        refine wq_iPW (wc := (wW_k_X2_testHolds ty X b_1 b_2 b_3 b_p)) (pl := pw ty pp) (ux := (wW_k_X2_testHolds ty X b_1 b_2 b_3 b_p)) (va_runV (As := [.ref a0]) (rest := []) ⟨hx, hb, hml, hown, hts⟩ (k_X2_testHolds l D ty td mi H.size pp X b_1 b_2 b_3 b_p a0 hok hm_a0 t_82 ht_82) (cwV 1 hts gv_k_X9_conditionHolds_1 rfl rfl rfl (by decide +kernel) ⟨(Nat.le_of_ble_eq_true rfl), (Nat.le_of_ble_eq_true rfl)⟩) (wm_V (wm_preSP hP hD hK hE hS hA [false, true] rfl) (va_recv (q0 := 1) (ci := 4) hK hP rfl rfl)) rfl rfl hl.1 rfl (lv_room (Nat.le_of_ble_eq_true rfl)) dX9_conditionHolds_82 ⟨(Nat.le_of_ble_eq_true rfl), (Nat.le_of_ble_eq_true rfl)⟩) hS hA hP hD [false, true] rfl rfl (fun _ _ h => h.2.2) (fun r H locs hw hP hD hS => ?_)
        obtain ⟨hr0, c_12, -⟩ := hw
        subst r
        have hP : va_P D vwCl ((wW_k_X9_conditionHolds ty X hn kn on cu pu gw b_1 b_2 b_3 b_p su ob an ch cg fb mh ml ih lb ic obi sc) ++ pw ty pp) H := hP
        have hD : va_D A ((wW_k_X9_conditionHolds ty X hn kn on cu pu gw b_1 b_2 b_3 b_p su ob an ch cg fb mh ml ih lb ic obi sc) ++ pw ty pp) := hD
        refine W.widen (k := 0) (n := 0) (Nat.le_of_ble_eq_true rfl) (Nat.le_of_ble_eq_true rfl) ?_
        exact END t_82 hT c_12 _ _ hP hD hS _ _ dX9_conditionHolds_85
      · rw [if_pos c_9] at hT
        refine lv_aload_n hx hb dX9_conditionHolds_49 rfl (lv_at hl 0 rfl) ?_
        refine lv_iload_n hx hb dX9_conditionHolds_50 rfl (lv_at hl 2 rfl) ?_
        refine lv_aload_n hx hb dX9_conditionHolds_51 rfl (lv_at hl 0 rfl) ?_
        refine va_get (D := D) (ci := 11) (v := .ref (X 8)) (C := RX9) (T := TX9) (N := 17) hx hb hts iv_k_X9_conditionHolds_X9 hown hK hP 5 rfl rfl 1 (by decide) (hts (.fieldLink RX9 38 "AnswerFold$Solver" "grounding" "LAnswerFold$Grounding;") (by decide +kernel)) (fun _ h9 => h9) rfl dX9_conditionHolds_52 ?_
        refine va_getN (D := D) (ci := 5) (v := .ref (X 9)) (C := RX3) (T := TX3) (N := 16) hx hb hts iv_k_X9_conditionHolds_X3 hown hK hP 0 rfl rfl 1 (by decide) (hE.at (.fieldLinkNest "AnswerFold$Solver" 142 "AnswerFold$Grounding" "binding" "LAnswerFold$Binding;" "AnswerFold") (by decide +kernel)) (fun _ h9 => h9) rfl dX9_conditionHolds_55 ?_
        refine lv_aload_n hx hb dX9_conditionHolds_58 rfl (lv_at hl 1 rfl) ?_
        obtain ⟨t_59, ht_59⟩ : ∃ t, t = m_k_X2_atomOf pp b_1 b_2 b_3 b_p a0 := ⟨_, rfl⟩
        rw [lE_eq ht_59] at hT
        refine wq_iPW (wc := (wW_k_X2_atomOf ty X b_1 b_2 b_3 b_p)) (pl := pw ty pp) (ux := (wW_k_X2_atomOf ty X b_1 b_2 b_3 b_p)) (va_runV (As := [.ref a0]) (rest := [.int a1, .ref (X 20)]) ⟨hx, hb, hml, hown, hts⟩ (k_X2_atomOf l D ty td mi H.size pp X b_1 b_2 b_3 b_p a0 hok hm_a0 t_59 ht_59) (cwV 1 hts gv_k_X9_conditionHolds_2 rfl rfl rfl (by decide +kernel) ⟨(Nat.le_of_ble_eq_true rfl), (Nat.le_of_ble_eq_true rfl)⟩) (wm_V (wm_preSP hP hD hK hE hS hA [false, true] rfl) (va_recv (q0 := 1) (ci := 4) hK hP rfl rfl)) rfl rfl hl.1 rfl (lv_room (Nat.le_of_ble_eq_true rfl)) dX9_conditionHolds_59 ⟨(Nat.le_of_ble_eq_true rfl), (Nat.le_of_ble_eq_true rfl)⟩) hS hA hP hD [false, true] rfl rfl (fun _ _ h => h.2) (fun r H locs hw hP hD hS => ?_)
        obtain ⟨hr0, -⟩ := hw
        subst r
        have hP : va_P D vwCl ((wW_k_X9_conditionHolds ty X hn kn on cu pu gw b_1 b_2 b_3 b_p su ob an ch cg fb mh ml ih lb ic obi sc) ++ pw ty pp) H := hP
        have hD : va_D A ((wW_k_X9_conditionHolds ty X hn kn on cu pu gw b_1 b_2 b_3 b_p su ob an ch cg fb mh ml ih lb ic obi sc) ++ pw ty pp) := hD
        refine W.widen (k := 0) (n := 0) (Nat.le_of_ble_eq_true rfl) (Nat.le_of_ble_eq_true rfl) ?_
        obtain ⟨t_62, ht_62⟩ : ∃ t, t = m_k_X9_isIn on su ob a1 t_59 := ⟨_, rfl⟩
        rw [lE_eq ht_62] at hT
        refine wq_iQW (wc := (wW_k_X9_isIn ty X hn kn on cu pu gw su ob an ch cg fb mh ml ih lb ic)) (pl := pw ty pp) (va_runV (As := [.int a1, .int t_59]) (rest := []) ⟨hx, hb, hml, hown, hts⟩ (k_X9_isIn l D ty td mi H.size X hn kn on cu pu gw su ob an ch cg fb mh ml ih lb ic a1 t_59 t_62 ht_62) (cwV 2 hts gv_k_X9_conditionHolds_3 rfl rfl rfl (by decide +kernel) ⟨(Nat.le_of_ble_eq_true rfl), (Nat.le_of_ble_eq_true rfl)⟩) (wm_V (wm_preS (vP_left hP) (vD_left hD) hK hE hS hA [true, false, true, true, true, true] rfl) (va_recv (q0 := 5) (ci := 11) hK hP rfl rfl)) rfl rfl hl.1 rfl (lv_room (Nat.le_of_ble_eq_true rfl)) dX9_conditionHolds_62 ⟨(Nat.le_of_ble_eq_true rfl), (Nat.le_of_ble_eq_true rfl)⟩) hS hA hP hD [true, false, true, true, true, true] rfl (fun _ _ h => by rcases h with ⟨-, -, rfl⟩; rfl) (fun r u H locs hw hP hD hS => ?_)
        obtain ⟨hr0, c_17, rfl⟩ := hw
        subst r
        have hP : va_P D vwCl ((wW_k_X9_conditionHolds ty X hn kn on cu pu gw b_1 b_2 b_3 b_p su ob an ch cg fb mh ml ih lb ic obi sc) ++ pw ty pp) H := hP
        have hD : va_D A ((wW_k_X9_conditionHolds ty X hn kn on cu pu gw b_1 b_2 b_3 b_p su ob an ch cg fb mh ml ih lb ic obi sc) ++ pw ty pp) := hD
        refine W.widen (k := 0) (n := 0) (Nat.le_of_ble_eq_true rfl) (Nat.le_of_ble_eq_true rfl) ?_
        refine lv_if_ne (tgt := 72) hx hb dX9_conditionHolds_65 (by decide) (fun c_18 => ?_) (fun c_18 => ?_)
        · rw [if_neg c_18] at hT
          refine lv_iconst (v := 0) hx hb dX9_conditionHolds_72 (by decide) ?_
          exact END 0 hT (by decide) _ _ hP hD hS _ _ dX9_conditionHolds_73
        · rw [if_pos c_18] at hT
          refine lv_iconst (v := 1) hx hb dX9_conditionHolds_68 (by decide) ?_
          refine lv_goto (tgt := 73) hx hb dX9_conditionHolds_69 (by decide) ?_
          exact END 1 hT (by decide) _ _ hP hD hS _ _ dX9_conditionHolds_73
    · rw [if_pos c_7] at hT
      refine lv_aload_n hx hb dX9_conditionHolds_23 rfl (lv_at hl 0 rfl) ?_
      refine lv_iload_n hx hb dX9_conditionHolds_24 rfl (lv_at hl 2 rfl) ?_
      refine lv_aload_n hx hb dX9_conditionHolds_25 rfl (lv_at hl 0 rfl) ?_
      refine va_get (D := D) (ci := 11) (v := .ref (X 8)) (C := RX9) (T := TX9) (N := 17) hx hb hts iv_k_X9_conditionHolds_X9 hown hK hP 5 rfl rfl 1 (by decide) (hts (.fieldLink RX9 38 "AnswerFold$Solver" "grounding" "LAnswerFold$Grounding;") (by decide +kernel)) (fun _ h9 => h9) rfl dX9_conditionHolds_26 ?_
      refine va_getN (D := D) (ci := 5) (v := .ref (X 9)) (C := RX3) (T := TX3) (N := 16) hx hb hts iv_k_X9_conditionHolds_X3 hown hK hP 0 rfl rfl 1 (by decide) (hE.at (.fieldLinkNest "AnswerFold$Solver" 142 "AnswerFold$Grounding" "binding" "LAnswerFold$Binding;" "AnswerFold") (by decide +kernel)) (fun _ h9 => h9) rfl dX9_conditionHolds_29 ?_
      refine lv_aload_n hx hb dX9_conditionHolds_32 rfl (lv_at hl 1 rfl) ?_
      obtain ⟨t_33, ht_33⟩ : ∃ t, t = m_k_X2_atomOf pp b_1 b_2 b_3 b_p a0 := ⟨_, rfl⟩
      rw [lE_eq ht_33] at hT
      refine wq_iPW (wc := (wW_k_X2_atomOf ty X b_1 b_2 b_3 b_p)) (pl := pw ty pp) (ux := (wW_k_X2_atomOf ty X b_1 b_2 b_3 b_p)) (va_runV (As := [.ref a0]) (rest := [.int a1, .ref (X 20)]) ⟨hx, hb, hml, hown, hts⟩ (k_X2_atomOf l D ty td mi H.size pp X b_1 b_2 b_3 b_p a0 hok hm_a0 t_33 ht_33) (cwV 1 hts gv_k_X9_conditionHolds_4 rfl rfl rfl (by decide +kernel) ⟨(Nat.le_of_ble_eq_true rfl), (Nat.le_of_ble_eq_true rfl)⟩) (wm_V (wm_preSP hP hD hK hE hS hA [false, true] rfl) (va_recv (q0 := 1) (ci := 4) hK hP rfl rfl)) rfl rfl hl.1 rfl (lv_room (Nat.le_of_ble_eq_true rfl)) dX9_conditionHolds_33 ⟨(Nat.le_of_ble_eq_true rfl), (Nat.le_of_ble_eq_true rfl)⟩) hS hA hP hD [false, true] rfl rfl (fun _ _ h => h.2) (fun r H locs hw hP hD hS => ?_)
      obtain ⟨hr0, -⟩ := hw
      subst r
      have hP : va_P D vwCl ((wW_k_X9_conditionHolds ty X hn kn on cu pu gw b_1 b_2 b_3 b_p su ob an ch cg fb mh ml ih lb ic obi sc) ++ pw ty pp) H := hP
      have hD : va_D A ((wW_k_X9_conditionHolds ty X hn kn on cu pu gw b_1 b_2 b_3 b_p su ob an ch cg fb mh ml ih lb ic obi sc) ++ pw ty pp) := hD
      refine W.widen (k := 0) (n := 0) (Nat.le_of_ble_eq_true rfl) (Nat.le_of_ble_eq_true rfl) ?_
      obtain ⟨t_36, ht_36⟩ : ∃ t, t = m_k_X9_isIn on su ob a1 t_33 := ⟨_, rfl⟩
      rw [lE_eq ht_36] at hT
      refine wq_iQW (wc := (wW_k_X9_isIn ty X hn kn on cu pu gw su ob an ch cg fb mh ml ih lb ic)) (pl := pw ty pp) (va_runV (As := [.int a1, .int t_33]) (rest := []) ⟨hx, hb, hml, hown, hts⟩ (k_X9_isIn l D ty td mi H.size X hn kn on cu pu gw su ob an ch cg fb mh ml ih lb ic a1 t_33 t_36 ht_36) (cwV 2 hts gv_k_X9_conditionHolds_5 rfl rfl rfl (by decide +kernel) ⟨(Nat.le_of_ble_eq_true rfl), (Nat.le_of_ble_eq_true rfl)⟩) (wm_V (wm_preS (vP_left hP) (vD_left hD) hK hE hS hA [true, false, true, true, true, true] rfl) (va_recv (q0 := 5) (ci := 11) hK hP rfl rfl)) rfl rfl hl.1 rfl (lv_room (Nat.le_of_ble_eq_true rfl)) dX9_conditionHolds_36 ⟨(Nat.le_of_ble_eq_true rfl), (Nat.le_of_ble_eq_true rfl)⟩) hS hA hP hD [true, false, true, true, true, true] rfl (fun _ _ h => by rcases h with ⟨-, -, rfl⟩; rfl) (fun r u H locs hw hP hD hS => ?_)
      obtain ⟨hr0, c_23, rfl⟩ := hw
      subst r
      have hP : va_P D vwCl ((wW_k_X9_conditionHolds ty X hn kn on cu pu gw b_1 b_2 b_3 b_p su ob an ch cg fb mh ml ih lb ic obi sc) ++ pw ty pp) H := hP
      have hD : va_D A ((wW_k_X9_conditionHolds ty X hn kn on cu pu gw b_1 b_2 b_3 b_p su ob an ch cg fb mh ml ih lb ic obi sc) ++ pw ty pp) := hD
      refine W.widen (k := 0) (n := 0) (Nat.le_of_ble_eq_true rfl) (Nat.le_of_ble_eq_true rfl) ?_
      exact END t_36 hT c_23 _ _ hP hD hS _ _ dX9_conditionHolds_39
  · rw [if_neg c_5] at hT
    refine lv_aload_n hx hb dX9_conditionHolds_7 rfl (lv_at hl 0 rfl) ?_
    refine lv_aload_n hx hb dX9_conditionHolds_8 rfl (lv_at hl 1 rfl) ?_
    refine lv_iload_n hx hb dX9_conditionHolds_9 rfl (lv_at hl 2 rfl) ?_
    obtain ⟨t_10, ht_10⟩ : ∃ t, t = m_k_X9_countHolds pp obi sc a0 a1 := ⟨_, rfl⟩
    rw [lE_eq ht_10] at hT
    refine wq_iPW (wc := (wW_k_X9_countHolds ty X an ch cg fb mh ml ih lb ic obi sc)) (pl := pw ty pp) (ux := (wW_k_X9_countHolds ty X an ch cg fb mh ml ih lb ic obi sc)) (va_runV (As := [.ref a0, .int a1]) (rest := []) ⟨hx, hb, hml, hown, hts⟩ (k_X9_countHolds l D ty td mi H.size pp X an ch cg fb mh ml ih lb ic obi sc a0 a1 hok hm_a0 t_10 ht_10) (cwV 2 hts gv_k_X9_conditionHolds_6 rfl rfl rfl (by decide +kernel) ⟨(Nat.le_of_ble_eq_true rfl), (Nat.le_of_ble_eq_true rfl)⟩) (wm_V (wm_preSP hP hD hK hE hS hA [false, false, false, false, false, true, true, true] rfl) (va_recv (q0 := 5) (ci := 11) hK hP rfl rfl)) rfl rfl hl.1 rfl (lv_room (Nat.le_of_ble_eq_true rfl)) dX9_conditionHolds_10 ⟨(Nat.le_of_ble_eq_true rfl), (Nat.le_of_ble_eq_true rfl)⟩) hS hA hP hD [false, false, false, false, false, true, true, true] rfl rfl (fun _ _ h => h.2.2) (fun r H locs hw hP hD hS => ?_)
    obtain ⟨hr0, c_26, -⟩ := hw
    subst r
    have hP : va_P D vwCl ((wW_k_X9_conditionHolds ty X hn kn on cu pu gw b_1 b_2 b_3 b_p su ob an ch cg fb mh ml ih lb ic obi sc) ++ pw ty pp) H := hP
    have hD : va_D A ((wW_k_X9_conditionHolds ty X hn kn on cu pu gw b_1 b_2 b_3 b_p su ob an ch cg fb mh ml ih lb ic obi sc) ++ pw ty pp) := hD
    refine W.widen (k := 0) (n := 0) (Nat.le_of_ble_eq_true rfl) (Nat.le_of_ble_eq_true rfl) ?_
    exact END t_10 hT c_26 _ _ hP hD hS _ _ dX9_conditionHolds_13
theorem dX9_bodyHolds_0 : decode cX9_bodyHolds 0 = .ok (.iconst 0, 1) := by decide +kernel
theorem dX9_bodyHolds_1 : decode cX9_bodyHolds 1 = .ok (.istore_n 3, 1) := by decide +kernel
theorem dX9_bodyHolds_2 : decode cX9_bodyHolds 2 = .ok (.iload_n 3, 1) := by decide +kernel
theorem dX9_bodyHolds_3 : decode cX9_bodyHolds 3 = .ok (.aload_n 1, 1) := by decide +kernel
theorem dX9_bodyHolds_4 : decode cX9_bodyHolds 4 = .ok (.getfield 132, 3) := by decide +kernel
theorem dX9_bodyHolds_7 : decode cX9_bodyHolds 7 = .ok (.if_icmp .ge 33, 3) := by decide +kernel
theorem dX9_bodyHolds_10 : decode cX9_bodyHolds 10 = .ok (.aload_n 1, 1) := by decide +kernel
theorem dX9_bodyHolds_11 : decode cX9_bodyHolds 11 = .ok (.iload_n 3, 1) := by decide +kernel
theorem dX9_bodyHolds_12 : decode cX9_bodyHolds 12 = .ok (.invokevirtual 135, 3) := by decide +kernel
theorem dX9_bodyHolds_15 : decode cX9_bodyHolds 15 = .ok (.astore 4, 2) := by decide +kernel
theorem dX9_bodyHolds_17 : decode cX9_bodyHolds 17 = .ok (.aload 4, 2) := by decide +kernel
theorem dX9_bodyHolds_19 : decode cX9_bodyHolds 19 = .ok (.ifnull 15, 3) := by decide +kernel
theorem dX9_bodyHolds_22 : decode cX9_bodyHolds 22 = .ok (.aload_n 0, 1) := by decide +kernel
theorem dX9_bodyHolds_23 : decode cX9_bodyHolds 23 = .ok (.aload 4, 2) := by decide +kernel
theorem dX9_bodyHolds_25 : decode cX9_bodyHolds 25 = .ok (.iload_n 2, 1) := by decide +kernel
theorem dX9_bodyHolds_26 : decode cX9_bodyHolds 26 = .ok (.invokevirtual 309, 3) := by decide +kernel
theorem dX9_bodyHolds_29 : decode cX9_bodyHolds 29 = .ok (.ifCond .ne 5, 3) := by decide +kernel
theorem dX9_bodyHolds_32 : decode cX9_bodyHolds 32 = .ok (.iconst 0, 1) := by decide +kernel
theorem dX9_bodyHolds_33 : decode cX9_bodyHolds 33 = .ok (.ireturn, 1) := by decide +kernel
theorem dX9_bodyHolds_34 : decode cX9_bodyHolds 34 = .ok (.iinc 3 1, 3) := by decide +kernel
theorem dX9_bodyHolds_37 : decode cX9_bodyHolds 37 = .ok (.goto (-35), 3) := by decide +kernel
theorem dX9_bodyHolds_40 : decode cX9_bodyHolds 40 = .ok (.iconst 1, 1) := by decide +kernel
theorem dX9_bodyHolds_41 : decode cX9_bodyHolds 41 = .ok (.ireturn, 1) := by decide +kernel
def wW_k_X9_bodyHolds (ty : Nat → ClassId) (X : Nat → Nat) (z9_0 : Int32) (z9_1 : Int32) (z9_2 : Int32) (z9_3 : Int32) (z9_4 : Int32) (z9_5 : Int32) (z9_6 : Int32) (z9_7 : Int32) (z9_8 : Int32) (z9_9 : Int32) (z9_10 : Nat → Int64) (z9_11 : Nat → Int32) (z9_12 : Int32) (z9_13 : Int32) (z9_14 : Int32) (z9_15 : Int32) (z9_16 : Int32) (z9_17 : Int32) (z9_18 : Int32) (z9_19 : Int32) (z9_20 : Int32) (z9_21 : Nat → Int32) (z9_22 : Nat → Int32) : va_W := [((X 8), .inr (5, [.ref (X 1), .ref (X 9), .ref (X 10), .ref (X 12), .ref (X 14), .int z9_0, .ref (X 15), .ref (X 16), .ref (X 17), .int z9_1, .ref (X 18), .ref (X 19), .int z9_2, .int z9_3, .int z9_4, .int z9_5])), ((X 9), .inr (4, [.int z9_6, .int z9_7, .int z9_8, .int z9_9])), ((X 10), .inr (3, [.ref (X 11)])), ((X 11), .inl (ty 1, 6, .inr (.inl z9_10))), ((X 19), .inl (ty 0, 384, .inl z9_11)), ((X 20), .inr (11, [.ref (X 1), .ref (X 8), .ref (X 21), .ref (X 28), .ref (X 35), .int z9_12, .ref (X 36), .ref (X 37), .ref (X 38), .int z9_13, .int z9_14, .int z9_15, .int z9_16, .int z9_17, .int z9_18, .int z9_19, .int z9_20])), ((X 36), .inl (ty 0, 6, .inl z9_21)), ((X 37), .inl (ty 0, 6, .inl z9_22))]
def vs_k_X9_bodyHolds : List Cond := .code yX9_bodyHolds cX9_bodyHolds 5 (some .boolean) :: ([.methodLink RX9 135 yX8_conditionAt, .instanceMethod yX8_conditionAt, .selects RX8 yX8_conditionAt yX8_conditionAt, .initialized RX8, .methodLink RX9 309 yX9_conditionHolds, .instanceMethod yX9_conditionHolds, .selects RX9 yX9_conditionHolds yX9_conditionHolds, .initialized RX9] ++ (u_ws RX8 TX8 11 ++ (vs_k_X8_conditionAt ++ (vs_k_X9_conditionHolds))))
theorem iv_k_X9_bodyHolds_X8 : ∀ w ∈ u_ws RX8 TX8 11, w ∈ vs_k_X9_bodyHolds := (fun _ h => List.mem_cons_of_mem _ (List.mem_append_right _ (List.mem_append_left _ h)))
set_option maxRecDepth 20000 in
theorem gv_k_X9_bodyHolds_0 : GoodIn vs_k_X9_bodyHolds (wsV RX9 135 RX8 yX8_conditionAt vs_k_X8_conditionAt) := goodIn_app (goodIn_sub (by decide +kernel) (by decide +kernel)) (goodIn_sub (fun _ h => List.mem_cons_of_mem _ (List.mem_append_right _ (List.mem_append_right _ (List.mem_append_left _ h)))) (by decide +kernel))
set_option maxRecDepth 20000 in
theorem gv_k_X9_bodyHolds_1 : GoodIn vs_k_X9_bodyHolds (wsV RX9 309 RX9 yX9_conditionHolds vs_k_X9_conditionHolds) := goodIn_app (goodIn_sub (by decide +kernel) (by decide +kernel)) (goodIn_sub (fun _ h => List.mem_cons_of_mem _ (List.mem_append_right _ (List.mem_append_right _ (List.mem_append_right _ (h))))) (by decide +kernel))
set_option maxHeartbeats 4000000 in
set_option maxRecDepth 100000 in
theorem k_X9_bodyHolds (l : Launch) (D : va_G) (ty : Nat → ClassId) (td mi sz : Nat) (pp : pT) (X : Nat → Nat) (hn : Int32) (kn : Int32) (on : Int32) (cu : Int32) (pu : Int32) (gw : Int32) (b_1 : Int32) (b_2 : Int32) (b_3 : Int32) (b_p : Int32) (su : Nat → Int64) (ob : Nat → Int32) (an : Int32) (ch : Int32) (cg : Int32) (fb : Int32) (mh : Int32) (ml : Int32) (ih : Int32) (lb : Int32) (ic : Int32) (obi : Nat → Int32) (sc : Nat → Int32) (a0 : Nat) (a1 : Int32) (hok : pOK pp) (hm_a0 : a0 ∈ pRA pp) (TT : r_k_X9_bodyHolds) (hTT : TT = m_k_X9_bodyHolds pp on b_1 b_2 b_3 b_p su ob obi sc a0 a1) : Met l yX9_bodyHolds vs_k_X9_bodyHolds { frames := 4, cells := 0, slots := 0, locals := 88 } (va_Pc [.ref (X 20), .ref a0, .int a1] (wq_P D ty td mi ((wW_k_X9_bodyHolds ty X hn kn on cu pu gw b_1 b_2 b_3 b_p su ob an ch cg fb mh ml ih lb ic obi sc) ++ pw ty pp) sz)) (va_Qi (fun (r : Int32) (u : va_W) => (r = TT ∧ (TT = 0 ∨ TT = 1) ∧ (u = ((wW_k_X9_bodyHolds ty X hn kn on cu pu gw b_1 b_2 b_3 b_p su ob an ch cg fb mh ml ih lb ic obi sc) ++ pw ty pp)))) (wq_B D (va_A ((wW_k_X9_bodyHolds ty X hn kn on cu pu gw b_1 b_2 b_3 b_p su ob an ch cg fb mh ml ih lb ic obi sc) ++ pw ty pp) sz)) (va_A ((wW_k_X9_bodyHolds ty X hn kn on cu pu gw b_1 b_2 b_3 b_p su ob an ch cg fb mh ml ih lb ic obi sc) ++ pw ty pp) sz)) 0 0 (va_A ((wW_k_X9_bodyHolds ty X hn kn on cu pu gw b_1 b_2 b_3 b_p su ob an ch cg fb mh ml ih lb ic obi sc) ++ pw ty pp) sz) := by
  refine Met.ofW (cc := cX9_bodyHolds) (maxL := 5) (ret := (some .boolean)) (by decide) rfl ?_
  intro p e s m args below meth c s₁ B hml hv
  obtain ⟨rfl, hsz, hP, hK, hD0, hE⟩ := hv
  have hx := B.exec
  have hb := B.bytes
  have hr := B.returns
  have hts := atoms_spec (ws := vs_k_X9_bodyHolds) B.pre
  have hown : s.vm.findClass RX9 = some m.cls := findClass_of_methodNamed B.named
  have hlocks := B.notSynchronized
  subst hsz
  have hD := hD0.self (sz := s.heap.size)
  generalize hAe : va_A ((wW_k_X9_bodyHolds ty X hn kn on cu pu gw b_1 b_2 b_3 b_p su ob an ch cg fb mh ml ih lb ic obi sc) ++ pw ty pp) s.heap.size = A at hD hE ⊢
  have hA : ∀ q : Nat, s.heap.size ≤ q → A q := fun q h => by rw [← hAe]; exact Or.inr h
  have hS : va_S A s.heap s.heap [] := va_S.rf
  have hP : va_P D vwCl ((wW_k_X9_bodyHolds ty X hn kn on cu pu gw b_1 b_2 b_3 b_p su ob an ch cg fb mh ml ih lb ic obi sc) ++ pw ty pp) s.heap := hP
  have hl := lv_entry ([.ref (X 20), .ref a0, .int a1]) (n := 5) (Nat.le_of_ble_eq_true rfl)
  rw [lg_entry_eq]
  generalize (lg_sl ([.ref (X 20), .ref a0, .int a1]) ++ List.replicate (5 - (lg_sl ([.ref (X 20), .ref a0, .int a1])).length) Slot.unset).toArray = ls at hl ⊢
  have hl : lv_has ls 5 [(0, .ref (X 20)), (1, .ref a0), (2, .int a1)] := hl
  have END : ∀ (r : Int32), TT = r → (r = 0 ∨ r = 1) → ∀ (H : Heap) (locs : List Loc), va_P D vwCl ((wW_k_X9_bodyHolds ty X hn kn on cu pu gw b_1 b_2 b_3 b_p su ob an ch cg fb mh ml ih lb ic obi sc) ++ pw ty pp) H → va_D A ((wW_k_X9_bodyHolds ty X hn kn on cu pu gw b_1 b_2 b_3 b_p su ob an ch cg fb mh ml ih lb ic obi sc) ++ pw ty pp) → va_S A s.heap H locs → ∀ (ls : Array Slot) (pc : Nat), decode cX9_bodyHolds pc = .ok (.ireturn, 1) → W p l e (headSpec vs_k_X9_bodyHolds { frames := 4, cells := 0, slots := 0, locals := 88 }).room s m ([.ref (X 20), .ref a0, .int a1] : List Value).toArray below meth c H locs 0 0 (MQ below (va_Qi (fun (r : Int32) (u : va_W) => (r = TT ∧ (TT = 0 ∨ TT = 1) ∧ (u = ((wW_k_X9_bodyHolds ty X hn kn on cu pu gw b_1 b_2 b_3 b_p su ob an ch cg fb mh ml ih lb ic obi sc) ++ pw ty pp)))) (wq_B D A) A) ([.ref (X 20), .ref a0, .int a1] : List Value).toArray s 0 0 A) (F0 m pc ls [.int r]) := by
    intro r hT hb01 H locs hP hD hS ls pc hd
    have hM : TT = r := hT
    exact W.zret (v := r) hx hb hr (wz_nar hb01) (fun t ht hW => ⟨⟨r, ((wW_k_X9_bodyHolds ty X hn kn on cu pu gw b_1 b_2 b_3 b_p su ob an ch cg fb mh ml ih lb ic obi sc) ++ pw ty pp), rfl, ⟨(by rw [hM]), (by rw [hM]; exact hb01), rfl⟩, wq_B.of ht hP hD⟩, hS.F ht⟩) hS.2.2 hd
  have hT := hTT
  rw [m_k_X9_bodyHolds] at hT
  refine lv_iconst (v := 0) hx hb dX9_bodyHolds_0 (by decide) ?_
  refine lv_istore_n (lv' := [(3, .int 0), (0, .ref (X 20)), (1, .ref a0), (2, .int a1)]) hx hb dX9_bodyHolds_1 rfl hl (by decide) rfl (fun ls hl => ?_)
  have L_2 : ∀ (n_2 : Nat) (v3_2 : Int32), (2147483648 - v3_2.toInt).toNat < n_2 → TT = m_k_X9_bodyHolds_2 pp on b_1 b_2 b_3 b_p su ob obi sc a0 a1 n_2 v3_2 → 0 ≤ v3_2.toInt → ∀ (H : Heap) (locs : List Loc), va_P D vwCl ((wW_k_X9_bodyHolds ty X hn kn on cu pu gw b_1 b_2 b_3 b_p su ob an ch cg fb mh ml ih lb ic obi sc) ++ pw ty pp) H → va_D A ((wW_k_X9_bodyHolds ty X hn kn on cu pu gw b_1 b_2 b_3 b_p su ob an ch cg fb mh ml ih lb ic obi sc) ++ pw ty pp) → va_S A s.heap H locs → ∀ ls : Array Slot, lv_has ls 5 [(0, .ref (X 20)), (1, .ref a0), (2, .int a1), (3, .int v3_2)] → W p l e (headSpec vs_k_X9_bodyHolds { frames := 4, cells := 0, slots := 0, locals := 88 }).room s m ([.ref (X 20), .ref a0, .int a1] : List Value).toArray below meth c H locs 0 0 (MQ below (va_Qi (fun (r : Int32) (u : va_W) => (r = TT ∧ (TT = 0 ∨ TT = 1) ∧ (u = ((wW_k_X9_bodyHolds ty X hn kn on cu pu gw b_1 b_2 b_3 b_p su ob an ch cg fb mh ml ih lb ic obi sc) ++ pw ty pp)))) (wq_B D A) A) ([.ref (X 20), .ref a0, .int a1] : List Value).toArray s 0 0 A) (F0 m 2 ls []) := by
    intro n_2
    induction n_2 with
    | zero => intro v3_2 hu; exact absurd hu (Nat.not_lt_zero _)
    | succ n_2 ih_2 =>
      intro v3_2 hu_2 hT hn_2 H locs hP hD hS ls hl
      rw [m_k_X9_bodyHolds_2_succ, m_k_X9_bodyHolds_2s] at hT
      refine lv_iload_n hx hb dX9_bodyHolds_2 rfl (lv_at hl 3 rfl) ?_
      refine lv_aload_n hx hb dX9_bodyHolds_3 rfl (lv_at hl 1 rfl) ?_
      obtain ⟨k_1, hk_1⟩ := List.getElem?_of_mem (pw_rule (ty := ty) (p := pp) (L := [((X 8), .inr (5, [.ref (X 1), .ref (X 9), .ref (X 10), .ref (X 12), .ref (X 14), .int hn, .ref (X 15), .ref (X 16), .ref (X 17), .int kn, .ref (X 18), .ref (X 19), .int on, .int cu, .int pu, .int gw])), ((X 9), .inr (4, [.int b_1, .int b_2, .int b_3, .int b_p])), ((X 10), .inr (3, [.ref (X 11)])), ((X 11), .inl (ty 1, 6, .inr (.inl su))), ((X 19), .inl (ty 0, 384, .inl ob)), ((X 20), .inr (11, [.ref (X 1), .ref (X 8), .ref (X 21), .ref (X 28), .ref (X 35), .int an, .ref (X 36), .ref (X 37), .ref (X 38), .int ch, .int cg, .int fb, .int mh, .int ml, .int ih, .int lb, .int ic])), ((X 36), .inl (ty 0, 6, .inl obi)), ((X 37), .inl (ty 0, 6, .inl sc))]) hm_a0)
      refine va_getN (D := D) (ci := 10) (v := .int (pI pp a0 10)) (C := RX8) (T := TX8) (N := 11) hx hb hts iv_k_X9_bodyHolds_X8 hown hK hP k_1 hk_1 rfl 10 (by decide) (hE.at (.fieldLinkNest "AnswerFold$Solver" 132 "AnswerFold$Rule" "conditionCount" "I" "AnswerFold") (by decide +kernel)) (fun _ h9 => h9) rfl dX9_bodyHolds_4 ?_
      refine lv_icmp_ge (tgt := 40) hx hb dX9_bodyHolds_7 (by decide) (fun c_2 => ?_) (fun c_2 => ?_)
      · rw [if_pos c_2] at hT
        refine lv_iconst (v := 1) hx hb dX9_bodyHolds_40 (by decide) ?_
        exact END 1 hT (by decide) _ _ hP hD hS _ _ dX9_bodyHolds_41
      · rw [if_neg c_2] at hT
        refine lv_aload_n hx hb dX9_bodyHolds_10 rfl (lv_at hl 1 rfl) ?_
        refine lv_iload_n hx hb dX9_bodyHolds_11 rfl (lv_at hl 3 rfl) ?_
        obtain ⟨t_12, ht_12⟩ : ∃ t, t = m_k_X8_conditionAt pp a0 v3_2 := ⟨_, rfl⟩
        rw [lE_eq ht_12] at hT
        obtain ⟨k_3, hk_3⟩ := List.getElem?_of_mem (pw_rule (ty := ty) (p := pp) (L := [((X 8), .inr (5, [.ref (X 1), .ref (X 9), .ref (X 10), .ref (X 12), .ref (X 14), .int hn, .ref (X 15), .ref (X 16), .ref (X 17), .int kn, .ref (X 18), .ref (X 19), .int on, .int cu, .int pu, .int gw])), ((X 9), .inr (4, [.int b_1, .int b_2, .int b_3, .int b_p])), ((X 10), .inr (3, [.ref (X 11)])), ((X 11), .inl (ty 1, 6, .inr (.inl su))), ((X 19), .inl (ty 0, 384, .inl ob)), ((X 20), .inr (11, [.ref (X 1), .ref (X 8), .ref (X 21), .ref (X 28), .ref (X 35), .int an, .ref (X 36), .ref (X 37), .ref (X 38), .int ch, .int cg, .int fb, .int mh, .int ml, .int ih, .int lb, .int ic])), ((X 36), .inl (ty 0, 6, .inl obi)), ((X 37), .inl (ty 0, 6, .inl sc))]) hm_a0)
        refine wq_rPW (wc := []) (pl := pw ty pp) (ux := []) (va_runV (As := [.int v3_2]) (rest := []) ⟨hx, hb, hml, hown, hts⟩ (k_X8_conditionAt l D ty td mi H.size pp a0 v3_2 hok hm_a0 t_12 ht_12) (cwV 1 hts gv_k_X9_bodyHolds_0 rfl rfl rfl (by decide +kernel) ⟨(Nat.le_of_ble_eq_true rfl), (Nat.le_of_ble_eq_true rfl)⟩) (wm_V (wm_preSP hP hD hK hE hS hA [] rfl) (va_recv (q0 := k_3) (ci := 10) hK hP rfl hk_3)) rfl rfl hl.1 rfl (lv_room (Nat.le_of_ble_eq_true rfl)) dX9_bodyHolds_12 ⟨(Nat.le_of_ble_eq_true rfl), (Nat.le_of_ble_eq_true rfl)⟩) hS hA hP hD [] rfl rfl (fun _ _ h => h.2) (fun r H locs hw hP hD hS => ?_)
        obtain ⟨rfl, -⟩ := hw
        have hP : va_P D vwCl ((wW_k_X9_bodyHolds ty X hn kn on cu pu gw b_1 b_2 b_3 b_p su ob an ch cg fb mh ml ih lb ic obi sc) ++ pw ty pp) H := hP
        have hD : va_D A ((wW_k_X9_bodyHolds ty X hn kn on cu pu gw b_1 b_2 b_3 b_p su ob an ch cg fb mh ml ih lb ic obi sc) ++ pw ty pp) := hD
        refine W.widen (k := 0) (n := 0) (Nat.le_of_ble_eq_true rfl) (Nat.le_of_ble_eq_true rfl) ?_
        rcases ho_12 : t_12 with _ | o_12
        · rw [ho_12, oE_none] at hT
          refine W.eq (g2 := F0 m 15 ls [.null]) rfl ?_
          refine lv_astoreN (lv' := [(4, .null), (0, .ref (X 20)), (1, .ref a0), (2, .int a1), (3, .int v3_2)]) hx hb dX9_bodyHolds_15 hl (by decide) rfl (fun ls hl => ?_)
          refine lv_aloadN hx hb dX9_bodyHolds_17 (lv_at hl 0 rfl) ?_
          have J_34 : ∀ (_ : Unit), TT = m_k_X9_bodyHolds_34 (m_k_X9_bodyHolds_2 pp on b_1 b_2 b_3 b_p su ob obi sc a0 a1 n_2) v3_2 → ∀ (H : Heap) (locs : List Loc), va_P D vwCl ((wW_k_X9_bodyHolds ty X hn kn on cu pu gw b_1 b_2 b_3 b_p su ob an ch cg fb mh ml ih lb ic obi sc) ++ pw ty pp) H → va_D A ((wW_k_X9_bodyHolds ty X hn kn on cu pu gw b_1 b_2 b_3 b_p su ob an ch cg fb mh ml ih lb ic obi sc) ++ pw ty pp) → va_S A s.heap H locs → ∀ ls : Array Slot, lv_has ls 5 [(0, .ref (X 20)), (1, .ref a0), (2, .int a1), (3, .int v3_2)] → W p l e (headSpec vs_k_X9_bodyHolds { frames := 4, cells := 0, slots := 0, locals := 88 }).room s m ([.ref (X 20), .ref a0, .int a1] : List Value).toArray below meth c H locs 0 0 (MQ below (va_Qi (fun (r : Int32) (u : va_W) => (r = TT ∧ (TT = 0 ∨ TT = 1) ∧ (u = ((wW_k_X9_bodyHolds ty X hn kn on cu pu gw b_1 b_2 b_3 b_p su ob an ch cg fb mh ml ih lb ic obi sc) ++ pw ty pp)))) (wq_B D A) A) ([.ref (X 20), .ref a0, .int a1] : List Value).toArray s 0 0 A) (F0 m 34 ls []) := by
            intro _ hT  H locs hP hD hS ls hl
            rw [m_k_X9_bodyHolds_34] at hT
            refine lv_iinc (v := v3_2 + 1) (lv' := [(3, .int (v3_2 + 1)), (0, .ref (X 20)), (1, .ref a0), (2, .int a1)]) hx hb dX9_bodyHolds_34 hl (k := 3) rfl (by rfl) (by decide) rfl (fun ls hl => ?_)
            refine lv_goto (tgt := 2) hx hb dX9_bodyHolds_37 (by decide) ?_
            exact ih_2 (v3_2 + 1) (wi_up hu_2 (Int32.not_le.mp c_2)) hT (wi_inc hn_2 (Int32.not_le.mp c_2)) _ _ hP hD hS _ (lv_sub hl [1, 2, 3, 0] rfl)
          refine lv_ifnullN (tgt := 34) hx hb dX9_bodyHolds_19 (by decide) ?_
          exact J_34 () hT _ _ hP hD hS _ (lv_sub hl [1, 2, 3, 4] rfl)
        · rw [ho_12, oE_some] at hT
          refine W.eq (g2 := F0 m 15 ls [.ref o_12]) rfl ?_
          refine lv_astore (lv' := [(4, .ref o_12), (0, .ref (X 20)), (1, .ref a0), (2, .int a1), (3, .int v3_2)]) hx hb dX9_bodyHolds_15 hl (by decide) rfl (fun ls hl => ?_)
          refine lv_aload hx hb dX9_bodyHolds_17 (lv_at hl 0 rfl) ?_
          have J_34 : ∀ (_ : Unit), TT = m_k_X9_bodyHolds_34 (m_k_X9_bodyHolds_2 pp on b_1 b_2 b_3 b_p su ob obi sc a0 a1 n_2) v3_2 → ∀ (H : Heap) (locs : List Loc), va_P D vwCl ((wW_k_X9_bodyHolds ty X hn kn on cu pu gw b_1 b_2 b_3 b_p su ob an ch cg fb mh ml ih lb ic obi sc) ++ pw ty pp) H → va_D A ((wW_k_X9_bodyHolds ty X hn kn on cu pu gw b_1 b_2 b_3 b_p su ob an ch cg fb mh ml ih lb ic obi sc) ++ pw ty pp) → va_S A s.heap H locs → ∀ ls : Array Slot, lv_has ls 5 [(0, .ref (X 20)), (1, .ref a0), (2, .int a1), (3, .int v3_2)] → W p l e (headSpec vs_k_X9_bodyHolds { frames := 4, cells := 0, slots := 0, locals := 88 }).room s m ([.ref (X 20), .ref a0, .int a1] : List Value).toArray below meth c H locs 0 0 (MQ below (va_Qi (fun (r : Int32) (u : va_W) => (r = TT ∧ (TT = 0 ∨ TT = 1) ∧ (u = ((wW_k_X9_bodyHolds ty X hn kn on cu pu gw b_1 b_2 b_3 b_p su ob an ch cg fb mh ml ih lb ic obi sc) ++ pw ty pp)))) (wq_B D A) A) ([.ref (X 20), .ref a0, .int a1] : List Value).toArray s 0 0 A) (F0 m 34 ls []) := by
            intro _ hT  H locs hP hD hS ls hl
            rw [m_k_X9_bodyHolds_34] at hT
            refine lv_iinc (v := v3_2 + 1) (lv' := [(3, .int (v3_2 + 1)), (0, .ref (X 20)), (1, .ref a0), (2, .int a1)]) hx hb dX9_bodyHolds_34 hl (k := 3) rfl (by rfl) (by decide) rfl (fun ls hl => ?_)
            refine lv_goto (tgt := 2) hx hb dX9_bodyHolds_37 (by decide) ?_
            exact ih_2 (v3_2 + 1) (wi_up hu_2 (Int32.not_le.mp c_2)) hT (wi_inc hn_2 (Int32.not_le.mp c_2)) _ _ hP hD hS _ (lv_sub hl [1, 2, 3, 0] rfl)
          refine lv_ifnull hx hb dX9_bodyHolds_19 ?_
          refine lv_aload_n hx hb dX9_bodyHolds_22 rfl (lv_at hl 1 rfl) ?_
          refine lv_aload hx hb dX9_bodyHolds_23 (lv_at hl 0 rfl) ?_
          refine lv_iload_n hx hb dX9_bodyHolds_25 rfl (lv_at hl 3 rfl) ?_
          obtain ⟨t_26, ht_26⟩ : ∃ t, t = m_k_X9_conditionHolds pp on b_1 b_2 b_3 b_p su ob obi sc o_12 a1 := ⟨_, rfl⟩
          rw [lE_eq ht_26] at hT
          refine wq_iPW (wc := (wW_k_X9_conditionHolds ty X hn kn on cu pu gw b_1 b_2 b_3 b_p su ob an ch cg fb mh ml ih lb ic obi sc)) (pl := pw ty pp) (ux := (wW_k_X9_conditionHolds ty X hn kn on cu pu gw b_1 b_2 b_3 b_p su ob an ch cg fb mh ml ih lb ic obi sc)) (va_runV (As := [.ref o_12, .int a1]) (rest := []) ⟨hx, hb, hml, hown, hts⟩ (k_X9_conditionHolds l D ty td mi H.size pp X hn kn on cu pu gw b_1 b_2 b_3 b_p su ob an ch cg fb mh ml ih lb ic obi sc o_12 a1 hok (mm_k_X8_conditionAt pp a0 v3_2 hok hm_a0 _ (by rw [← ht_12]; exact ho_12)) t_26 ht_26) (cwV 2 hts gv_k_X9_bodyHolds_1 rfl rfl rfl (by decide +kernel) ⟨(Nat.le_of_ble_eq_true rfl), (Nat.le_of_ble_eq_true rfl)⟩) (wm_V (wm_preSP hP hD hK hE hS hA [true, true, true, true, true, true, true, true] rfl) (va_recv (q0 := 5) (ci := 11) hK hP rfl rfl)) rfl rfl hl.1 rfl (lv_room (Nat.le_of_ble_eq_true rfl)) dX9_bodyHolds_26 ⟨(Nat.le_of_ble_eq_true rfl), (Nat.le_of_ble_eq_true rfl)⟩) hS hA hP hD [true, true, true, true, true, true, true, true] rfl rfl (fun _ _ h => h.2.2) (fun r H locs hw hP hD hS => ?_)
          obtain ⟨hr0, c_8, -⟩ := hw
          subst r
          have hP : va_P D vwCl ((wW_k_X9_bodyHolds ty X hn kn on cu pu gw b_1 b_2 b_3 b_p su ob an ch cg fb mh ml ih lb ic obi sc) ++ pw ty pp) H := hP
          have hD : va_D A ((wW_k_X9_bodyHolds ty X hn kn on cu pu gw b_1 b_2 b_3 b_p su ob an ch cg fb mh ml ih lb ic obi sc) ++ pw ty pp) := hD
          refine W.widen (k := 0) (n := 0) (Nat.le_of_ble_eq_true rfl) (Nat.le_of_ble_eq_true rfl) ?_
          refine lv_if_ne (tgt := 34) hx hb dX9_bodyHolds_29 (by decide) (fun c_9 => ?_) (fun c_9 => ?_)
          · rw [if_neg c_9] at hT
            exact J_34 () hT _ _ hP hD hS _ (lv_sub hl [1, 2, 3, 4] rfl)
          · rw [if_pos c_9] at hT
            refine lv_iconst (v := 0) hx hb dX9_bodyHolds_32 (by decide) ?_
            exact END 0 hT (by decide) _ _ hP hD hS _ _ dX9_bodyHolds_33
  exact L_2 wF 0 (wF_up 0) hT (by decide) _ _ hP hD hS _ (lv_sub hl [1, 2, 3, 0] rfl)
theorem dX9_gives_0 : decode cX9_gives 0 = .ok (.aload_n 0, 1) := by decide +kernel
theorem dX9_gives_1 : decode cX9_gives 1 = .ok (.getfield 38, 3) := by decide +kernel
theorem dX9_gives_4 : decode cX9_gives 4 = .ok (.aload_n 1, 1) := by decide +kernel
theorem dX9_gives_5 : decode cX9_gives 5 = .ok (.invokevirtual 163, 3) := by decide +kernel
theorem dX9_gives_8 : decode cX9_gives 8 = .ok (.pop, 1) := by decide +kernel
theorem dX9_gives_9 : decode cX9_gives 9 = .ok (.iconst 0, 1) := by decide +kernel
theorem dX9_gives_10 : decode cX9_gives 10 = .ok (.istore 4, 2) := by decide +kernel
theorem dX9_gives_12 : decode cX9_gives 12 = .ok (.iconst 1, 1) := by decide +kernel
theorem dX9_gives_13 : decode cX9_gives 13 = .ok (.istore 5, 2) := by decide +kernel
theorem dX9_gives_15 : decode cX9_gives 15 = .ok (.iconst 0, 1) := by decide +kernel
theorem dX9_gives_16 : decode cX9_gives 16 = .ok (.istore 6, 2) := by decide +kernel
theorem dX9_gives_18 : decode cX9_gives 18 = .ok (.iload 6, 2) := by decide +kernel
theorem dX9_gives_20 : decode cX9_gives 20 = .ok (.aload_n 0, 1) := by decide +kernel
theorem dX9_gives_21 : decode cX9_gives 21 = .ok (.getfield 38, 3) := by decide +kernel
theorem dX9_gives_24 : decode cX9_gives 24 = .ok (.getfield 167, 3) := by decide +kernel
theorem dX9_gives_27 : decode cX9_gives 27 = .ok (.if_icmp .ge 45, 3) := by decide +kernel
theorem dX9_gives_30 : decode cX9_gives 30 = .ok (.aload_n 0, 1) := by decide +kernel
theorem dX9_gives_31 : decode cX9_gives 31 = .ok (.getfield 38, 3) := by decide +kernel
theorem dX9_gives_34 : decode cX9_gives 34 = .ok (.iload 6, 2) := by decide +kernel
theorem dX9_gives_36 : decode cX9_gives 36 = .ok (.invokevirtual 170, 3) := by decide +kernel
theorem dX9_gives_39 : decode cX9_gives 39 = .ok (.istore 7, 2) := by decide +kernel
theorem dX9_gives_41 : decode cX9_gives 41 = .ok (.iload 7, 2) := by decide +kernel
theorem dX9_gives_43 : decode cX9_gives 43 = .ok (.iload_n 3, 1) := by decide +kernel
theorem dX9_gives_44 : decode cX9_gives 44 = .ok (.if_icmp .ne 9, 3) := by decide +kernel
theorem dX9_gives_47 : decode cX9_gives 47 = .ok (.iconst 1, 1) := by decide +kernel
theorem dX9_gives_48 : decode cX9_gives 48 = .ok (.istore 4, 2) := by decide +kernel
theorem dX9_gives_50 : decode cX9_gives 50 = .ok (.goto 16, 3) := by decide +kernel
theorem dX9_gives_53 : decode cX9_gives 53 = .ok (.aload_n 0, 1) := by decide +kernel
theorem dX9_gives_54 : decode cX9_gives 54 = .ok (.iload_n 2, 1) := by decide +kernel
theorem dX9_gives_55 : decode cX9_gives 55 = .ok (.iload 7, 2) := by decide +kernel
theorem dX9_gives_57 : decode cX9_gives 57 = .ok (.invokevirtual 312, 3) := by decide +kernel
theorem dX9_gives_60 : decode cX9_gives 60 = .ok (.ifCond .eq 6, 3) := by decide +kernel
theorem dX9_gives_63 : decode cX9_gives 63 = .ok (.iconst 0, 1) := by decide +kernel
theorem dX9_gives_64 : decode cX9_gives 64 = .ok (.istore 5, 2) := by decide +kernel
theorem dX9_gives_66 : decode cX9_gives 66 = .ok (.iinc 6 1, 3) := by decide +kernel
theorem dX9_gives_69 : decode cX9_gives 69 = .ok (.goto (-51), 3) := by decide +kernel
theorem dX9_gives_72 : decode cX9_gives 72 = .ok (.iload 4, 2) := by decide +kernel
theorem dX9_gives_74 : decode cX9_gives 74 = .ok (.ifCond .eq 21, 3) := by decide +kernel
theorem dX9_gives_77 : decode cX9_gives 77 = .ok (.aload_n 1, 1) := by decide +kernel
theorem dX9_gives_78 : decode cX9_gives 78 = .ok (.getfield 119, 3) := by decide +kernel
theorem dX9_gives_81 : decode cX9_gives 81 = .ok (.bipush 99, 2) := by decide +kernel
theorem dX9_gives_83 : decode cX9_gives 83 = .ok (.if_icmp .eq 8, 3) := by decide +kernel
theorem dX9_gives_86 : decode cX9_gives 86 = .ok (.iload 5, 2) := by decide +kernel
theorem dX9_gives_88 : decode cX9_gives 88 = .ok (.ifCond .eq 7, 3) := by decide +kernel
theorem dX9_gives_91 : decode cX9_gives 91 = .ok (.iconst 1, 1) := by decide +kernel
theorem dX9_gives_92 : decode cX9_gives 92 = .ok (.goto 4, 3) := by decide +kernel
theorem dX9_gives_95 : decode cX9_gives 95 = .ok (.iconst 0, 1) := by decide +kernel
theorem dX9_gives_96 : decode cX9_gives 96 = .ok (.ireturn, 1) := by decide +kernel
def wW_k_X9_gives (ty : Nat → ClassId) (X : Nat → Nat) (z9_0 : Int32) (z9_1 : Int32) (z9_2 : Int32) (z9_3 : Int32) (z9_4 : Int32) (z9_5 : Int32) (z9_6 : Int32) (z9_7 : Int32) (z9_8 : Int32) (z9_9 : Int32) (z9_10 : Nat → Int64) (z9_11 : Nat → Int32) (z9_12 : Nat → Int32) (z9_13 : Int32) (z9_14 : Int32) (z9_15 : Int32) (z9_16 : Int32) (z9_17 : Int32) (z9_18 : Int32) (z9_19 : Int32) (z9_20 : Int32) (z9_21 : Int32) : va_W := [((X 8), .inr (5, [.ref (X 1), .ref (X 9), .ref (X 10), .ref (X 12), .ref (X 14), .int z9_0, .ref (X 15), .ref (X 16), .ref (X 17), .int z9_1, .ref (X 18), .ref (X 19), .int z9_2, .int z9_3, .int z9_4, .int z9_5])), ((X 9), .inr (4, [.int z9_6, .int z9_7, .int z9_8, .int z9_9])), ((X 10), .inr (3, [.ref (X 11)])), ((X 11), .inl (ty 1, 6, .inr (.inl z9_10))), ((X 14), .inl (ty 0, 16, .inl z9_11)), ((X 19), .inl (ty 0, 384, .inl z9_12)), ((X 20), .inr (11, [.ref (X 1), .ref (X 8), .ref (X 21), .ref (X 28), .ref (X 35), .int z9_13, .ref (X 36), .ref (X 37), .ref (X 38), .int z9_14, .int z9_15, .int z9_16, .int z9_17, .int z9_18, .int z9_19, .int z9_20, .int z9_21]))]
def vs_k_X9_gives : List Cond := .code yX9_gives cX9_gives 8 (some .boolean) :: ([.fieldLink RX9 38 "AnswerFold$Solver" "grounding" "LAnswerFold$Grounding;", .methodLink RX9 163 yX3_listHeads, .instanceMethod yX3_listHeads, .selects RX3 yX3_listHeads yX3_listHeads, .initialized RX3, .methodLink RX9 170 yX3_headAtomAt, .instanceMethod yX3_headAtomAt, .selects RX3 yX3_headAtomAt yX3_headAtomAt, .methodLink RX9 312 yX9_isIn, .instanceMethod yX9_isIn, .selects RX9 yX9_isIn yX9_isIn, .initialized RX9] ++ (u_ws RX9 TX9 17 ++ (vs_k_X3_listHeads ++ (u_ws RX3 TX3 16 ++ (u_ws RX8 TX8 11 ++ (vs_k_X3_headAtomAt ++ (vs_k_X9_isIn)))))))
theorem iv_k_X9_gives_X3 : ∀ w ∈ u_ws RX3 TX3 16, w ∈ vs_k_X9_gives := (fun _ h => List.mem_cons_of_mem _ (List.mem_append_right _ (List.mem_append_right _ (List.mem_append_right _ (List.mem_append_left _ h)))))
theorem iv_k_X9_gives_X8 : ∀ w ∈ u_ws RX8 TX8 11, w ∈ vs_k_X9_gives := (fun _ h => List.mem_cons_of_mem _ (List.mem_append_right _ (List.mem_append_right _ (List.mem_append_right _ (List.mem_append_right _ (List.mem_append_left _ h))))))
theorem iv_k_X9_gives_X9 : ∀ w ∈ u_ws RX9 TX9 17, w ∈ vs_k_X9_gives := (fun _ h => List.mem_cons_of_mem _ (List.mem_append_right _ (List.mem_append_left _ h)))
set_option maxRecDepth 20000 in
theorem gv_k_X9_gives_0 : GoodIn vs_k_X9_gives (wsV RX9 163 RX3 yX3_listHeads vs_k_X3_listHeads) := goodIn_app (goodIn_sub (by decide +kernel) (by decide +kernel)) (goodIn_sub (fun _ h => List.mem_cons_of_mem _ (List.mem_append_right _ (List.mem_append_right _ (List.mem_append_left _ h)))) (by decide +kernel))
set_option maxRecDepth 20000 in
theorem gv_k_X9_gives_1 : GoodIn vs_k_X9_gives (wsV RX9 170 RX3 yX3_headAtomAt vs_k_X3_headAtomAt) := goodIn_app (goodIn_sub (by decide +kernel) (by decide +kernel)) (goodIn_sub (fun _ h => List.mem_cons_of_mem _ (List.mem_append_right _ (List.mem_append_right _ (List.mem_append_right _ (List.mem_append_right _ (List.mem_append_right _ (List.mem_append_left _ h))))))) (by decide +kernel))
set_option maxRecDepth 20000 in
theorem gv_k_X9_gives_2 : GoodIn vs_k_X9_gives (wsV RX9 312 RX9 yX9_isIn vs_k_X9_isIn) := goodIn_app (goodIn_sub (by decide +kernel) (by decide +kernel)) (goodIn_sub (fun _ h => List.mem_cons_of_mem _ (List.mem_append_right _ (List.mem_append_right _ (List.mem_append_right _ (List.mem_append_right _ (List.mem_append_right _ (List.mem_append_right _ (h)))))))) (by decide +kernel))
set_option maxHeartbeats 4000000 in
set_option maxRecDepth 100000 in
theorem k_X9_gives (l : Launch) (D : va_G) (ty : Nat → ClassId) (td mi sz : Nat) (pp : pT) (X : Nat → Nat) (hn : Int32) (kn : Int32) (on : Int32) (cu : Int32) (pu : Int32) (gw : Int32) (b_1 : Int32) (b_2 : Int32) (b_3 : Int32) (b_p : Int32) (su : Nat → Int64) (hds : Nat → Int32) (ob : Nat → Int32) (an : Int32) (ch : Int32) (cg : Int32) (fb : Int32) (mh : Int32) (ml : Int32) (ih : Int32) (lb : Int32) (ic : Int32) (a0 : Nat) (a1 : Int32) (a2 : Int32) (hok : pOK pp) (hm_a0 : a0 ∈ pRA pp) (TT : r_k_X9_gives) (hTT : TT = m_k_X9_gives pp on b_1 b_2 b_3 b_p su hds ob a0 a1 a2) : Met l yX9_gives vs_k_X9_gives { frames := 3, cells := 0, slots := 0, locals := 71 } (va_Pc [.ref (X 20), .ref a0, .int a1, .int a2] (wq_P D ty td mi ((wW_k_X9_gives ty X hn kn on cu pu gw b_1 b_2 b_3 b_p su hds ob an ch cg fb mh ml ih lb ic) ++ pw ty pp) sz)) (va_Qi (fun (r : Int32) (u : va_W) => (r = TT.1 ∧ (TT.1 = 0 ∨ TT.1 = 1) ∧ (u = ((wW_k_X9_gives ty X TT.2.2.1 kn on cu pu gw b_1 b_2 TT.2.2.2 b_p su TT.2.1 ob an ch cg fb mh ml ih lb ic) ++ pw ty pp)))) (wq_B D (va_A ((wW_k_X9_gives ty X hn kn on cu pu gw b_1 b_2 b_3 b_p su hds ob an ch cg fb mh ml ih lb ic) ++ pw ty pp) sz)) (va_A ((wW_k_X9_gives ty X hn kn on cu pu gw b_1 b_2 b_3 b_p su hds ob an ch cg fb mh ml ih lb ic) ++ pw ty pp) sz)) 0 0 (va_A ((wW_k_X9_gives ty X hn kn on cu pu gw b_1 b_2 b_3 b_p su hds ob an ch cg fb mh ml ih lb ic) ++ pw ty pp) sz) := by
  refine Met.ofW (cc := cX9_gives) (maxL := 8) (ret := (some .boolean)) (by decide) rfl ?_
  intro p e s m args below meth c s₁ B hml hv
  obtain ⟨rfl, hsz, hP, hK, hD0, hE⟩ := hv
  have hx := B.exec
  have hb := B.bytes
  have hr := B.returns
  have hts := atoms_spec (ws := vs_k_X9_gives) B.pre
  have hown : s.vm.findClass RX9 = some m.cls := findClass_of_methodNamed B.named
  have hlocks := B.notSynchronized
  subst hsz
  have hD := hD0.self (sz := s.heap.size)
  generalize hAe : va_A ((wW_k_X9_gives ty X hn kn on cu pu gw b_1 b_2 b_3 b_p su hds ob an ch cg fb mh ml ih lb ic) ++ pw ty pp) s.heap.size = A at hD hE ⊢
  have hA : ∀ q : Nat, s.heap.size ≤ q → A q := fun q h => by rw [← hAe]; exact Or.inr h
  have hS : va_S A s.heap s.heap [] := va_S.rf
  have hP : va_P D vwCl ((wW_k_X9_gives ty X hn kn on cu pu gw b_1 b_2 b_3 b_p su hds ob an ch cg fb mh ml ih lb ic) ++ pw ty pp) s.heap := hP
  have hl := lv_entry ([.ref (X 20), .ref a0, .int a1, .int a2]) (n := 8) (Nat.le_of_ble_eq_true rfl)
  rw [lg_entry_eq]
  generalize (lg_sl ([.ref (X 20), .ref a0, .int a1, .int a2]) ++ List.replicate (8 - (lg_sl ([.ref (X 20), .ref a0, .int a1, .int a2])).length) Slot.unset).toArray = ls at hl ⊢
  have hl : lv_has ls 8 [(0, .ref (X 20)), (1, .ref a0), (2, .int a1), (3, .int a2)] := hl
  have END : ∀ (r : Int32) (w9_0 : Nat → Int32) (w9_1 : Int32) (w9_2 : Int32), TT = (r, w9_0, w9_1, w9_2) → (r = 0 ∨ r = 1) → ∀ (H : Heap) (locs : List Loc), va_P D vwCl ((wW_k_X9_gives ty X w9_1 kn on cu pu gw b_1 b_2 w9_2 b_p su w9_0 ob an ch cg fb mh ml ih lb ic) ++ pw ty pp) H → va_D A ((wW_k_X9_gives ty X w9_1 kn on cu pu gw b_1 b_2 w9_2 b_p su w9_0 ob an ch cg fb mh ml ih lb ic) ++ pw ty pp) → va_S A s.heap H locs → ∀ (ls : Array Slot) (pc : Nat), decode cX9_gives pc = .ok (.ireturn, 1) → W p l e (headSpec vs_k_X9_gives { frames := 3, cells := 0, slots := 0, locals := 71 }).room s m ([.ref (X 20), .ref a0, .int a1, .int a2] : List Value).toArray below meth c H locs 0 0 (MQ below (va_Qi (fun (r : Int32) (u : va_W) => (r = TT.1 ∧ (TT.1 = 0 ∨ TT.1 = 1) ∧ (u = ((wW_k_X9_gives ty X TT.2.2.1 kn on cu pu gw b_1 b_2 TT.2.2.2 b_p su TT.2.1 ob an ch cg fb mh ml ih lb ic) ++ pw ty pp)))) (wq_B D A) A) ([.ref (X 20), .ref a0, .int a1, .int a2] : List Value).toArray s 0 0 A) (F0 m pc ls [.int r]) := by
    intro r w9_0 w9_1 w9_2 hT hb01 H locs hP hD hS ls pc hd
    have hM : TT = (r, w9_0, w9_1, w9_2) := hT
    exact W.zret (v := r) hx hb hr (wz_nar hb01) (fun t ht hW => ⟨⟨r, ((wW_k_X9_gives ty X w9_1 kn on cu pu gw b_1 b_2 w9_2 b_p su w9_0 ob an ch cg fb mh ml ih lb ic) ++ pw ty pp), rfl, ⟨(by rw [hM]), (by rw [hM]; exact hb01), (by rw [hM])⟩, wq_B.of ht hP hD⟩, hS.F ht⟩) hS.2.2 hd
  have hT := hTT
  rw [m_k_X9_gives] at hT
  refine lv_aload_n hx hb dX9_gives_0 rfl (lv_at hl 0 rfl) ?_
  refine va_get (D := D) (ci := 11) (v := .ref (X 8)) (C := RX9) (T := TX9) (N := 17) hx hb hts iv_k_X9_gives_X9 hown hK hP 6 rfl rfl 1 (by decide) (hts (.fieldLink RX9 38 "AnswerFold$Solver" "grounding" "LAnswerFold$Grounding;") (by decide +kernel)) (fun _ h9 => h9) rfl dX9_gives_1 ?_
  refine lv_aload_n hx hb dX9_gives_4 rfl (lv_at hl 1 rfl) ?_
  obtain ⟨t_5, ht_5⟩ : ∃ t, t = m_k_X3_listHeads pp b_1 b_2 b_3 b_p su hds a0 := ⟨_, rfl⟩
  rw [lE_eq ht_5] at hT
  refine wq_iPW (wc := (wW_k_X3_listHeads ty X hn kn on cu pu gw b_1 b_2 b_3 b_p su hds)) (pl := pw ty pp) (ux := (wW_k_X3_listHeads ty X t_5.2.2.1 kn on cu pu gw b_1 b_2 t_5.2.2.2 b_p su t_5.2.1)) (va_runV (As := [.ref a0]) (rest := []) ⟨hx, hb, hml, hown, hts⟩ (k_X3_listHeads l D ty td mi s.heap.size pp X hn kn on cu pu gw b_1 b_2 b_3 b_p su hds a0 hok hm_a0 t_5 ht_5) (cwV 1 hts gv_k_X9_gives_0 rfl rfl rfl (by decide +kernel) ⟨(Nat.le_of_ble_eq_true rfl), (Nat.le_of_ble_eq_true rfl)⟩) (wm_V (wm_preSP hP hD hK hE hS hA [true, true, true, true, true] rfl) (va_recv (q0 := 0) (ci := 5) hK hP rfl rfl)) rfl rfl hl.1 rfl (lv_room (Nat.le_of_ble_eq_true rfl)) dX9_gives_5 ⟨(Nat.le_of_ble_eq_true rfl), (Nat.le_of_ble_eq_true rfl)⟩) hS hA hP hD [true, true, true, true, true] rfl rfl (fun _ _ h => h.2.2) (fun r H locs hw hP hD hS => ?_)
  obtain ⟨rfl, c_3, -⟩ := hw
  have hP : va_P D vwCl ((wW_k_X9_gives ty X t_5.2.2.1 kn on cu pu gw b_1 b_2 t_5.2.2.2 b_p su t_5.2.1 ob an ch cg fb mh ml ih lb ic) ++ pw ty pp) H := hP
  have hD : va_D A ((wW_k_X9_gives ty X t_5.2.2.1 kn on cu pu gw b_1 b_2 t_5.2.2.2 b_p su t_5.2.1 ob an ch cg fb mh ml ih lb ic) ++ pw ty pp) := hD
  refine W.widen (k := 0) (n := 0) (Nat.le_of_ble_eq_true rfl) (Nat.le_of_ble_eq_true rfl) ?_
  refine lv_pop hx hb dX9_gives_8 rfl ?_
  refine lv_iconst (v := 0) hx hb dX9_gives_9 (by decide) ?_
  refine lv_istore (lv' := [(4, .int 0), (0, .ref (X 20)), (1, .ref a0), (2, .int a1), (3, .int a2)]) hx hb dX9_gives_10 hl (by decide) rfl (fun ls hl => ?_)
  refine lv_iconst (v := 1) hx hb dX9_gives_12 (by decide) ?_
  refine lv_istore (lv' := [(5, .int 1), (4, .int 0), (0, .ref (X 20)), (1, .ref a0), (2, .int a1), (3, .int a2)]) hx hb dX9_gives_13 hl (by decide) rfl (fun ls hl => ?_)
  refine lv_iconst (v := 0) hx hb dX9_gives_15 (by decide) ?_
  refine lv_istore (lv' := [(6, .int 0), (5, .int 1), (4, .int 0), (0, .ref (X 20)), (1, .ref a0), (2, .int a1), (3, .int a2)]) hx hb dX9_gives_16 hl (by decide) rfl (fun ls hl => ?_)
  have L_18 : ∀ (n_18 : Nat) (v4_18 : Int32) (v5_18 : Int32) (v6_18 : Int32), (2147483648 - v6_18.toInt).toNat < n_18 → TT = m_k_X9_gives_18 pp on su ob a0 a1 a2 t_5 n_18 v4_18 v5_18 v6_18 → 0 ≤ v6_18.toInt → v4_18 = 0 ∨ v4_18 = 1 → v5_18 = 0 ∨ v5_18 = 1 → ∀ (H : Heap) (locs : List Loc), va_P D vwCl ((wW_k_X9_gives ty X t_5.2.2.1 kn on cu pu gw b_1 b_2 t_5.2.2.2 b_p su t_5.2.1 ob an ch cg fb mh ml ih lb ic) ++ pw ty pp) H → va_D A ((wW_k_X9_gives ty X t_5.2.2.1 kn on cu pu gw b_1 b_2 t_5.2.2.2 b_p su t_5.2.1 ob an ch cg fb mh ml ih lb ic) ++ pw ty pp) → va_S A s.heap H locs → ∀ ls : Array Slot, lv_has ls 8 [(0, .ref (X 20)), (1, .ref a0), (2, .int a1), (3, .int a2), (4, .int v4_18), (5, .int v5_18), (6, .int v6_18)] → W p l e (headSpec vs_k_X9_gives { frames := 3, cells := 0, slots := 0, locals := 71 }).room s m ([.ref (X 20), .ref a0, .int a1, .int a2] : List Value).toArray below meth c H locs 0 0 (MQ below (va_Qi (fun (r : Int32) (u : va_W) => (r = TT.1 ∧ (TT.1 = 0 ∨ TT.1 = 1) ∧ (u = ((wW_k_X9_gives ty X TT.2.2.1 kn on cu pu gw b_1 b_2 TT.2.2.2 b_p su TT.2.1 ob an ch cg fb mh ml ih lb ic) ++ pw ty pp)))) (wq_B D A) A) ([.ref (X 20), .ref a0, .int a1, .int a2] : List Value).toArray s 0 0 A) (F0 m 18 ls []) := by
    intro n_18
    induction n_18 with
    | zero => intro v4_18 v5_18 v6_18 hu; exact absurd hu (Nat.not_lt_zero _)
    | succ n_18 ih_18 =>
      intro v4_18 v5_18 v6_18 hu_18 hT hn_18 hb_v4_18 hb_v5_18 H locs hP hD hS ls hl
      rw [m_k_X9_gives_18_succ, m_k_X9_gives_18s] at hT
      refine lv_iload hx hb dX9_gives_18 (lv_at hl 6 rfl) ?_
      refine lv_aload_n hx hb dX9_gives_20 rfl (lv_at hl 0 rfl) ?_
      refine va_get (D := D) (ci := 11) (v := .ref (X 8)) (C := RX9) (T := TX9) (N := 17) hx hb hts iv_k_X9_gives_X9 hown hK hP 6 rfl rfl 1 (by decide) (hts (.fieldLink RX9 38 "AnswerFold$Solver" "grounding" "LAnswerFold$Grounding;") (by decide +kernel)) (fun _ h9 => h9) rfl dX9_gives_21 ?_
      refine va_getN (D := D) (ci := 5) (v := .int t_5.2.2.1) (C := RX3) (T := TX3) (N := 16) hx hb hts iv_k_X9_gives_X3 hown hK hP 0 rfl rfl 5 (by decide) (hE.at (.fieldLinkNest "AnswerFold$Solver" 167 "AnswerFold$Grounding" "headCount" "I" "AnswerFold") (by decide +kernel)) (fun _ h9 => h9) rfl dX9_gives_24 ?_
      refine lv_icmp_ge (tgt := 72) hx hb dX9_gives_27 (by decide) (fun c_4 => ?_) (fun c_4 => ?_)
      · rw [if_pos c_4] at hT
        refine lv_iload hx hb dX9_gives_72 (lv_at hl 4 rfl) ?_
        refine lv_if_eq (tgt := 95) hx hb dX9_gives_74 (by decide) (fun c_5 => ?_) (fun c_5 => ?_)
        · rw [if_pos c_5] at hT
          refine lv_iconst (v := 0) hx hb dX9_gives_95 (by decide) ?_
          exact END 0 t_5.2.1 t_5.2.2.1 t_5.2.2.2 hT (by decide) _ _ hP hD hS _ _ dX9_gives_96
        · rw [if_neg c_5] at hT
          refine lv_aload_n hx hb dX9_gives_77 rfl (lv_at hl 1 rfl) ?_
          obtain ⟨k_6, hk_6⟩ := List.getElem?_of_mem (pw_rule (ty := ty) (p := pp) (L := [((X 8), .inr (5, [.ref (X 1), .ref (X 9), .ref (X 10), .ref (X 12), .ref (X 14), .int t_5.2.2.1, .ref (X 15), .ref (X 16), .ref (X 17), .int kn, .ref (X 18), .ref (X 19), .int on, .int cu, .int pu, .int gw])), ((X 9), .inr (4, [.int b_1, .int b_2, .int t_5.2.2.2, .int b_p])), ((X 10), .inr (3, [.ref (X 11)])), ((X 11), .inl (ty 1, 6, .inr (.inl su))), ((X 14), .inl (ty 0, 16, .inl t_5.2.1)), ((X 19), .inl (ty 0, 384, .inl ob)), ((X 20), .inr (11, [.ref (X 1), .ref (X 8), .ref (X 21), .ref (X 28), .ref (X 35), .int an, .ref (X 36), .ref (X 37), .ref (X 38), .int ch, .int cg, .int fb, .int mh, .int ml, .int ih, .int lb, .int ic]))]) hm_a0)
          refine va_getN (D := D) (ci := 10) (v := .int (pI pp a0 0)) (C := RX8) (T := TX8) (N := 11) hx hb hts iv_k_X9_gives_X8 hown hK hP k_6 hk_6 rfl 0 (by decide) (hE.at (.fieldLinkNest "AnswerFold$Solver" 119 "AnswerFold$Rule" "kind" "C" "AnswerFold") (by decide +kernel)) (fun _ h9 => h9) rfl dX9_gives_78 ?_
          refine lv_bipush (v := 99) hx hb dX9_gives_81 (by decide) ?_
          have J_91 : ∀ (_ : Unit), TT = m_k_X9_gives_91 t_5 → ∀ (H : Heap) (locs : List Loc), va_P D vwCl ((wW_k_X9_gives ty X t_5.2.2.1 kn on cu pu gw b_1 b_2 t_5.2.2.2 b_p su t_5.2.1 ob an ch cg fb mh ml ih lb ic) ++ pw ty pp) H → va_D A ((wW_k_X9_gives ty X t_5.2.2.1 kn on cu pu gw b_1 b_2 t_5.2.2.2 b_p su t_5.2.1 ob an ch cg fb mh ml ih lb ic) ++ pw ty pp) → va_S A s.heap H locs → ∀ ls : Array Slot, lv_has ls 8 [] → W p l e (headSpec vs_k_X9_gives { frames := 3, cells := 0, slots := 0, locals := 71 }).room s m ([.ref (X 20), .ref a0, .int a1, .int a2] : List Value).toArray below meth c H locs 0 0 (MQ below (va_Qi (fun (r : Int32) (u : va_W) => (r = TT.1 ∧ (TT.1 = 0 ∨ TT.1 = 1) ∧ (u = ((wW_k_X9_gives ty X TT.2.2.1 kn on cu pu gw b_1 b_2 TT.2.2.2 b_p su TT.2.1 ob an ch cg fb mh ml ih lb ic) ++ pw ty pp)))) (wq_B D A) A) ([.ref (X 20), .ref a0, .int a1, .int a2] : List Value).toArray s 0 0 A) (F0 m 91 ls []) := by
            intro _ hT  H locs hP hD hS ls hl
            rw [m_k_X9_gives_91] at hT
            refine lv_iconst (v := 1) hx hb dX9_gives_91 (by decide) ?_
            refine lv_goto (tgt := 96) hx hb dX9_gives_92 (by decide) ?_
            exact END 1 t_5.2.1 t_5.2.2.1 t_5.2.2.2 hT (by decide) _ _ hP hD hS _ _ dX9_gives_96
          refine lv_icmp_eq (tgt := 91) hx hb dX9_gives_83 (by decide) (fun c_7 => ?_) (fun c_7 => ?_)
          · rw [if_pos c_7] at hT
            exact J_91 () hT _ _ hP hD hS _ (lv_sub hl [] rfl)
          · rw [if_neg c_7] at hT
            refine lv_iload hx hb dX9_gives_86 (lv_at hl 5 rfl) ?_
            refine lv_if_eq (tgt := 95) hx hb dX9_gives_88 (by decide) (fun c_8 => ?_) (fun c_8 => ?_)
            · rw [if_pos c_8] at hT
              refine lv_iconst (v := 0) hx hb dX9_gives_95 (by decide) ?_
              exact END 0 t_5.2.1 t_5.2.2.1 t_5.2.2.2 hT (by decide) _ _ hP hD hS _ _ dX9_gives_96
            · rw [if_neg c_8] at hT
              exact J_91 () hT _ _ hP hD hS _ (lv_sub hl [] rfl)
      · rw [if_neg c_4] at hT
        refine lv_aload_n hx hb dX9_gives_30 rfl (lv_at hl 0 rfl) ?_
        refine va_get (D := D) (ci := 11) (v := .ref (X 8)) (C := RX9) (T := TX9) (N := 17) hx hb hts iv_k_X9_gives_X9 hown hK hP 6 rfl rfl 1 (by decide) (hts (.fieldLink RX9 38 "AnswerFold$Solver" "grounding" "LAnswerFold$Grounding;") (by decide +kernel)) (fun _ h9 => h9) rfl dX9_gives_31 ?_
        refine lv_iload hx hb dX9_gives_34 (lv_at hl 6 rfl) ?_
        obtain ⟨t_36, ht_36⟩ : ∃ t, t = m_k_X3_headAtomAt t_5.2.1 v6_18 := ⟨_, rfl⟩
        rw [lE_eq ht_36] at hT
        refine wq_iQW (wc := (wW_k_X3_headAtomAt ty X t_5.2.2.1 kn on cu pu gw t_5.2.1)) (pl := pw ty pp) (va_runV (As := [.int v6_18]) (rest := []) ⟨hx, hb, hml, hown, hts⟩ (k_X3_headAtomAt l D ty td mi H.size X t_5.2.2.1 kn on cu pu gw t_5.2.1 v6_18 t_36 ht_36) (cwV 1 hts gv_k_X9_gives_1 rfl rfl rfl (by decide +kernel) ⟨(Nat.le_of_ble_eq_true rfl), (Nat.le_of_ble_eq_true rfl)⟩) (wm_V (wm_preS (vP_left hP) (vD_left hD) hK hE hS hA [true, false, false, false, true] rfl) (va_recv (q0 := 0) (ci := 5) hK hP rfl rfl)) rfl rfl hl.1 rfl (lv_room (Nat.le_of_ble_eq_true rfl)) dX9_gives_36 ⟨(Nat.le_of_ble_eq_true rfl), (Nat.le_of_ble_eq_true rfl)⟩) hS hA hP hD [true, false, false, false, true] rfl (fun _ _ h => by rcases h with ⟨-, rfl⟩; rfl) (fun r u H locs hw hP hD hS => ?_)
        obtain ⟨hr0, rfl⟩ := hw
        subst r
        have hP : va_P D vwCl ((wW_k_X9_gives ty X t_5.2.2.1 kn on cu pu gw b_1 b_2 t_5.2.2.2 b_p su t_5.2.1 ob an ch cg fb mh ml ih lb ic) ++ pw ty pp) H := hP
        have hD : va_D A ((wW_k_X9_gives ty X t_5.2.2.1 kn on cu pu gw b_1 b_2 t_5.2.2.2 b_p su t_5.2.1 ob an ch cg fb mh ml ih lb ic) ++ pw ty pp) := hD
        refine W.widen (k := 0) (n := 0) (Nat.le_of_ble_eq_true rfl) (Nat.le_of_ble_eq_true rfl) ?_
        refine lv_istore (lv' := [(7, .int t_36), (0, .ref (X 20)), (1, .ref a0), (2, .int a1), (3, .int a2), (4, .int v4_18), (5, .int v5_18), (6, .int v6_18)]) hx hb dX9_gives_39 hl (by decide) rfl (fun ls hl => ?_)
        refine lv_iload hx hb dX9_gives_41 (lv_at hl 0 rfl) ?_
        refine lv_iload_n hx hb dX9_gives_43 rfl (lv_at hl 4 rfl) ?_
        have J_66 : ∀ (v4_66 : Int32) (v5_66 : Int32), TT = m_k_X9_gives_66 (m_k_X9_gives_18 pp on su ob a0 a1 a2 t_5 n_18) v6_18 v4_66 v5_66 → v4_66 = 0 ∨ v4_66 = 1 → v5_66 = 0 ∨ v5_66 = 1 → ∀ (H : Heap) (locs : List Loc), va_P D vwCl ((wW_k_X9_gives ty X t_5.2.2.1 kn on cu pu gw b_1 b_2 t_5.2.2.2 b_p su t_5.2.1 ob an ch cg fb mh ml ih lb ic) ++ pw ty pp) H → va_D A ((wW_k_X9_gives ty X t_5.2.2.1 kn on cu pu gw b_1 b_2 t_5.2.2.2 b_p su t_5.2.1 ob an ch cg fb mh ml ih lb ic) ++ pw ty pp) → va_S A s.heap H locs → ∀ ls : Array Slot, lv_has ls 8 [(0, .ref (X 20)), (1, .ref a0), (2, .int a1), (3, .int a2), (4, .int v4_66), (5, .int v5_66), (6, .int v6_18)] → W p l e (headSpec vs_k_X9_gives { frames := 3, cells := 0, slots := 0, locals := 71 }).room s m ([.ref (X 20), .ref a0, .int a1, .int a2] : List Value).toArray below meth c H locs 0 0 (MQ below (va_Qi (fun (r : Int32) (u : va_W) => (r = TT.1 ∧ (TT.1 = 0 ∨ TT.1 = 1) ∧ (u = ((wW_k_X9_gives ty X TT.2.2.1 kn on cu pu gw b_1 b_2 TT.2.2.2 b_p su TT.2.1 ob an ch cg fb mh ml ih lb ic) ++ pw ty pp)))) (wq_B D A) A) ([.ref (X 20), .ref a0, .int a1, .int a2] : List Value).toArray s 0 0 A) (F0 m 66 ls []) := by
          intro v4_66 v5_66 hT hb_v4_66 hb_v5_66 H locs hP hD hS ls hl
          rw [m_k_X9_gives_66] at hT
          refine lv_iinc (v := v6_18 + 1) (lv' := [(6, .int (v6_18 + 1)), (0, .ref (X 20)), (1, .ref a0), (2, .int a1), (3, .int a2), (4, .int v4_66), (5, .int v5_66)]) hx hb dX9_gives_66 hl (k := 6) rfl (by rfl) (by decide) rfl (fun ls hl => ?_)
          refine lv_goto (tgt := 18) hx hb dX9_gives_69 (by decide) ?_
          exact ih_18 v4_66 v5_66 (v6_18 + 1) (wi_up hu_18 (Int32.not_le.mp c_4)) hT (wi_inc hn_18 (Int32.not_le.mp c_4)) hb_v4_66 hb_v5_66 _ _ hP hD hS _ (lv_sub hl [1, 2, 3, 4, 5, 6, 0] rfl)
        refine lv_icmp_ne (tgt := 53) hx hb dX9_gives_44 (by decide) (fun c_11 => ?_) (fun c_11 => ?_)
        · rw [if_neg c_11] at hT
          refine lv_aload_n hx hb dX9_gives_53 rfl (lv_at hl 1 rfl) ?_
          refine lv_iload_n hx hb dX9_gives_54 rfl (lv_at hl 3 rfl) ?_
          refine lv_iload hx hb dX9_gives_55 (lv_at hl 0 rfl) ?_
          obtain ⟨t_57, ht_57⟩ : ∃ t, t = m_k_X9_isIn on su ob a1 t_36 := ⟨_, rfl⟩
          rw [lE_eq ht_57] at hT
          refine wq_iQW (wc := (wW_k_X9_isIn ty X t_5.2.2.1 kn on cu pu gw su ob an ch cg fb mh ml ih lb ic)) (pl := pw ty pp) (va_runV (As := [.int a1, .int t_36]) (rest := []) ⟨hx, hb, hml, hown, hts⟩ (k_X9_isIn l D ty td mi H.size X t_5.2.2.1 kn on cu pu gw su ob an ch cg fb mh ml ih lb ic a1 t_36 t_57 ht_57) (cwV 2 hts gv_k_X9_gives_2 rfl rfl rfl (by decide +kernel) ⟨(Nat.le_of_ble_eq_true rfl), (Nat.le_of_ble_eq_true rfl)⟩) (wm_V (wm_preS (vP_left hP) (vD_left hD) hK hE hS hA [true, false, true, true, false, true, true] rfl) (va_recv (q0 := 6) (ci := 11) hK hP rfl rfl)) rfl rfl hl.1 rfl (lv_room (Nat.le_of_ble_eq_true rfl)) dX9_gives_57 ⟨(Nat.le_of_ble_eq_true rfl), (Nat.le_of_ble_eq_true rfl)⟩) hS hA hP hD [true, false, true, true, false, true, true] rfl (fun _ _ h => by rcases h with ⟨-, -, rfl⟩; rfl) (fun r u H locs hw hP hD hS => ?_)
          obtain ⟨hr0, c_14, rfl⟩ := hw
          subst r
          have hP : va_P D vwCl ((wW_k_X9_gives ty X t_5.2.2.1 kn on cu pu gw b_1 b_2 t_5.2.2.2 b_p su t_5.2.1 ob an ch cg fb mh ml ih lb ic) ++ pw ty pp) H := hP
          have hD : va_D A ((wW_k_X9_gives ty X t_5.2.2.1 kn on cu pu gw b_1 b_2 t_5.2.2.2 b_p su t_5.2.1 ob an ch cg fb mh ml ih lb ic) ++ pw ty pp) := hD
          refine W.widen (k := 0) (n := 0) (Nat.le_of_ble_eq_true rfl) (Nat.le_of_ble_eq_true rfl) ?_
          refine lv_if_eq (tgt := 66) hx hb dX9_gives_60 (by decide) (fun c_15 => ?_) (fun c_15 => ?_)
          · rw [if_pos c_15] at hT
            exact J_66 v4_18 v5_18 hT hb_v4_18 hb_v5_18 _ _ hP hD hS _ (lv_sub hl [1, 2, 3, 4, 5, 6, 7] rfl)
          · rw [if_neg c_15] at hT
            refine lv_iconst (v := 0) hx hb dX9_gives_63 (by decide) ?_
            refine lv_istore (lv' := [(5, .int 0), (7, .int t_36), (0, .ref (X 20)), (1, .ref a0), (2, .int a1), (3, .int a2), (4, .int v4_18), (6, .int v6_18)]) hx hb dX9_gives_64 hl (by decide) rfl (fun ls hl => ?_)
            exact J_66 v4_18 0 hT hb_v4_18 (by decide) _ _ hP hD hS _ (lv_sub hl [2, 3, 4, 5, 6, 0, 7] rfl)
        · rw [if_pos c_11] at hT
          refine lv_iconst (v := 1) hx hb dX9_gives_47 (by decide) ?_
          refine lv_istore (lv' := [(4, .int 1), (7, .int t_36), (0, .ref (X 20)), (1, .ref a0), (2, .int a1), (3, .int a2), (5, .int v5_18), (6, .int v6_18)]) hx hb dX9_gives_48 hl (by decide) rfl (fun ls hl => ?_)
          refine lv_goto (tgt := 66) hx hb dX9_gives_50 (by decide) ?_
          exact J_66 1 v5_18 hT (by decide) hb_v5_18 _ _ hP hD hS _ (lv_sub hl [2, 3, 4, 5, 0, 6, 7] rfl)
  exact L_18 wF 0 1 0 (wF_up 0) hT (by decide) (by decide) (by decide) _ _ hP hD hS _ (lv_sub hl [3, 4, 5, 6, 2, 1, 0] rfl)
theorem dX9_reasonFor_0 : decode cX9_reasonFor 0 = .ok (.iconst 0, 1) := by decide +kernel
theorem dX9_reasonFor_1 : decode cX9_reasonFor 1 = .ok (.istore_n 3, 1) := by decide +kernel
theorem dX9_reasonFor_2 : decode cX9_reasonFor 2 = .ok (.iload_n 3, 1) := by decide +kernel
theorem dX9_reasonFor_3 : decode cX9_reasonFor 3 = .ok (.aload_n 0, 1) := by decide +kernel
theorem dX9_reasonFor_4 : decode cX9_reasonFor 4 = .ok (.getfield 38, 3) := by decide +kernel
theorem dX9_reasonFor_7 : decode cX9_reasonFor 7 = .ok (.getfield 96, 3) := by decide +kernel
theorem dX9_reasonFor_10 : decode cX9_reasonFor 10 = .ok (.if_icmp .ge 71, 3) := by decide +kernel
theorem dX9_reasonFor_13 : decode cX9_reasonFor 13 = .ok (.iload_n 3, 1) := by decide +kernel
theorem dX9_reasonFor_14 : decode cX9_reasonFor 14 = .ok (.sipush 300, 3) := by decide +kernel
theorem dX9_reasonFor_17 : decode cX9_reasonFor 17 = .ok (.if_icmp .ge 64, 3) := by decide +kernel
theorem dX9_reasonFor_20 : decode cX9_reasonFor 20 = .ok (.aload_n 0, 1) := by decide +kernel
theorem dX9_reasonFor_21 : decode cX9_reasonFor 21 = .ok (.getfield 38, 3) := by decide +kernel
theorem dX9_reasonFor_24 : decode cX9_reasonFor 24 = .ok (.iload_n 3, 1) := by decide +kernel
theorem dX9_reasonFor_25 : decode cX9_reasonFor 25 = .ok (.invokevirtual 129, 3) := by decide +kernel
theorem dX9_reasonFor_28 : decode cX9_reasonFor 28 = .ok (.astore 4, 2) := by decide +kernel
theorem dX9_reasonFor_30 : decode cX9_reasonFor 30 = .ok (.aload 4, 2) := by decide +kernel
theorem dX9_reasonFor_32 : decode cX9_reasonFor 32 = .ok (.ifnull 43, 3) := by decide +kernel
theorem dX9_reasonFor_35 : decode cX9_reasonFor 35 = .ok (.aload 4, 2) := by decide +kernel
theorem dX9_reasonFor_37 : decode cX9_reasonFor 37 = .ok (.getfield 119, 3) := by decide +kernel
theorem dX9_reasonFor_40 : decode cX9_reasonFor 40 = .ok (.bipush 119, 2) := by decide +kernel
theorem dX9_reasonFor_42 : decode cX9_reasonFor 42 = .ok (.if_icmp .eq 33, 3) := by decide +kernel
theorem dX9_reasonFor_45 : decode cX9_reasonFor 45 = .ok (.aload_n 0, 1) := by decide +kernel
theorem dX9_reasonFor_46 : decode cX9_reasonFor 46 = .ok (.aload 4, 2) := by decide +kernel
theorem dX9_reasonFor_48 : decode cX9_reasonFor 48 = .ok (.iload_n 1, 1) := by decide +kernel
theorem dX9_reasonFor_49 : decode cX9_reasonFor 49 = .ok (.invokevirtual 300, 3) := by decide +kernel
theorem dX9_reasonFor_52 : decode cX9_reasonFor 52 = .ok (.ifCond .eq 23, 3) := by decide +kernel
theorem dX9_reasonFor_55 : decode cX9_reasonFor 55 = .ok (.aload_n 0, 1) := by decide +kernel
theorem dX9_reasonFor_56 : decode cX9_reasonFor 56 = .ok (.aload 4, 2) := by decide +kernel
theorem dX9_reasonFor_58 : decode cX9_reasonFor 58 = .ok (.iload_n 1, 1) := by decide +kernel
theorem dX9_reasonFor_59 : decode cX9_reasonFor 59 = .ok (.iload_n 2, 1) := by decide +kernel
theorem dX9_reasonFor_60 : decode cX9_reasonFor 60 = .ok (.invokevirtual 302, 3) := by decide +kernel
theorem dX9_reasonFor_63 : decode cX9_reasonFor 63 = .ok (.ifCond .eq 12, 3) := by decide +kernel
theorem dX9_reasonFor_66 : decode cX9_reasonFor 66 = .ok (.aload_n 0, 1) := by decide +kernel
theorem dX9_reasonFor_67 : decode cX9_reasonFor 67 = .ok (.getfield 38, 3) := by decide +kernel
theorem dX9_reasonFor_70 : decode cX9_reasonFor 70 = .ok (.iload_n 3, 1) := by decide +kernel
theorem dX9_reasonFor_71 : decode cX9_reasonFor 71 = .ok (.invokevirtual 152, 3) := by decide +kernel
theorem dX9_reasonFor_74 : decode cX9_reasonFor 74 = .ok (.ireturn, 1) := by decide +kernel
theorem dX9_reasonFor_75 : decode cX9_reasonFor 75 = .ok (.iinc 3 1, 3) := by decide +kernel
theorem dX9_reasonFor_78 : decode cX9_reasonFor 78 = .ok (.goto (-76), 3) := by decide +kernel
theorem dX9_reasonFor_81 : decode cX9_reasonFor 81 = .ok (.aload_n 0, 1) := by decide +kernel
theorem dX9_reasonFor_82 : decode cX9_reasonFor 82 = .ok (.getfield 34, 3) := by decide +kernel
theorem dX9_reasonFor_85 : decode cX9_reasonFor 85 = .ok (.iload_n 2, 1) := by decide +kernel
theorem dX9_reasonFor_86 : decode cX9_reasonFor 86 = .ok (.invokevirtual 306, 3) := by decide +kernel
theorem dX9_reasonFor_89 : decode cX9_reasonFor 89 = .ok (.istore_n 3, 1) := by decide +kernel
theorem dX9_reasonFor_90 : decode cX9_reasonFor 90 = .ok (.aload_n 0, 1) := by decide +kernel
theorem dX9_reasonFor_91 : decode cX9_reasonFor 91 = .ok (.getfield 34, 3) := by decide +kernel
theorem dX9_reasonFor_94 : decode cX9_reasonFor 94 = .ok (.iload_n 3, 1) := by decide +kernel
theorem dX9_reasonFor_95 : decode cX9_reasonFor 95 = .ok (.invokevirtual 83, 3) := by decide +kernel
theorem dX9_reasonFor_98 : decode cX9_reasonFor 98 = .ok (.istore 4, 2) := by decide +kernel
theorem dX9_reasonFor_100 : decode cX9_reasonFor 100 = .ok (.iload 4, 2) := by decide +kernel
theorem dX9_reasonFor_102 : decode cX9_reasonFor 102 = .ok (.bipush 116, 2) := by decide +kernel
theorem dX9_reasonFor_104 : decode cX9_reasonFor 104 = .ok (.if_icmp .eq 10, 3) := by decide +kernel
theorem dX9_reasonFor_107 : decode cX9_reasonFor 107 = .ok (.iload 4, 2) := by decide +kernel
theorem dX9_reasonFor_109 : decode cX9_reasonFor 109 = .ok (.bipush 117, 2) := by decide +kernel
theorem dX9_reasonFor_111 : decode cX9_reasonFor 111 = .ok (.if_icmp .ne 10, 3) := by decide +kernel
theorem dX9_reasonFor_114 : decode cX9_reasonFor 114 = .ok (.bipush 100, 2) := by decide +kernel
theorem dX9_reasonFor_116 : decode cX9_reasonFor 116 = .ok (.iload_n 3, 1) := by decide +kernel
theorem dX9_reasonFor_117 : decode cX9_reasonFor 117 = .ok (.iadd, 1) := by decide +kernel
theorem dX9_reasonFor_118 : decode cX9_reasonFor 118 = .ok (.goto 4, 3) := by decide +kernel
theorem dX9_reasonFor_121 : decode cX9_reasonFor 121 = .ok (.iconst (-1), 1) := by decide +kernel
theorem dX9_reasonFor_122 : decode cX9_reasonFor 122 = .ok (.ireturn, 1) := by decide +kernel
def wW_k_X9_reasonFor (ty : Nat → ClassId) (X : Nat → Nat) (z9_0 : Int32) (z9_1 : Int32) (z9_2 : Int32) (z9_3 : Int32) (z9_4 : Nat → Option Nat) (z9_5 : Nat → Int32) (z9_6 : Nat → Int32) (z9_7 : Int32) (z9_8 : Int32) (z9_9 : Int32) (z9_10 : Int32) (z9_11 : Int32) (z9_12 : Int32) (z9_13 : Int32) (z9_14 : Int32) (z9_15 : Int32) (z9_16 : Int32) (z9_17 : Nat → Int64) (z9_18 : Nat → Int32) (z9_19 : Nat → Int32) (z9_20 : Nat → Int32) (z9_21 : Nat → Int32) (z9_22 : Int32) (z9_23 : Int32) (z9_24 : Int32) (z9_25 : Int32) (z9_26 : Int32) (z9_27 : Int32) (z9_28 : Int32) (z9_29 : Int32) (z9_30 : Int32) (z9_31 : Nat → Int32) (z9_32 : Nat → Int32) : va_W := [((X 1), .inr (8, [.ref (X 2), .int z9_0, .ref (X 3), .int z9_1, .ref (X 4), .ref (X 5), .int z9_2, .ref (X 6), .ref (X 7), .int z9_3])), ((X 3), .inl (ty 4, 20, .inr (.inr (.inr (.inr z9_4))))), ((X 6), .inl (ty 0, 6, .inl z9_5)), ((X 7), .inl (ty 2, 6, .inl z9_6)), ((X 8), .inr (5, [.ref (X 1), .ref (X 9), .ref (X 10), .ref (X 12), .ref (X 14), .int z9_7, .ref (X 15), .ref (X 16), .ref (X 17), .int z9_8, .ref (X 18), .ref (X 19), .int z9_9, .int z9_10, .int z9_11, .int z9_12])), ((X 9), .inr (4, [.int z9_13, .int z9_14, .int z9_15, .int z9_16])), ((X 10), .inr (3, [.ref (X 11)])), ((X 11), .inl (ty 1, 6, .inr (.inl z9_17))), ((X 14), .inl (ty 0, 16, .inl z9_18)), ((X 15), .inl (ty 0, 300, .inl z9_19)), ((X 16), .inl (ty 0, 300, .inl z9_20)), ((X 19), .inl (ty 0, 384, .inl z9_21)), ((X 20), .inr (11, [.ref (X 1), .ref (X 8), .ref (X 21), .ref (X 28), .ref (X 35), .int z9_22, .ref (X 36), .ref (X 37), .ref (X 38), .int z9_23, .int z9_24, .int z9_25, .int z9_26, .int z9_27, .int z9_28, .int z9_29, .int z9_30])), ((X 36), .inl (ty 0, 6, .inl z9_31)), ((X 37), .inl (ty 0, 6, .inl z9_32))]
def vs_k_X9_reasonFor : List Cond := .code yX9_reasonFor cX9_reasonFor 5 (some .int) :: ([.fieldLink RX9 38 "AnswerFold$Solver" "grounding" "LAnswerFold$Grounding;", .fieldLink RX9 34 "AnswerFold$Solver" "program" "LAnswerFold$Program;", .methodLink RX9 306 yX6_externalOf, .instanceMethod yX6_externalOf, .selects RX6 yX6_externalOf yX6_externalOf, .initialized RX6, .methodLink RX9 83 yX6_externalState, .instanceMethod yX6_externalState, .selects RX6 yX6_externalState yX6_externalState, .methodLink RX9 129 yX3_bindKept, .instanceMethod yX3_bindKept, .selects RX3 yX3_bindKept yX3_bindKept, .initialized RX3, .methodLink RX9 300 yX9_bodyHolds, .instanceMethod yX9_bodyHolds, .selects RX9 yX9_bodyHolds yX9_bodyHolds, .initialized RX9, .methodLink RX9 302 yX9_gives, .instanceMethod yX9_gives, .selects RX9 yX9_gives yX9_gives, .methodLink RX9 152 yX3_keptRuleAt, .instanceMethod yX3_keptRuleAt, .selects RX3 yX3_keptRuleAt yX3_keptRuleAt] ++ (u_ws RX9 TX9 17 ++ (u_ws RX3 TX3 16 ++ (vs_k_X6_externalOf ++ (vs_k_X6_externalState ++ (vs_k_X3_bindKept ++ (u_ws RX8 TX8 11 ++ (vs_k_X9_bodyHolds ++ (vs_k_X9_gives ++ (vs_k_X3_keptRuleAt))))))))))
theorem iv_k_X9_reasonFor_X3 : ∀ w ∈ u_ws RX3 TX3 16, w ∈ vs_k_X9_reasonFor := (fun _ h => List.mem_cons_of_mem _ (List.mem_append_right _ (List.mem_append_right _ (List.mem_append_left _ h))))
theorem iv_k_X9_reasonFor_X8 : ∀ w ∈ u_ws RX8 TX8 11, w ∈ vs_k_X9_reasonFor := (fun _ h => List.mem_cons_of_mem _ (List.mem_append_right _ (List.mem_append_right _ (List.mem_append_right _ (List.mem_append_right _ (List.mem_append_right _ (List.mem_append_right _ (List.mem_append_left _ h))))))))
theorem iv_k_X9_reasonFor_X9 : ∀ w ∈ u_ws RX9 TX9 17, w ∈ vs_k_X9_reasonFor := (fun _ h => List.mem_cons_of_mem _ (List.mem_append_right _ (List.mem_append_left _ h)))
set_option maxRecDepth 20000 in
theorem gv_k_X9_reasonFor_0 : GoodIn vs_k_X9_reasonFor (wsV RX9 306 RX6 yX6_externalOf vs_k_X6_externalOf) := goodIn_app (goodIn_sub (by decide +kernel) (by decide +kernel)) (goodIn_sub (fun _ h => List.mem_cons_of_mem _ (List.mem_append_right _ (List.mem_append_right _ (List.mem_append_right _ (List.mem_append_left _ h))))) (by decide +kernel))
set_option maxRecDepth 20000 in
theorem gv_k_X9_reasonFor_1 : GoodIn vs_k_X9_reasonFor (wsV RX9 83 RX6 yX6_externalState vs_k_X6_externalState) := goodIn_app (goodIn_sub (by decide +kernel) (by decide +kernel)) (goodIn_sub (fun _ h => List.mem_cons_of_mem _ (List.mem_append_right _ (List.mem_append_right _ (List.mem_append_right _ (List.mem_append_right _ (List.mem_append_left _ h)))))) (by decide +kernel))
set_option maxRecDepth 20000 in
theorem gv_k_X9_reasonFor_2 : GoodIn vs_k_X9_reasonFor (wsV RX9 129 RX3 yX3_bindKept vs_k_X3_bindKept) := goodIn_app (goodIn_sub (by decide +kernel) (by decide +kernel)) (goodIn_sub (fun _ h => List.mem_cons_of_mem _ (List.mem_append_right _ (List.mem_append_right _ (List.mem_append_right _ (List.mem_append_right _ (List.mem_append_right _ (List.mem_append_left _ h))))))) (by decide +kernel))
set_option maxRecDepth 20000 in
theorem gv_k_X9_reasonFor_3 : GoodIn vs_k_X9_reasonFor (wsV RX9 300 RX9 yX9_bodyHolds vs_k_X9_bodyHolds) := goodIn_app (goodIn_sub (by decide +kernel) (by decide +kernel)) (goodIn_sub (fun _ h => List.mem_cons_of_mem _ (List.mem_append_right _ (List.mem_append_right _ (List.mem_append_right _ (List.mem_append_right _ (List.mem_append_right _ (List.mem_append_right _ (List.mem_append_right _ (List.mem_append_left _ h))))))))) (by decide +kernel))
set_option maxRecDepth 20000 in
theorem gv_k_X9_reasonFor_4 : GoodIn vs_k_X9_reasonFor (wsV RX9 302 RX9 yX9_gives vs_k_X9_gives) := goodIn_app (goodIn_sub (by decide +kernel) (by decide +kernel)) (goodIn_sub (fun _ h => List.mem_cons_of_mem _ (List.mem_append_right _ (List.mem_append_right _ (List.mem_append_right _ (List.mem_append_right _ (List.mem_append_right _ (List.mem_append_right _ (List.mem_append_right _ (List.mem_append_right _ (List.mem_append_left _ h)))))))))) (by decide +kernel))
set_option maxRecDepth 20000 in
theorem gv_k_X9_reasonFor_5 : GoodIn vs_k_X9_reasonFor (wsV RX9 152 RX3 yX3_keptRuleAt vs_k_X3_keptRuleAt) := goodIn_app (goodIn_sub (by decide +kernel) (by decide +kernel)) (goodIn_sub (fun _ h => List.mem_cons_of_mem _ (List.mem_append_right _ (List.mem_append_right _ (List.mem_append_right _ (List.mem_append_right _ (List.mem_append_right _ (List.mem_append_right _ (List.mem_append_right _ (List.mem_append_right _ (List.mem_append_right _ (h))))))))))) (by decide +kernel))
set_option maxHeartbeats 4000000 in
set_option maxRecDepth 100000 in
theorem k_X9_reasonFor (l : Launch) (D : va_G) (ty : Nat → ClassId) (td mi sz : Nat) (pp : pT) (X : Nat → Nat) (pn : Int32) (rn : Int32) (tn : Int32) (en : Int32) (rf : Nat → Option Nat) (ea : Nat → Int32) (es : Nat → Int32) (hn : Int32) (kn : Int32) (on : Int32) (cu : Int32) (pu : Int32) (gw : Int32) (b_1 : Int32) (b_2 : Int32) (b_3 : Int32) (b_p : Int32) (su : Nat → Int64) (hds : Nat → Int32) (kr : Nat → Int32) (kv : Nat → Int32) (ob : Nat → Int32) (an : Int32) (ch : Int32) (cg : Int32) (fb : Int32) (mh : Int32) (ml : Int32) (ih : Int32) (lb : Int32) (ic : Int32) (obi : Nat → Int32) (sc : Nat → Int32) (a1 : Int32) (a2 : Int32) (hok : pOK pp) (hru : ∀ (i a : Nat), rf i = some a → a ∈ pRA pp) (hch : ∀ i : Nat, narrow .char (.int (es i)) = .int (es i)) (TT : r_k_X9_reasonFor) (hTT : TT = m_k_X9_reasonFor pp rn en rf ea es hn kn on b_1 b_2 b_3 b_p su hds kr kv ob obi sc a1 a2) : Met l yX9_reasonFor vs_k_X9_reasonFor { frames := 5, cells := 0, slots := 0, locals := 112 } (va_Pc [.ref (X 20), .int a1, .int a2] (wq_P D ty td mi ((wW_k_X9_reasonFor ty X pn rn tn en rf ea es hn kn on cu pu gw b_1 b_2 b_3 b_p su hds kr kv ob an ch cg fb mh ml ih lb ic obi sc) ++ pw ty pp) sz)) (va_Qi (fun (r : Int32) (u : va_W) => (r = TT.1 ∧ (u = ((wW_k_X9_reasonFor ty X pn rn tn en rf ea es TT.2.2.1 kn on cu pu gw TT.2.2.2.1 TT.2.2.2.2.1 TT.2.2.2.2.2.1 TT.2.2.2.2.2.2 su TT.2.1 kr kv ob an ch cg fb mh ml ih lb ic obi sc) ++ pw ty pp)))) (wq_B D (va_A ((wW_k_X9_reasonFor ty X pn rn tn en rf ea es hn kn on cu pu gw b_1 b_2 b_3 b_p su hds kr kv ob an ch cg fb mh ml ih lb ic obi sc) ++ pw ty pp) sz)) (va_A ((wW_k_X9_reasonFor ty X pn rn tn en rf ea es hn kn on cu pu gw b_1 b_2 b_3 b_p su hds kr kv ob an ch cg fb mh ml ih lb ic obi sc) ++ pw ty pp) sz)) 0 0 (va_A ((wW_k_X9_reasonFor ty X pn rn tn en rf ea es hn kn on cu pu gw b_1 b_2 b_3 b_p su hds kr kv ob an ch cg fb mh ml ih lb ic obi sc) ++ pw ty pp) sz) := by
  refine Met.ofW (cc := cX9_reasonFor) (maxL := 5) (ret := (some .int)) (by decide) rfl ?_
  intro p e s m args below meth c s₁ B hml hv
  obtain ⟨rfl, hsz, hP, hK, hD0, hE⟩ := hv
  have hx := B.exec
  have hb := B.bytes
  have hr := B.returns
  have hts := atoms_spec (ws := vs_k_X9_reasonFor) B.pre
  have hown : s.vm.findClass RX9 = some m.cls := findClass_of_methodNamed B.named
  have hlocks := B.notSynchronized
  subst hsz
  have hD := hD0.self (sz := s.heap.size)
  generalize hAe : va_A ((wW_k_X9_reasonFor ty X pn rn tn en rf ea es hn kn on cu pu gw b_1 b_2 b_3 b_p su hds kr kv ob an ch cg fb mh ml ih lb ic obi sc) ++ pw ty pp) s.heap.size = A at hD hE ⊢
  have hA : ∀ q : Nat, s.heap.size ≤ q → A q := fun q h => by rw [← hAe]; exact Or.inr h
  have hS : va_S A s.heap s.heap [] := va_S.rf
  have hP : va_P D vwCl ((wW_k_X9_reasonFor ty X pn rn tn en rf ea es hn kn on cu pu gw b_1 b_2 b_3 b_p su hds kr kv ob an ch cg fb mh ml ih lb ic obi sc) ++ pw ty pp) s.heap := hP
  have hl := lv_entry ([.ref (X 20), .int a1, .int a2]) (n := 5) (Nat.le_of_ble_eq_true rfl)
  rw [lg_entry_eq]
  generalize (lg_sl ([.ref (X 20), .int a1, .int a2]) ++ List.replicate (5 - (lg_sl ([.ref (X 20), .int a1, .int a2])).length) Slot.unset).toArray = ls at hl ⊢
  have hl : lv_has ls 5 [(0, .ref (X 20)), (1, .int a1), (2, .int a2)] := hl
  have END : ∀ (r : Int32) (w9_0 : Nat → Int32) (w9_1 : Int32) (w9_2 : Int32) (w9_3 : Int32) (w9_4 : Int32) (w9_5 : Int32), TT = (r, w9_0, w9_1, w9_2, w9_3, w9_4, w9_5) → ∀ (H : Heap) (locs : List Loc), va_P D vwCl ((wW_k_X9_reasonFor ty X pn rn tn en rf ea es w9_1 kn on cu pu gw w9_2 w9_3 w9_4 w9_5 su w9_0 kr kv ob an ch cg fb mh ml ih lb ic obi sc) ++ pw ty pp) H → va_D A ((wW_k_X9_reasonFor ty X pn rn tn en rf ea es w9_1 kn on cu pu gw w9_2 w9_3 w9_4 w9_5 su w9_0 kr kv ob an ch cg fb mh ml ih lb ic obi sc) ++ pw ty pp) → va_S A s.heap H locs → ∀ (ls : Array Slot) (pc : Nat), decode cX9_reasonFor pc = .ok (.ireturn, 1) → W p l e (headSpec vs_k_X9_reasonFor { frames := 5, cells := 0, slots := 0, locals := 112 }).room s m ([.ref (X 20), .int a1, .int a2] : List Value).toArray below meth c H locs 0 0 (MQ below (va_Qi (fun (r : Int32) (u : va_W) => (r = TT.1 ∧ (u = ((wW_k_X9_reasonFor ty X pn rn tn en rf ea es TT.2.2.1 kn on cu pu gw TT.2.2.2.1 TT.2.2.2.2.1 TT.2.2.2.2.2.1 TT.2.2.2.2.2.2 su TT.2.1 kr kv ob an ch cg fb mh ml ih lb ic obi sc) ++ pw ty pp)))) (wq_B D A) A) ([.ref (X 20), .int a1, .int a2] : List Value).toArray s 0 0 A) (F0 m pc ls [.int r]) := by
    intro r w9_0 w9_1 w9_2 w9_3 w9_4 w9_5 hT H locs hP hD hS ls pc hd
    have hM : TT = (r, w9_0, w9_1, w9_2, w9_3, w9_4, w9_5) := hT
    exact W.iret (v := r) hx hb hr (fun t ht hW => ⟨⟨r, ((wW_k_X9_reasonFor ty X pn rn tn en rf ea es w9_1 kn on cu pu gw w9_2 w9_3 w9_4 w9_5 su w9_0 kr kv ob an ch cg fb mh ml ih lb ic obi sc) ++ pw ty pp), rfl, ⟨(by rw [hM]), (by rw [hM])⟩, wq_B.of ht hP hD⟩, hS.F ht⟩) hS.2.2 hd
  have hT := hTT
  rw [m_k_X9_reasonFor] at hT
  refine lv_iconst (v := 0) hx hb dX9_reasonFor_0 (by decide) ?_
  refine lv_istore_n (lv' := [(3, .int 0), (0, .ref (X 20)), (1, .int a1), (2, .int a2)]) hx hb dX9_reasonFor_1 rfl hl (by decide) rfl (fun ls hl => ?_)
  have L_2 : ∀ (n_2 : Nat) (v3_2 : Int32) (x14_f_2 : Nat → Int32) (x8_5_2 : Int32) (x9_0_2 : Int32) (x9_1_2 : Int32) (x9_2_2 : Int32) (x9_3_2 : Int32), (2147483648 - v3_2.toInt).toNat < n_2 → TT = m_k_X9_reasonFor_2 pp rn en rf ea es kn on su kr kv ob obi sc a1 a2 n_2 v3_2 x14_f_2 x8_5_2 x9_0_2 x9_1_2 x9_2_2 x9_3_2 → 0 ≤ v3_2.toInt → ∀ (H : Heap) (locs : List Loc), va_P D vwCl ((wW_k_X9_reasonFor ty X pn rn tn en rf ea es x8_5_2 kn on cu pu gw x9_0_2 x9_1_2 x9_2_2 x9_3_2 su x14_f_2 kr kv ob an ch cg fb mh ml ih lb ic obi sc) ++ pw ty pp) H → va_D A ((wW_k_X9_reasonFor ty X pn rn tn en rf ea es x8_5_2 kn on cu pu gw x9_0_2 x9_1_2 x9_2_2 x9_3_2 su x14_f_2 kr kv ob an ch cg fb mh ml ih lb ic obi sc) ++ pw ty pp) → va_S A s.heap H locs → ∀ ls : Array Slot, lv_has ls 5 [(0, .ref (X 20)), (1, .int a1), (2, .int a2), (3, .int v3_2)] → W p l e (headSpec vs_k_X9_reasonFor { frames := 5, cells := 0, slots := 0, locals := 112 }).room s m ([.ref (X 20), .int a1, .int a2] : List Value).toArray below meth c H locs 0 0 (MQ below (va_Qi (fun (r : Int32) (u : va_W) => (r = TT.1 ∧ (u = ((wW_k_X9_reasonFor ty X pn rn tn en rf ea es TT.2.2.1 kn on cu pu gw TT.2.2.2.1 TT.2.2.2.2.1 TT.2.2.2.2.2.1 TT.2.2.2.2.2.2 su TT.2.1 kr kv ob an ch cg fb mh ml ih lb ic obi sc) ++ pw ty pp)))) (wq_B D A) A) ([.ref (X 20), .int a1, .int a2] : List Value).toArray s 0 0 A) (F0 m 2 ls []) := by
    intro n_2
    induction n_2 with
    | zero => intro v3_2 x14_f_2 x8_5_2 x9_0_2 x9_1_2 x9_2_2 x9_3_2 hu; exact absurd hu (Nat.not_lt_zero _)
    | succ n_2 ih_2 =>
      intro v3_2 x14_f_2 x8_5_2 x9_0_2 x9_1_2 x9_2_2 x9_3_2 hu_2 hT hn_2 H locs hP hD hS ls hl
      rw [m_k_X9_reasonFor_2_succ, m_k_X9_reasonFor_2s] at hT
      refine lv_iload_n hx hb dX9_reasonFor_2 rfl (lv_at hl 3 rfl) ?_
      refine lv_aload_n hx hb dX9_reasonFor_3 rfl (lv_at hl 0 rfl) ?_
      refine va_get (D := D) (ci := 11) (v := .ref (X 8)) (C := RX9) (T := TX9) (N := 17) hx hb hts iv_k_X9_reasonFor_X9 hown hK hP 12 rfl rfl 1 (by decide) (hts (.fieldLink RX9 38 "AnswerFold$Solver" "grounding" "LAnswerFold$Grounding;") (by decide +kernel)) (fun _ h9 => h9) rfl dX9_reasonFor_4 ?_
      refine va_getN (D := D) (ci := 5) (v := .int kn) (C := RX3) (T := TX3) (N := 16) hx hb hts iv_k_X9_reasonFor_X3 hown hK hP 4 rfl rfl 9 (by decide) (hE.at (.fieldLinkNest "AnswerFold$Solver" 96 "AnswerFold$Grounding" "keptCount" "I" "AnswerFold") (by decide +kernel)) (fun _ h9 => h9) rfl dX9_reasonFor_7 ?_
      have J_81 : ∀ (_ : Unit), TT = m_k_X9_reasonFor_81 en ea es a2 x14_f_2 x8_5_2 x9_0_2 x9_1_2 x9_2_2 x9_3_2 → ∀ (H : Heap) (locs : List Loc), va_P D vwCl ((wW_k_X9_reasonFor ty X pn rn tn en rf ea es x8_5_2 kn on cu pu gw x9_0_2 x9_1_2 x9_2_2 x9_3_2 su x14_f_2 kr kv ob an ch cg fb mh ml ih lb ic obi sc) ++ pw ty pp) H → va_D A ((wW_k_X9_reasonFor ty X pn rn tn en rf ea es x8_5_2 kn on cu pu gw x9_0_2 x9_1_2 x9_2_2 x9_3_2 su x14_f_2 kr kv ob an ch cg fb mh ml ih lb ic obi sc) ++ pw ty pp) → va_S A s.heap H locs → ∀ ls : Array Slot, lv_has ls 5 [(0, .ref (X 20)), (2, .int a2)] → W p l e (headSpec vs_k_X9_reasonFor { frames := 5, cells := 0, slots := 0, locals := 112 }).room s m ([.ref (X 20), .int a1, .int a2] : List Value).toArray below meth c H locs 0 0 (MQ below (va_Qi (fun (r : Int32) (u : va_W) => (r = TT.1 ∧ (u = ((wW_k_X9_reasonFor ty X pn rn tn en rf ea es TT.2.2.1 kn on cu pu gw TT.2.2.2.1 TT.2.2.2.2.1 TT.2.2.2.2.2.1 TT.2.2.2.2.2.2 su TT.2.1 kr kv ob an ch cg fb mh ml ih lb ic obi sc) ++ pw ty pp)))) (wq_B D A) A) ([.ref (X 20), .int a1, .int a2] : List Value).toArray s 0 0 A) (F0 m 81 ls []) := by
        intro _ hT  H locs hP hD hS ls hl
        rw [m_k_X9_reasonFor_81] at hT
        refine lv_aload_n hx hb dX9_reasonFor_81 rfl (lv_at hl 0 rfl) ?_
        refine va_get (D := D) (ci := 11) (v := .ref (X 1)) (C := RX9) (T := TX9) (N := 17) hx hb hts iv_k_X9_reasonFor_X9 hown hK hP 12 rfl rfl 0 (by decide) (hts (.fieldLink RX9 34 "AnswerFold$Solver" "program" "LAnswerFold$Program;") (by decide +kernel)) (fun _ h9 => h9) rfl dX9_reasonFor_82 ?_
        refine lv_iload_n hx hb dX9_reasonFor_85 rfl (lv_at hl 1 rfl) ?_
        obtain ⟨t_86, ht_86⟩ : ∃ t, t = m_k_X6_externalOf en ea a2 := ⟨_, rfl⟩
        rw [lE_eq ht_86] at hT
        refine wq_iQW (wc := (wW_k_X6_externalOf ty X pn rn tn en ea)) (pl := pw ty pp) (va_runV (As := [.int a2]) (rest := []) ⟨hx, hb, hml, hown, hts⟩ (k_X6_externalOf l D ty td mi H.size X pn rn tn en ea a2 t_86 ht_86) (cwV 1 hts gv_k_X9_reasonFor_0 rfl rfl rfl (by decide +kernel) ⟨(Nat.le_of_ble_eq_true rfl), (Nat.le_of_ble_eq_true rfl)⟩) (wm_V (wm_preS (vP_left hP) (vD_left hD) hK hE hS hA [true, false, true] rfl) (va_recv (q0 := 0) (ci := 8) hK hP rfl rfl)) rfl rfl hl.1 rfl (lv_room (Nat.le_of_ble_eq_true rfl)) dX9_reasonFor_86 ⟨(Nat.le_of_ble_eq_true rfl), (Nat.le_of_ble_eq_true rfl)⟩) hS hA hP hD [true, false, true] rfl (fun _ _ h => by rcases h with ⟨-, rfl⟩; rfl) (fun r u H locs hw hP hD hS => ?_)
        obtain ⟨hr0, rfl⟩ := hw
        subst r
        have hP : va_P D vwCl ((wW_k_X9_reasonFor ty X pn rn tn en rf ea es x8_5_2 kn on cu pu gw x9_0_2 x9_1_2 x9_2_2 x9_3_2 su x14_f_2 kr kv ob an ch cg fb mh ml ih lb ic obi sc) ++ pw ty pp) H := hP
        have hD : va_D A ((wW_k_X9_reasonFor ty X pn rn tn en rf ea es x8_5_2 kn on cu pu gw x9_0_2 x9_1_2 x9_2_2 x9_3_2 su x14_f_2 kr kv ob an ch cg fb mh ml ih lb ic obi sc) ++ pw ty pp) := hD
        refine W.widen (k := 0) (n := 0) (Nat.le_of_ble_eq_true rfl) (Nat.le_of_ble_eq_true rfl) ?_
        refine lv_istore_n (lv' := [(3, .int t_86), (0, .ref (X 20)), (2, .int a2)]) hx hb dX9_reasonFor_89 rfl hl (by decide) rfl (fun ls hl => ?_)
        refine lv_aload_n hx hb dX9_reasonFor_90 rfl (lv_at hl 1 rfl) ?_
        refine va_get (D := D) (ci := 11) (v := .ref (X 1)) (C := RX9) (T := TX9) (N := 17) hx hb hts iv_k_X9_reasonFor_X9 hown hK hP 12 rfl rfl 0 (by decide) (hts (.fieldLink RX9 34 "AnswerFold$Solver" "program" "LAnswerFold$Program;") (by decide +kernel)) (fun _ h9 => h9) rfl dX9_reasonFor_91 ?_
        refine lv_iload_n hx hb dX9_reasonFor_94 rfl (lv_at hl 0 rfl) ?_
        obtain ⟨t_95, ht_95⟩ : ∃ t, t = m_k_X6_externalState en es t_86 := ⟨_, rfl⟩
        rw [lE_eq ht_95] at hT
        refine wq_iQW (wc := (wW_k_X6_externalState ty X pn rn tn en es)) (pl := pw ty pp) (va_runV (As := [.int t_86]) (rest := []) ⟨hx, hb, hml, hown, hts⟩ (k_X6_externalState l D ty td mi H.size X pn rn tn en es t_86 hch t_95 ht_95) (cwV 1 hts gv_k_X9_reasonFor_1 rfl rfl rfl (by decide +kernel) ⟨(Nat.le_of_ble_eq_true rfl), (Nat.le_of_ble_eq_true rfl)⟩) (wm_V (wm_preS (vP_left hP) (vD_left hD) hK hE hS hA [true, false, false, true] rfl) (va_recv (q0 := 0) (ci := 8) hK hP rfl rfl)) rfl rfl hl.1 rfl (lv_room (Nat.le_of_ble_eq_true rfl)) dX9_reasonFor_95 ⟨(Nat.le_of_ble_eq_true rfl), (Nat.le_of_ble_eq_true rfl)⟩) hS hA hP hD [true, false, false, true] rfl (fun _ _ h => by rcases h with ⟨-, rfl⟩; rfl) (fun r u H locs hw hP hD hS => ?_)
        obtain ⟨hr0, rfl⟩ := hw
        subst r
        have hP : va_P D vwCl ((wW_k_X9_reasonFor ty X pn rn tn en rf ea es x8_5_2 kn on cu pu gw x9_0_2 x9_1_2 x9_2_2 x9_3_2 su x14_f_2 kr kv ob an ch cg fb mh ml ih lb ic obi sc) ++ pw ty pp) H := hP
        have hD : va_D A ((wW_k_X9_reasonFor ty X pn rn tn en rf ea es x8_5_2 kn on cu pu gw x9_0_2 x9_1_2 x9_2_2 x9_3_2 su x14_f_2 kr kv ob an ch cg fb mh ml ih lb ic obi sc) ++ pw ty pp) := hD
        refine W.widen (k := 0) (n := 0) (Nat.le_of_ble_eq_true rfl) (Nat.le_of_ble_eq_true rfl) ?_
        refine lv_istore (lv' := [(4, .int t_95), (3, .int t_86), (0, .ref (X 20)), (2, .int a2)]) hx hb dX9_reasonFor_98 hl (by decide) rfl (fun ls hl => ?_)
        refine lv_iload hx hb dX9_reasonFor_100 (lv_at hl 0 rfl) ?_
        refine lv_bipush (v := 116) hx hb dX9_reasonFor_102 (by decide) ?_
        have J_114 : ∀ (_ : Unit), TT = m_k_X9_reasonFor_114 t_86 x14_f_2 x8_5_2 x9_0_2 x9_1_2 x9_2_2 x9_3_2 → ∀ (H : Heap) (locs : List Loc), va_P D vwCl ((wW_k_X9_reasonFor ty X pn rn tn en rf ea es x8_5_2 kn on cu pu gw x9_0_2 x9_1_2 x9_2_2 x9_3_2 su x14_f_2 kr kv ob an ch cg fb mh ml ih lb ic obi sc) ++ pw ty pp) H → va_D A ((wW_k_X9_reasonFor ty X pn rn tn en rf ea es x8_5_2 kn on cu pu gw x9_0_2 x9_1_2 x9_2_2 x9_3_2 su x14_f_2 kr kv ob an ch cg fb mh ml ih lb ic obi sc) ++ pw ty pp) → va_S A s.heap H locs → ∀ ls : Array Slot, lv_has ls 5 [(3, .int t_86)] → W p l e (headSpec vs_k_X9_reasonFor { frames := 5, cells := 0, slots := 0, locals := 112 }).room s m ([.ref (X 20), .int a1, .int a2] : List Value).toArray below meth c H locs 0 0 (MQ below (va_Qi (fun (r : Int32) (u : va_W) => (r = TT.1 ∧ (u = ((wW_k_X9_reasonFor ty X pn rn tn en rf ea es TT.2.2.1 kn on cu pu gw TT.2.2.2.1 TT.2.2.2.2.1 TT.2.2.2.2.2.1 TT.2.2.2.2.2.2 su TT.2.1 kr kv ob an ch cg fb mh ml ih lb ic obi sc) ++ pw ty pp)))) (wq_B D A) A) ([.ref (X 20), .int a1, .int a2] : List Value).toArray s 0 0 A) (F0 m 114 ls []) := by
          intro _ hT  H locs hP hD hS ls hl
          rw [m_k_X9_reasonFor_114] at hT
          refine lv_bipush (v := 100) hx hb dX9_reasonFor_114 (by decide) ?_
          refine lv_iload_n hx hb dX9_reasonFor_116 rfl (lv_at hl 0 rfl) ?_
          refine lv_iadd hx hb dX9_reasonFor_117 ?_
          refine lv_goto (tgt := 122) hx hb dX9_reasonFor_118 (by decide) ?_
          exact END (100 + t_86) x14_f_2 x8_5_2 x9_0_2 x9_1_2 x9_2_2 x9_3_2 hT _ _ hP hD hS _ _ dX9_reasonFor_122
        refine lv_icmp_eq (tgt := 114) hx hb dX9_reasonFor_104 (by decide) (fun c_5 => ?_) (fun c_5 => ?_)
        · rw [if_pos c_5] at hT
          exact J_114 () hT _ _ hP hD hS _ (lv_sub hl [1] rfl)
        · rw [if_neg c_5] at hT
          refine lv_iload hx hb dX9_reasonFor_107 (lv_at hl 0 rfl) ?_
          refine lv_bipush (v := 117) hx hb dX9_reasonFor_109 (by decide) ?_
          refine lv_icmp_ne (tgt := 121) hx hb dX9_reasonFor_111 (by decide) (fun c_6 => ?_) (fun c_6 => ?_)
          · rw [if_neg c_6] at hT
            refine lv_iconst (v := (-1)) hx hb dX9_reasonFor_121 (by decide) ?_
            exact END (-1) x14_f_2 x8_5_2 x9_0_2 x9_1_2 x9_2_2 x9_3_2 hT _ _ hP hD hS _ _ dX9_reasonFor_122
          · rw [if_pos c_6] at hT
            exact J_114 () hT _ _ hP hD hS _ (lv_sub hl [1] rfl)
      refine lv_icmp_ge (tgt := 81) hx hb dX9_reasonFor_10 (by decide) (fun c_7 => ?_) (fun c_7 => ?_)
      · rw [if_pos c_7] at hT
        exact J_81 () hT _ _ hP hD hS _ (lv_sub hl [0, 2] rfl)
      · rw [if_neg c_7] at hT
        refine lv_iload_n hx hb dX9_reasonFor_13 rfl (lv_at hl 3 rfl) ?_
        refine lv_sipush (v := 300) hx hb dX9_reasonFor_14 (by decide) ?_
        refine lv_icmp_ge (tgt := 81) hx hb dX9_reasonFor_17 (by decide) (fun c_8 => ?_) (fun c_8 => ?_)
        · rw [if_pos c_8] at hT
          exact J_81 () hT _ _ hP hD hS _ (lv_sub hl [0, 2] rfl)
        · rw [if_neg c_8] at hT
          refine lv_aload_n hx hb dX9_reasonFor_20 rfl (lv_at hl 0 rfl) ?_
          refine va_get (D := D) (ci := 11) (v := .ref (X 8)) (C := RX9) (T := TX9) (N := 17) hx hb hts iv_k_X9_reasonFor_X9 hown hK hP 12 rfl rfl 1 (by decide) (hts (.fieldLink RX9 38 "AnswerFold$Solver" "grounding" "LAnswerFold$Grounding;") (by decide +kernel)) (fun _ h9 => h9) rfl dX9_reasonFor_21 ?_
          refine lv_iload_n hx hb dX9_reasonFor_24 rfl (lv_at hl 3 rfl) ?_
          obtain ⟨t_25, ht_25⟩ : ∃ t, t = m_k_X3_bindKept rn rf x9_0_2 x9_1_2 x9_2_2 x9_3_2 kr kv v3_2 := ⟨_, rfl⟩
          rw [lE_eq ht_25] at hT
          refine wq_rPW (wc := (wW_k_X3_bindKept ty X pn rn tn en rf x8_5_2 kn on cu pu gw x9_0_2 x9_1_2 x9_2_2 x9_3_2 kr kv)) (pl := pw ty pp) (ux := (wW_k_X3_bindKept ty X pn rn tn en rf x8_5_2 kn on cu pu gw t_25.2.1 t_25.2.2.1 t_25.2.2.2.1 t_25.2.2.2.2 kr kv)) (va_runV (As := [.int v3_2]) (rest := []) ⟨hx, hb, hml, hown, hts⟩ (k_X3_bindKept l D ty td mi H.size pp X pn rn tn en rf x8_5_2 kn on cu pu gw x9_0_2 x9_1_2 x9_2_2 x9_3_2 kr kv v3_2 hok hru t_25 ht_25) (cwV 1 hts gv_k_X9_reasonFor_2 rfl rfl rfl (by decide +kernel) ⟨(Nat.le_of_ble_eq_true rfl), (Nat.le_of_ble_eq_true rfl)⟩) (wm_V (wm_preSP hP hD hK hE hS hA [true, true, false, false, true, true, false, false, false, true, true] rfl) (va_recv (q0 := 4) (ci := 5) hK hP rfl rfl)) rfl rfl hl.1 rfl (lv_room (Nat.le_of_ble_eq_true rfl)) dX9_reasonFor_25 ⟨(Nat.le_of_ble_eq_true rfl), (Nat.le_of_ble_eq_true rfl)⟩) hS hA hP hD [true, true, false, false, true, true, false, false, false, true, true] rfl rfl (fun _ _ h => h.2) (fun r H locs hw hP hD hS => ?_)
          obtain ⟨rfl, -⟩ := hw
          have hP : va_P D vwCl ((wW_k_X9_reasonFor ty X pn rn tn en rf ea es x8_5_2 kn on cu pu gw t_25.2.1 t_25.2.2.1 t_25.2.2.2.1 t_25.2.2.2.2 su x14_f_2 kr kv ob an ch cg fb mh ml ih lb ic obi sc) ++ pw ty pp) H := hP
          have hD : va_D A ((wW_k_X9_reasonFor ty X pn rn tn en rf ea es x8_5_2 kn on cu pu gw t_25.2.1 t_25.2.2.1 t_25.2.2.2.1 t_25.2.2.2.2 su x14_f_2 kr kv ob an ch cg fb mh ml ih lb ic obi sc) ++ pw ty pp) := hD
          refine W.widen (k := 0) (n := 0) (Nat.le_of_ble_eq_true rfl) (Nat.le_of_ble_eq_true rfl) ?_
          rcases ho_25 : t_25.1 with _ | o_25
          · rw [ho_25, oE_none] at hT
            refine W.eq (g2 := F0 m 28 ls [.null]) rfl ?_
            refine lv_astoreN (lv' := [(4, .null), (0, .ref (X 20)), (1, .int a1), (2, .int a2), (3, .int v3_2)]) hx hb dX9_reasonFor_28 hl (by decide) rfl (fun ls hl => ?_)
            refine lv_aloadN hx hb dX9_reasonFor_30 (lv_at hl 0 rfl) ?_
            have J_75 : ∀ (x14_f_75 : Nat → Int32) (x8_5_75 : Int32) (x9_2_75 : Int32), TT = m_k_X9_reasonFor_75 (m_k_X9_reasonFor_2 pp rn en rf ea es kn on su kr kv ob obi sc a1 a2 n_2) t_25 v3_2 x14_f_75 x8_5_75 x9_2_75 → ∀ (H : Heap) (locs : List Loc), va_P D vwCl ((wW_k_X9_reasonFor ty X pn rn tn en rf ea es x8_5_75 kn on cu pu gw t_25.2.1 t_25.2.2.1 x9_2_75 t_25.2.2.2.2 su x14_f_75 kr kv ob an ch cg fb mh ml ih lb ic obi sc) ++ pw ty pp) H → va_D A ((wW_k_X9_reasonFor ty X pn rn tn en rf ea es x8_5_75 kn on cu pu gw t_25.2.1 t_25.2.2.1 x9_2_75 t_25.2.2.2.2 su x14_f_75 kr kv ob an ch cg fb mh ml ih lb ic obi sc) ++ pw ty pp) → va_S A s.heap H locs → ∀ ls : Array Slot, lv_has ls 5 [(0, .ref (X 20)), (1, .int a1), (2, .int a2), (3, .int v3_2)] → W p l e (headSpec vs_k_X9_reasonFor { frames := 5, cells := 0, slots := 0, locals := 112 }).room s m ([.ref (X 20), .int a1, .int a2] : List Value).toArray below meth c H locs 0 0 (MQ below (va_Qi (fun (r : Int32) (u : va_W) => (r = TT.1 ∧ (u = ((wW_k_X9_reasonFor ty X pn rn tn en rf ea es TT.2.2.1 kn on cu pu gw TT.2.2.2.1 TT.2.2.2.2.1 TT.2.2.2.2.2.1 TT.2.2.2.2.2.2 su TT.2.1 kr kv ob an ch cg fb mh ml ih lb ic obi sc) ++ pw ty pp)))) (wq_B D A) A) ([.ref (X 20), .int a1, .int a2] : List Value).toArray s 0 0 A) (F0 m 75 ls []) := by
              intro x14_f_75 x8_5_75 x9_2_75 hT  H locs hP hD hS ls hl
              rw [m_k_X9_reasonFor_75] at hT
              refine lv_iinc (v := v3_2 + 1) (lv' := [(3, .int (v3_2 + 1)), (0, .ref (X 20)), (1, .int a1), (2, .int a2)]) hx hb dX9_reasonFor_75 hl (k := 3) rfl (by rfl) (by decide) rfl (fun ls hl => ?_)
              refine lv_goto (tgt := 2) hx hb dX9_reasonFor_78 (by decide) ?_
              exact ih_2 (v3_2 + 1) x14_f_75 x8_5_75 t_25.2.1 t_25.2.2.1 x9_2_75 t_25.2.2.2.2 (wi_up hu_2 (Int32.not_le.mp c_7)) hT (wi_inc hn_2 (Int32.not_le.mp c_7)) _ _ hP hD hS _ (lv_sub hl [1, 2, 3, 0] rfl)
            refine lv_ifnullN (tgt := 75) hx hb dX9_reasonFor_32 (by decide) ?_
            exact J_75 x14_f_2 x8_5_2 t_25.2.2.2.1 hT _ _ hP hD hS _ (lv_sub hl [1, 2, 3, 4] rfl)
          · rw [ho_25, oE_some] at hT
            refine W.eq (g2 := F0 m 28 ls [.ref o_25]) rfl ?_
            refine lv_astore (lv' := [(4, .ref o_25), (0, .ref (X 20)), (1, .int a1), (2, .int a2), (3, .int v3_2)]) hx hb dX9_reasonFor_28 hl (by decide) rfl (fun ls hl => ?_)
            refine lv_aload hx hb dX9_reasonFor_30 (lv_at hl 0 rfl) ?_
            have J_75 : ∀ (x14_f_75 : Nat → Int32) (x8_5_75 : Int32) (x9_2_75 : Int32), TT = m_k_X9_reasonFor_75 (m_k_X9_reasonFor_2 pp rn en rf ea es kn on su kr kv ob obi sc a1 a2 n_2) t_25 v3_2 x14_f_75 x8_5_75 x9_2_75 → ∀ (H : Heap) (locs : List Loc), va_P D vwCl ((wW_k_X9_reasonFor ty X pn rn tn en rf ea es x8_5_75 kn on cu pu gw t_25.2.1 t_25.2.2.1 x9_2_75 t_25.2.2.2.2 su x14_f_75 kr kv ob an ch cg fb mh ml ih lb ic obi sc) ++ pw ty pp) H → va_D A ((wW_k_X9_reasonFor ty X pn rn tn en rf ea es x8_5_75 kn on cu pu gw t_25.2.1 t_25.2.2.1 x9_2_75 t_25.2.2.2.2 su x14_f_75 kr kv ob an ch cg fb mh ml ih lb ic obi sc) ++ pw ty pp) → va_S A s.heap H locs → ∀ ls : Array Slot, lv_has ls 5 [(0, .ref (X 20)), (1, .int a1), (2, .int a2), (3, .int v3_2)] → W p l e (headSpec vs_k_X9_reasonFor { frames := 5, cells := 0, slots := 0, locals := 112 }).room s m ([.ref (X 20), .int a1, .int a2] : List Value).toArray below meth c H locs 0 0 (MQ below (va_Qi (fun (r : Int32) (u : va_W) => (r = TT.1 ∧ (u = ((wW_k_X9_reasonFor ty X pn rn tn en rf ea es TT.2.2.1 kn on cu pu gw TT.2.2.2.1 TT.2.2.2.2.1 TT.2.2.2.2.2.1 TT.2.2.2.2.2.2 su TT.2.1 kr kv ob an ch cg fb mh ml ih lb ic obi sc) ++ pw ty pp)))) (wq_B D A) A) ([.ref (X 20), .int a1, .int a2] : List Value).toArray s 0 0 A) (F0 m 75 ls []) := by
              intro x14_f_75 x8_5_75 x9_2_75 hT  H locs hP hD hS ls hl
              rw [m_k_X9_reasonFor_75] at hT
              refine lv_iinc (v := v3_2 + 1) (lv' := [(3, .int (v3_2 + 1)), (0, .ref (X 20)), (1, .int a1), (2, .int a2)]) hx hb dX9_reasonFor_75 hl (k := 3) rfl (by rfl) (by decide) rfl (fun ls hl => ?_)
              refine lv_goto (tgt := 2) hx hb dX9_reasonFor_78 (by decide) ?_
              exact ih_2 (v3_2 + 1) x14_f_75 x8_5_75 t_25.2.1 t_25.2.2.1 x9_2_75 t_25.2.2.2.2 (wi_up hu_2 (Int32.not_le.mp c_7)) hT (wi_inc hn_2 (Int32.not_le.mp c_7)) _ _ hP hD hS _ (lv_sub hl [1, 2, 3, 0] rfl)
            refine lv_ifnull hx hb dX9_reasonFor_32 ?_
            refine lv_aload hx hb dX9_reasonFor_35 (lv_at hl 0 rfl) ?_
            obtain ⟨k_11, hk_11⟩ := List.getElem?_of_mem (pw_rule (ty := ty) (p := pp) (L := [((X 1), .inr (8, [.ref (X 2), .int pn, .ref (X 3), .int rn, .ref (X 4), .ref (X 5), .int tn, .ref (X 6), .ref (X 7), .int en])), ((X 3), .inl (ty 4, 20, .inr (.inr (.inr (.inr rf))))), ((X 6), .inl (ty 0, 6, .inl ea)), ((X 7), .inl (ty 2, 6, .inl es)), ((X 8), .inr (5, [.ref (X 1), .ref (X 9), .ref (X 10), .ref (X 12), .ref (X 14), .int x8_5_2, .ref (X 15), .ref (X 16), .ref (X 17), .int kn, .ref (X 18), .ref (X 19), .int on, .int cu, .int pu, .int gw])), ((X 9), .inr (4, [.int t_25.2.1, .int t_25.2.2.1, .int t_25.2.2.2.1, .int t_25.2.2.2.2])), ((X 10), .inr (3, [.ref (X 11)])), ((X 11), .inl (ty 1, 6, .inr (.inl su))), ((X 14), .inl (ty 0, 16, .inl x14_f_2)), ((X 15), .inl (ty 0, 300, .inl kr)), ((X 16), .inl (ty 0, 300, .inl kv)), ((X 19), .inl (ty 0, 384, .inl ob)), ((X 20), .inr (11, [.ref (X 1), .ref (X 8), .ref (X 21), .ref (X 28), .ref (X 35), .int an, .ref (X 36), .ref (X 37), .ref (X 38), .int ch, .int cg, .int fb, .int mh, .int ml, .int ih, .int lb, .int ic])), ((X 36), .inl (ty 0, 6, .inl obi)), ((X 37), .inl (ty 0, 6, .inl sc))]) (mm_k_X3_bindKept pp rn rf x9_0_2 x9_1_2 x9_2_2 x9_3_2 kr kv v3_2 hok hru _ (by rw [← ht_25]; exact ho_25)))
            refine va_getN (D := D) (ci := 10) (v := .int (pI pp o_25 0)) (C := RX8) (T := TX8) (N := 11) hx hb hts iv_k_X9_reasonFor_X8 hown hK hP k_11 hk_11 rfl 0 (by decide) (hE.at (.fieldLinkNest "AnswerFold$Solver" 119 "AnswerFold$Rule" "kind" "C" "AnswerFold") (by decide +kernel)) (fun _ h9 => h9) rfl dX9_reasonFor_37 ?_
            refine lv_bipush (v := 119) hx hb dX9_reasonFor_40 (by decide) ?_
            refine lv_icmp_eq (tgt := 75) hx hb dX9_reasonFor_42 (by decide) (fun c_12 => ?_) (fun c_12 => ?_)
            · rw [if_pos c_12] at hT
              exact J_75 x14_f_2 x8_5_2 t_25.2.2.2.1 hT _ _ hP hD hS _ (lv_sub hl [1, 2, 3, 4] rfl)
            · rw [if_neg c_12] at hT
              refine lv_aload_n hx hb dX9_reasonFor_45 rfl (lv_at hl 1 rfl) ?_
              refine lv_aload hx hb dX9_reasonFor_46 (lv_at hl 0 rfl) ?_
              refine lv_iload_n hx hb dX9_reasonFor_48 rfl (lv_at hl 2 rfl) ?_
              obtain ⟨t_49, ht_49⟩ : ∃ t, t = m_k_X9_bodyHolds pp on t_25.2.1 t_25.2.2.1 t_25.2.2.2.1 t_25.2.2.2.2 su ob obi sc o_25 a1 := ⟨_, rfl⟩
              rw [lE_eq ht_49] at hT
              refine wq_iPW (wc := (wW_k_X9_bodyHolds ty X x8_5_2 kn on cu pu gw t_25.2.1 t_25.2.2.1 t_25.2.2.2.1 t_25.2.2.2.2 su ob an ch cg fb mh ml ih lb ic obi sc)) (pl := pw ty pp) (ux := (wW_k_X9_bodyHolds ty X x8_5_2 kn on cu pu gw t_25.2.1 t_25.2.2.1 t_25.2.2.2.1 t_25.2.2.2.2 su ob an ch cg fb mh ml ih lb ic obi sc)) (va_runV (As := [.ref o_25, .int a1]) (rest := []) ⟨hx, hb, hml, hown, hts⟩ (k_X9_bodyHolds l D ty td mi H.size pp X x8_5_2 kn on cu pu gw t_25.2.1 t_25.2.2.1 t_25.2.2.2.1 t_25.2.2.2.2 su ob an ch cg fb mh ml ih lb ic obi sc o_25 a1 hok (mm_k_X3_bindKept pp rn rf x9_0_2 x9_1_2 x9_2_2 x9_3_2 kr kv v3_2 hok hru _ (by rw [← ht_25]; exact ho_25)) t_49 ht_49) (cwV 2 hts gv_k_X9_reasonFor_3 rfl rfl rfl (by decide +kernel) ⟨(Nat.le_of_ble_eq_true rfl), (Nat.le_of_ble_eq_true rfl)⟩) (wm_V (wm_preSP hP hD hK hE hS hA [false, false, false, false, true, true, true, true, false, false, false, true, true, true, true] rfl) (va_recv (q0 := 12) (ci := 11) hK hP rfl rfl)) rfl rfl hl.1 rfl (lv_room (Nat.le_of_ble_eq_true rfl)) dX9_reasonFor_49 ⟨(Nat.le_of_ble_eq_true rfl), (Nat.le_of_ble_eq_true rfl)⟩) hS hA hP hD [false, false, false, false, true, true, true, true, false, false, false, true, true, true, true] rfl rfl (fun _ _ h => h.2.2) (fun r H locs hw hP hD hS => ?_)
              obtain ⟨hr0, c_15, -⟩ := hw
              subst r
              have hP : va_P D vwCl ((wW_k_X9_reasonFor ty X pn rn tn en rf ea es x8_5_2 kn on cu pu gw t_25.2.1 t_25.2.2.1 t_25.2.2.2.1 t_25.2.2.2.2 su x14_f_2 kr kv ob an ch cg fb mh ml ih lb ic obi sc) ++ pw ty pp) H := hP
              have hD : va_D A ((wW_k_X9_reasonFor ty X pn rn tn en rf ea es x8_5_2 kn on cu pu gw t_25.2.1 t_25.2.2.1 t_25.2.2.2.1 t_25.2.2.2.2 su x14_f_2 kr kv ob an ch cg fb mh ml ih lb ic obi sc) ++ pw ty pp) := hD
              refine W.widen (k := 0) (n := 0) (Nat.le_of_ble_eq_true rfl) (Nat.le_of_ble_eq_true rfl) ?_
              refine lv_if_eq (tgt := 75) hx hb dX9_reasonFor_52 (by decide) (fun c_16 => ?_) (fun c_16 => ?_)
              · rw [if_pos c_16] at hT
                exact J_75 x14_f_2 x8_5_2 t_25.2.2.2.1 hT _ _ hP hD hS _ (lv_sub hl [1, 2, 3, 4] rfl)
              · rw [if_neg c_16] at hT
                refine lv_aload_n hx hb dX9_reasonFor_55 rfl (lv_at hl 1 rfl) ?_
                refine lv_aload hx hb dX9_reasonFor_56 (lv_at hl 0 rfl) ?_
                refine lv_iload_n hx hb dX9_reasonFor_58 rfl (lv_at hl 2 rfl) ?_
                refine lv_iload_n hx hb dX9_reasonFor_59 rfl (lv_at hl 3 rfl) ?_
                obtain ⟨t_60, ht_60⟩ : ∃ t, t = m_k_X9_gives pp on t_25.2.1 t_25.2.2.1 t_25.2.2.2.1 t_25.2.2.2.2 su x14_f_2 ob o_25 a1 a2 := ⟨_, rfl⟩
                rw [lE_eq ht_60] at hT
                refine wq_iPW (wc := (wW_k_X9_gives ty X x8_5_2 kn on cu pu gw t_25.2.1 t_25.2.2.1 t_25.2.2.2.1 t_25.2.2.2.2 su x14_f_2 ob an ch cg fb mh ml ih lb ic)) (pl := pw ty pp) (ux := (wW_k_X9_gives ty X t_60.2.2.1 kn on cu pu gw t_25.2.1 t_25.2.2.1 t_60.2.2.2 t_25.2.2.2.2 su t_60.2.1 ob an ch cg fb mh ml ih lb ic)) (va_runV (As := [.ref o_25, .int a1, .int a2]) (rest := []) ⟨hx, hb, hml, hown, hts⟩ (k_X9_gives l D ty td mi H.size pp X x8_5_2 kn on cu pu gw t_25.2.1 t_25.2.2.1 t_25.2.2.2.1 t_25.2.2.2.2 su x14_f_2 ob an ch cg fb mh ml ih lb ic o_25 a1 a2 hok (mm_k_X3_bindKept pp rn rf x9_0_2 x9_1_2 x9_2_2 x9_3_2 kr kv v3_2 hok hru _ (by rw [← ht_25]; exact ho_25)) t_60 ht_60) (cwV 3 hts gv_k_X9_reasonFor_4 rfl rfl rfl (by decide +kernel) ⟨(Nat.le_of_ble_eq_true rfl), (Nat.le_of_ble_eq_true rfl)⟩) (wm_V (wm_preSP hP hD hK hE hS hA [false, false, false, false, true, true, true, true, true, false, false, true, true] rfl) (va_recv (q0 := 12) (ci := 11) hK hP rfl rfl)) rfl rfl hl.1 rfl (lv_room (Nat.le_of_ble_eq_true rfl)) dX9_reasonFor_60 ⟨(Nat.le_of_ble_eq_true rfl), (Nat.le_of_ble_eq_true rfl)⟩) hS hA hP hD [false, false, false, false, true, true, true, true, true, false, false, true, true] rfl rfl (fun _ _ h => h.2.2) (fun r H locs hw hP hD hS => ?_)
                obtain ⟨rfl, c_19, -⟩ := hw
                have hP : va_P D vwCl ((wW_k_X9_reasonFor ty X pn rn tn en rf ea es t_60.2.2.1 kn on cu pu gw t_25.2.1 t_25.2.2.1 t_60.2.2.2 t_25.2.2.2.2 su t_60.2.1 kr kv ob an ch cg fb mh ml ih lb ic obi sc) ++ pw ty pp) H := hP
                have hD : va_D A ((wW_k_X9_reasonFor ty X pn rn tn en rf ea es t_60.2.2.1 kn on cu pu gw t_25.2.1 t_25.2.2.1 t_60.2.2.2 t_25.2.2.2.2 su t_60.2.1 kr kv ob an ch cg fb mh ml ih lb ic obi sc) ++ pw ty pp) := hD
                refine W.widen (k := 0) (n := 0) (Nat.le_of_ble_eq_true rfl) (Nat.le_of_ble_eq_true rfl) ?_
                refine lv_if_eq (tgt := 75) hx hb dX9_reasonFor_63 (by decide) (fun c_20 => ?_) (fun c_20 => ?_)
                · rw [if_pos c_20] at hT
                  exact J_75 t_60.2.1 t_60.2.2.1 t_60.2.2.2 hT _ _ hP hD hS _ (lv_sub hl [1, 2, 3, 4] rfl)
                · rw [if_neg c_20] at hT
                  refine lv_aload_n hx hb dX9_reasonFor_66 rfl (lv_at hl 1 rfl) ?_
                  refine va_get (D := D) (ci := 11) (v := .ref (X 8)) (C := RX9) (T := TX9) (N := 17) hx hb hts iv_k_X9_reasonFor_X9 hown hK hP 12 rfl rfl 1 (by decide) (hts (.fieldLink RX9 38 "AnswerFold$Solver" "grounding" "LAnswerFold$Grounding;") (by decide +kernel)) (fun _ h9 => h9) rfl dX9_reasonFor_67 ?_
                  refine lv_iload_n hx hb dX9_reasonFor_70 rfl (lv_at hl 4 rfl) ?_
                  obtain ⟨t_71, ht_71⟩ : ∃ t, t = m_k_X3_keptRuleAt kr v3_2 := ⟨_, rfl⟩
                  rw [lE_eq ht_71] at hT
                  refine wq_iQW (wc := (wW_k_X3_keptRuleAt ty X t_60.2.2.1 kn on cu pu gw kr)) (pl := pw ty pp) (va_runV (As := [.int v3_2]) (rest := []) ⟨hx, hb, hml, hown, hts⟩ (k_X3_keptRuleAt l D ty td mi H.size X t_60.2.2.1 kn on cu pu gw kr v3_2 t_71 ht_71) (cwV 1 hts gv_k_X9_reasonFor_5 rfl rfl rfl (by decide +kernel) ⟨(Nat.le_of_ble_eq_true rfl), (Nat.le_of_ble_eq_true rfl)⟩) (wm_V (wm_preS (vP_left hP) (vD_left hD) hK hE hS hA [false, false, false, false, true, false, false, false, false, true] rfl) (va_recv (q0 := 4) (ci := 5) hK hP rfl rfl)) rfl rfl hl.1 rfl (lv_room (Nat.le_of_ble_eq_true rfl)) dX9_reasonFor_71 ⟨(Nat.le_of_ble_eq_true rfl), (Nat.le_of_ble_eq_true rfl)⟩) hS hA hP hD [false, false, false, false, true, false, false, false, false, true] rfl (fun _ _ h => by rcases h with ⟨-, rfl⟩; rfl) (fun r u H locs hw hP hD hS => ?_)
                  obtain ⟨hr0, rfl⟩ := hw
                  subst r
                  have hP : va_P D vwCl ((wW_k_X9_reasonFor ty X pn rn tn en rf ea es t_60.2.2.1 kn on cu pu gw t_25.2.1 t_25.2.2.1 t_60.2.2.2 t_25.2.2.2.2 su t_60.2.1 kr kv ob an ch cg fb mh ml ih lb ic obi sc) ++ pw ty pp) H := hP
                  have hD : va_D A ((wW_k_X9_reasonFor ty X pn rn tn en rf ea es t_60.2.2.1 kn on cu pu gw t_25.2.1 t_25.2.2.1 t_60.2.2.2 t_25.2.2.2.2 su t_60.2.1 kr kv ob an ch cg fb mh ml ih lb ic obi sc) ++ pw ty pp) := hD
                  refine W.widen (k := 0) (n := 0) (Nat.le_of_ble_eq_true rfl) (Nat.le_of_ble_eq_true rfl) ?_
                  exact END t_71 t_60.2.1 t_60.2.2.1 t_25.2.1 t_25.2.2.1 t_60.2.2.2 t_25.2.2.2.2 hT _ _ hP hD hS _ _ dX9_reasonFor_74
  exact L_2 wF 0 hds hn b_1 b_2 b_3 b_p (wF_up 0) hT (by decide) _ _ hP hD hS _ (lv_sub hl [1, 2, 3, 0] rfl)

