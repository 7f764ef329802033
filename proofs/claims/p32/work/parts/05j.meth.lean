theorem dX9_noteRules_0 : decode cX9_noteRules 0 = .ok (.aload_n 0, 1) := by decide +kernel
theorem dX9_noteRules_1 : decode cX9_noteRules 1 = .ok (.iconst 0, 1) := by decide +kernel
theorem dX9_noteRules_2 : decode cX9_noteRules 2 = .ok (.putfield 106, 3) := by decide +kernel
theorem dX9_noteRules_5 : decode cX9_noteRules 5 = .ok (.aload_n 0, 1) := by decide +kernel
theorem dX9_noteRules_6 : decode cX9_noteRules 6 = .ok (.iconst 0, 1) := by decide +kernel
theorem dX9_noteRules_7 : decode cX9_noteRules 7 = .ok (.putfield 109, 3) := by decide +kernel
theorem dX9_noteRules_10 : decode cX9_noteRules 10 = .ok (.iconst 0, 1) := by decide +kernel
theorem dX9_noteRules_11 : decode cX9_noteRules 11 = .ok (.istore_n 1, 1) := by decide +kernel
theorem dX9_noteRules_12 : decode cX9_noteRules 12 = .ok (.iload_n 1, 1) := by decide +kernel
theorem dX9_noteRules_13 : decode cX9_noteRules 13 = .ok (.aload_n 0, 1) := by decide +kernel
theorem dX9_noteRules_14 : decode cX9_noteRules 14 = .ok (.getfield 34, 3) := by decide +kernel
theorem dX9_noteRules_17 : decode cX9_noteRules 17 = .ok (.getfield 112, 3) := by decide +kernel
theorem dX9_noteRules_20 : decode cX9_noteRules 20 = .ok (.if_icmp .ge 65, 3) := by decide +kernel
theorem dX9_noteRules_23 : decode cX9_noteRules 23 = .ok (.aload_n 0, 1) := by decide +kernel
theorem dX9_noteRules_24 : decode cX9_noteRules 24 = .ok (.getfield 34, 3) := by decide +kernel
theorem dX9_noteRules_27 : decode cX9_noteRules 27 = .ok (.iload_n 1, 1) := by decide +kernel
theorem dX9_noteRules_28 : decode cX9_noteRules 28 = .ok (.invokevirtual 115, 3) := by decide +kernel
theorem dX9_noteRules_31 : decode cX9_noteRules 31 = .ok (.astore_n 2, 1) := by decide +kernel
theorem dX9_noteRules_32 : decode cX9_noteRules 32 = .ok (.aload_n 2, 1) := by decide +kernel
theorem dX9_noteRules_33 : decode cX9_noteRules 33 = .ok (.ifnonnull 6, 3) := by decide +kernel
theorem dX9_noteRules_36 : decode cX9_noteRules 36 = .ok (.goto 43, 3) := by decide +kernel
theorem dX9_noteRules_39 : decode cX9_noteRules 39 = .ok (.aload_n 2, 1) := by decide +kernel
theorem dX9_noteRules_40 : decode cX9_noteRules 40 = .ok (.getfield 119, 3) := by decide +kernel
theorem dX9_noteRules_43 : decode cX9_noteRules 43 = .ok (.bipush 99, 2) := by decide +kernel
theorem dX9_noteRules_45 : decode cX9_noteRules 45 = .ok (.if_icmp .ne 15, 3) := by decide +kernel
theorem dX9_noteRules_48 : decode cX9_noteRules 48 = .ok (.aload_n 0, 1) := by decide +kernel
theorem dX9_noteRules_49 : decode cX9_noteRules 49 = .ok (.dup, 1) := by decide +kernel
theorem dX9_noteRules_50 : decode cX9_noteRules 50 = .ok (.getfield 106, 3) := by decide +kernel
theorem dX9_noteRules_53 : decode cX9_noteRules 53 = .ok (.iconst 1, 1) := by decide +kernel
theorem dX9_noteRules_54 : decode cX9_noteRules 54 = .ok (.iload_n 1, 1) := by decide +kernel
theorem dX9_noteRules_55 : decode cX9_noteRules 55 = .ok (.ishl, 1) := by decide +kernel
theorem dX9_noteRules_56 : decode cX9_noteRules 56 = .ok (.ior, 1) := by decide +kernel
theorem dX9_noteRules_57 : decode cX9_noteRules 57 = .ok (.putfield 106, 3) := by decide +kernel
theorem dX9_noteRules_60 : decode cX9_noteRules 60 = .ok (.aload_n 2, 1) := by decide +kernel
theorem dX9_noteRules_61 : decode cX9_noteRules 61 = .ok (.invokevirtual 125, 3) := by decide +kernel
theorem dX9_noteRules_64 : decode cX9_noteRules 64 = .ok (.ifCond .eq 15, 3) := by decide +kernel
theorem dX9_noteRules_67 : decode cX9_noteRules 67 = .ok (.aload_n 0, 1) := by decide +kernel
theorem dX9_noteRules_68 : decode cX9_noteRules 68 = .ok (.dup, 1) := by decide +kernel
theorem dX9_noteRules_69 : decode cX9_noteRules 69 = .ok (.getfield 109, 3) := by decide +kernel
theorem dX9_noteRules_72 : decode cX9_noteRules 72 = .ok (.iconst 1, 1) := by decide +kernel
theorem dX9_noteRules_73 : decode cX9_noteRules 73 = .ok (.iload_n 1, 1) := by decide +kernel
theorem dX9_noteRules_74 : decode cX9_noteRules 74 = .ok (.ishl, 1) := by decide +kernel
theorem dX9_noteRules_75 : decode cX9_noteRules 75 = .ok (.ior, 1) := by decide +kernel
theorem dX9_noteRules_76 : decode cX9_noteRules 76 = .ok (.putfield 109, 3) := by decide +kernel
theorem dX9_noteRules_79 : decode cX9_noteRules 79 = .ok (.iinc 1 1, 3) := by decide +kernel
theorem dX9_noteRules_82 : decode cX9_noteRules 82 = .ok (.goto (-70), 3) := by decide +kernel
theorem dX9_noteRules_85 : decode cX9_noteRules 85 = .ok (.return_, 1) := by decide +kernel
def wW_k_X9_noteRules (ty : Nat → ClassId) (X : Nat → Nat) (z9_0 : Int32) (z9_1 : Int32) (z9_2 : Int32) (z9_3 : Int32) (z9_4 : Nat → Option Nat) (z9_5 : Int32) (z9_6 : Int32) (z9_7 : Int32) (z9_8 : Int32) (z9_9 : Int32) (z9_10 : Int32) (z9_11 : Int32) (z9_12 : Int32) (z9_13 : Int32) : va_W := [((X 1), .inr (8, [.ref (X 2), .int z9_0, .ref (X 3), .int z9_1, .ref (X 4), .ref (X 5), .int z9_2, .ref (X 6), .ref (X 7), .int z9_3])), ((X 3), .inl (ty 4, 20, .inr (.inr (.inr (.inr z9_4))))), ((X 20), .inr (11, [.ref (X 1), .ref (X 8), .ref (X 21), .ref (X 28), .ref (X 35), .int z9_5, .ref (X 36), .ref (X 37), .ref (X 38), .int z9_6, .int z9_7, .int z9_8, .int z9_9, .int z9_10, .int z9_11, .int z9_12, .int z9_13]))]
def vs_k_X9_noteRules : List Cond := .code yX9_noteRules cX9_noteRules 3 none :: ([.fieldLink RX9 106 "AnswerFold$Solver" "choices" "I", .fieldLink RX9 109 "AnswerFold$Solver" "counting" "I", .fieldLink RX9 34 "AnswerFold$Solver" "program" "LAnswerFold$Program;", .methodLink RX9 115 yX6_ruleAt, .instanceMethod yX6_ruleAt, .selects RX6 yX6_ruleAt yX6_ruleAt, .initialized RX6, .methodLink RX9 125 yX8_hasCounts, .instanceMethod yX8_hasCounts, .selects RX8 yX8_hasCounts yX8_hasCounts, .initialized RX8] ++ (u_ws RX9 TX9 17 ++ (u_ws RX6 TX6 10 ++ (vs_k_X6_ruleAt ++ (u_ws RX8 TX8 11 ++ (vs_k_X8_hasCounts))))))
theorem iv_k_X9_noteRules_X6 : ∀ w ∈ u_ws RX6 TX6 10, w ∈ vs_k_X9_noteRules := (fun _ h => List.mem_cons_of_mem _ (List.mem_append_right _ (List.mem_append_right _ (List.mem_append_left _ h))))
theorem iv_k_X9_noteRules_X8 : ∀ w ∈ u_ws RX8 TX8 11, w ∈ vs_k_X9_noteRules := (fun _ h => List.mem_cons_of_mem _ (List.mem_append_right _ (List.mem_append_right _ (List.mem_append_right _ (List.mem_append_right _ (List.mem_append_left _ h))))))
theorem iv_k_X9_noteRules_X9 : ∀ w ∈ u_ws RX9 TX9 17, w ∈ vs_k_X9_noteRules := (fun _ h => List.mem_cons_of_mem _ (List.mem_append_right _ (List.mem_append_left _ h)))
set_option maxRecDepth 20000 in
theorem gv_k_X9_noteRules_0 : GoodIn vs_k_X9_noteRules (wsV RX9 115 RX6 yX6_ruleAt vs_k_X6_ruleAt) := goodIn_app (goodIn_sub (by decide +kernel) (by decide +kernel)) (goodIn_sub (fun _ h => List.mem_cons_of_mem _ (List.mem_append_right _ (List.mem_append_right _ (List.mem_append_right _ (List.mem_append_left _ h))))) (by decide +kernel))
set_option maxRecDepth 20000 in
theorem gv_k_X9_noteRules_1 : GoodIn vs_k_X9_noteRules (wsV RX9 125 RX8 yX8_hasCounts vs_k_X8_hasCounts) := goodIn_app (goodIn_sub (by decide +kernel) (by decide +kernel)) (goodIn_sub (fun _ h => List.mem_cons_of_mem _ (List.mem_append_right _ (List.mem_append_right _ (List.mem_append_right _ (List.mem_append_right _ (List.mem_append_right _ (h))))))) (by decide +kernel))
set_option maxHeartbeats 4000000 in
set_option maxRecDepth 100000 in
theorem k_X9_noteRules (l : Launch) (D : va_G) (ty : Nat → ClassId) (td mi sz : Nat) (pp : pT) (X : Nat → Nat) (pn : Int32) (rn : Int32) (tn : Int32) (en : Int32) (rf : Nat → Option Nat) (an : Int32) (ch : Int32) (cg : Int32) (fb : Int32) (mh : Int32) (ml : Int32) (ih : Int32) (lb : Int32) (ic : Int32) (hok : pOK pp) (hru : ∀ (i a : Nat), rf i = some a → a ∈ pRA pp) (TT : r_k_X9_noteRules) (hTT : TT = m_k_X9_noteRules pp rn rf) : Met l yX9_noteRules vs_k_X9_noteRules { frames := 2, cells := 0, slots := 0, locals := 43 } (va_Pc [.ref (X 20)] (wq_P D ty td mi ((wW_k_X9_noteRules ty X pn rn tn en rf an ch cg fb mh ml ih lb ic) ++ pw ty pp) sz)) (va_Qv (fun u : va_W => ((u = ((wW_k_X9_noteRules ty X pn rn tn en rf an TT.2 TT.1 fb mh ml ih lb ic) ++ pw ty pp)))) (wq_B D (va_A ((wW_k_X9_noteRules ty X pn rn tn en rf an ch cg fb mh ml ih lb ic) ++ pw ty pp) sz)) (va_A ((wW_k_X9_noteRules ty X pn rn tn en rf an ch cg fb mh ml ih lb ic) ++ pw ty pp) sz)) 0 0 (va_A ((wW_k_X9_noteRules ty X pn rn tn en rf an ch cg fb mh ml ih lb ic) ++ pw ty pp) sz) := by
  refine Met.ofW (cc := cX9_noteRules) (maxL := 3) (ret := none) (by decide) rfl ?_
  intro p e s m args below meth c s₁ B hml hv
  obtain ⟨rfl, hsz, hP, hK, hD0, hE⟩ := hv
  have hx := B.exec
  have hb := B.bytes
  have hr := B.returns
  have hts := atoms_spec (ws := vs_k_X9_noteRules) B.pre
  have hown : s.vm.findClass RX9 = some m.cls := findClass_of_methodNamed B.named
  have hlocks := B.notSynchronized
  subst hsz
  have hD := hD0.self (sz := s.heap.size)
  generalize hAe : va_A ((wW_k_X9_noteRules ty X pn rn tn en rf an ch cg fb mh ml ih lb ic) ++ pw ty pp) s.heap.size = A at hD hE ⊢
  have hA : ∀ q : Nat, s.heap.size ≤ q → A q := fun q h => by rw [← hAe]; exact Or.inr h
  have hS : va_S A s.heap s.heap [] := va_S.rf
  have hP : va_P D vwCl ((wW_k_X9_noteRules ty X pn rn tn en rf an ch cg fb mh ml ih lb ic) ++ pw ty pp) s.heap := hP
  have hl := lv_entry ([.ref (X 20)]) (n := 3) (Nat.le_of_ble_eq_true rfl)
  rw [lg_entry_eq]
  generalize (lg_sl ([.ref (X 20)]) ++ List.replicate (3 - (lg_sl ([.ref (X 20)])).length) Slot.unset).toArray = ls at hl ⊢
  have hl : lv_has ls 3 [(0, .ref (X 20))] := hl
  have END : ∀ (w9_0 : Int32) (w9_1 : Int32), TT = (w9_0, w9_1) → ∀ (H : Heap) (locs : List Loc), va_P D vwCl ((wW_k_X9_noteRules ty X pn rn tn en rf an w9_1 w9_0 fb mh ml ih lb ic) ++ pw ty pp) H → va_D A ((wW_k_X9_noteRules ty X pn rn tn en rf an w9_1 w9_0 fb mh ml ih lb ic) ++ pw ty pp) → va_S A s.heap H locs → ∀ (ls : Array Slot) (pc : Nat), decode cX9_noteRules pc = .ok (.return_, 1) → W p l e (headSpec vs_k_X9_noteRules { frames := 2, cells := 0, slots := 0, locals := 43 }).room s m ([.ref (X 20)] : List Value).toArray below meth c H locs 0 0 (MQ below (va_Qv (fun u : va_W => ((u = ((wW_k_X9_noteRules ty X pn rn tn en rf an TT.2 TT.1 fb mh ml ih lb ic) ++ pw ty pp)))) (wq_B D A) A) ([.ref (X 20)] : List Value).toArray s 0 0 A) (F0 m pc ls []) := by
    intro w9_0 w9_1 hT H locs hP hD hS ls pc hd
    have hM : TT = (w9_0, w9_1) := hT
    exact W.vret hx hb hr (fun t ht hW => ⟨⟨((wW_k_X9_noteRules ty X pn rn tn en rf an w9_1 w9_0 fb mh ml ih lb ic) ++ pw ty pp), rfl, (by rw [hM]), wq_B.of ht hP hD⟩, hS.F ht⟩) hS.2.2 hd
  have hT := hTT
  rw [m_k_X9_noteRules] at hT
  refine lv_aload_n hx hb dX9_noteRules_0 rfl (lv_at hl 0 rfl) ?_
  refine lv_iconst (v := 0) hx hb dX9_noteRules_1 (by decide) ?_
  refine va_put (D := D) (ci := 11) (v := .int 0) (ty := tyX9 9) (C := RX9) (T := TX9) (N := 17) hx hb hts iv_k_X9_noteRules_X9 tyX9 tyX9_ok nmX9 hown hK hP hD hS 2 rfl rfl 9 (by decide) (hts (.fieldLink RX9 106 "AnswerFold$Solver" "choices" "I") (by decide +kernel)) (fun _ h9 => h9) rfl (by decide +kernel) rfl rfl (Nat.le_of_ble_eq_true rfl) dX9_noteRules_2 (fun H locs hP hD hS => ?_)
  have hP : va_P D vwCl ((wW_k_X9_noteRules ty X pn rn tn en rf an (0) cg fb mh ml ih lb ic) ++ pw ty pp) H := hP
  have hD : va_D A ((wW_k_X9_noteRules ty X pn rn tn en rf an (0) cg fb mh ml ih lb ic) ++ pw ty pp) := hD
  refine lv_aload_n hx hb dX9_noteRules_5 rfl (lv_at hl 0 rfl) ?_
  refine lv_iconst (v := 0) hx hb dX9_noteRules_6 (by decide) ?_
  refine va_put (D := D) (ci := 11) (v := .int 0) (ty := tyX9 10) (C := RX9) (T := TX9) (N := 17) hx hb hts iv_k_X9_noteRules_X9 tyX9 tyX9_ok nmX9 hown hK hP hD hS 2 rfl rfl 10 (by decide) (hts (.fieldLink RX9 109 "AnswerFold$Solver" "counting" "I") (by decide +kernel)) (fun _ h9 => h9) rfl (by decide +kernel) rfl rfl (Nat.le_of_ble_eq_true rfl) dX9_noteRules_7 (fun H locs hP hD hS => ?_)
  have hP : va_P D vwCl ((wW_k_X9_noteRules ty X pn rn tn en rf an (0) (0) fb mh ml ih lb ic) ++ pw ty pp) H := hP
  have hD : va_D A ((wW_k_X9_noteRules ty X pn rn tn en rf an (0) (0) fb mh ml ih lb ic) ++ pw ty pp) := hD
  refine lv_iconst (v := 0) hx hb dX9_noteRules_10 (by decide) ?_
  refine lv_istore_n (lv' := [(1, .int 0), (0, .ref (X 20))]) hx hb dX9_noteRules_11 rfl hl (by decide) rfl (fun ls hl => ?_)
  have L_12 : ∀ (n_12 : Nat) (v1_12 : Int32) (x20_10_12 : Int32) (x20_9_12 : Int32), (2147483648 - v1_12.toInt).toNat < n_12 → TT = m_k_X9_noteRules_12 pp rn rf n_12 v1_12 x20_10_12 x20_9_12 → 0 ≤ v1_12.toInt → ∀ (H : Heap) (locs : List Loc), va_P D vwCl ((wW_k_X9_noteRules ty X pn rn tn en rf an x20_9_12 x20_10_12 fb mh ml ih lb ic) ++ pw ty pp) H → va_D A ((wW_k_X9_noteRules ty X pn rn tn en rf an x20_9_12 x20_10_12 fb mh ml ih lb ic) ++ pw ty pp) → va_S A s.heap H locs → ∀ ls : Array Slot, lv_has ls 3 [(0, .ref (X 20)), (1, .int v1_12)] → W p l e (headSpec vs_k_X9_noteRules { frames := 2, cells := 0, slots := 0, locals := 43 }).room s m ([.ref (X 20)] : List Value).toArray below meth c H locs 0 0 (MQ below (va_Qv (fun u : va_W => ((u = ((wW_k_X9_noteRules ty X pn rn tn en rf an TT.2 TT.1 fb mh ml ih lb ic) ++ pw ty pp)))) (wq_B D A) A) ([.ref (X 20)] : List Value).toArray s 0 0 A) (F0 m 12 ls []) := by
    intro n_12
    induction n_12 with
    | zero => intro v1_12 x20_10_12 x20_9_12 hu; exact absurd hu (Nat.not_lt_zero _)
    | succ n_12 ih_12 =>
      intro v1_12 x20_10_12 x20_9_12 hu_12 hT hn_12 H locs hP hD hS ls hl
      rw [m_k_X9_noteRules_12_succ, m_k_X9_noteRules_12s] at hT
      refine lv_iload_n hx hb dX9_noteRules_12 rfl (lv_at hl 1 rfl) ?_
      refine lv_aload_n hx hb dX9_noteRules_13 rfl (lv_at hl 0 rfl) ?_
      refine va_get (D := D) (ci := 11) (v := .ref (X 1)) (C := RX9) (T := TX9) (N := 17) hx hb hts iv_k_X9_noteRules_X9 hown hK hP 2 rfl rfl 0 (by decide) (hts (.fieldLink RX9 34 "AnswerFold$Solver" "program" "LAnswerFold$Program;") (by decide +kernel)) (fun _ h9 => h9) rfl dX9_noteRules_14 ?_
      refine va_getN (D := D) (ci := 8) (v := .int rn) (C := RX6) (T := TX6) (N := 10) hx hb hts iv_k_X9_noteRules_X6 hown hK hP 0 rfl rfl 3 (by decide) (hE.at (.fieldLinkNest "AnswerFold$Solver" 112 "AnswerFold$Program" "ruleCount" "I" "AnswerFold") (by decide +kernel)) (fun _ h9 => h9) rfl dX9_noteRules_17 ?_
      refine lv_icmp_ge (tgt := 85) hx hb dX9_noteRules_20 (by decide) (fun c_1 => ?_) (fun c_1 => ?_)
      · rw [if_pos c_1] at hT
        exact END x20_10_12 x20_9_12 hT _ _ hP hD hS _ _ dX9_noteRules_85
      · rw [if_neg c_1] at hT
        refine lv_aload_n hx hb dX9_noteRules_23 rfl (lv_at hl 0 rfl) ?_
        refine va_get (D := D) (ci := 11) (v := .ref (X 1)) (C := RX9) (T := TX9) (N := 17) hx hb hts iv_k_X9_noteRules_X9 hown hK hP 2 rfl rfl 0 (by decide) (hts (.fieldLink RX9 34 "AnswerFold$Solver" "program" "LAnswerFold$Program;") (by decide +kernel)) (fun _ h9 => h9) rfl dX9_noteRules_24 ?_
        refine lv_iload_n hx hb dX9_noteRules_27 rfl (lv_at hl 1 rfl) ?_
        obtain ⟨t_28, ht_28⟩ : ∃ t, t = m_k_X6_ruleAt rn rf v1_12 := ⟨_, rfl⟩
        rw [lE_eq ht_28] at hT
        refine wq_rPW (wc := (wW_k_X6_ruleAt ty X pn rn tn en rf)) (pl := pw ty pp) (ux := (wW_k_X6_ruleAt ty X pn rn tn en rf)) (va_runV (As := [.int v1_12]) (rest := []) ⟨hx, hb, hml, hown, hts⟩ (k_X6_ruleAt l D ty td mi H.size pp X pn rn tn en rf v1_12 hok hru t_28 ht_28) (cwV 1 hts gv_k_X9_noteRules_0 rfl rfl rfl (by decide +kernel) ⟨(Nat.le_of_ble_eq_true rfl), (Nat.le_of_ble_eq_true rfl)⟩) (wm_V (wm_preSP hP hD hK hE hS hA [true, true] rfl) (va_recv (q0 := 0) (ci := 8) hK hP rfl rfl)) rfl rfl hl.1 rfl (lv_room (Nat.le_of_ble_eq_true rfl)) dX9_noteRules_28 ⟨(Nat.le_of_ble_eq_true rfl), (Nat.le_of_ble_eq_true rfl)⟩) hS hA hP hD [true, true] rfl rfl (fun _ _ h => h.2) (fun r H locs hw hP hD hS => ?_)
        obtain ⟨rfl, -⟩ := hw
        have hP : va_P D vwCl ((wW_k_X9_noteRules ty X pn rn tn en rf an x20_9_12 x20_10_12 fb mh ml ih lb ic) ++ pw ty pp) H := hP
        have hD : va_D A ((wW_k_X9_noteRules ty X pn rn tn en rf an x20_9_12 x20_10_12 fb mh ml ih lb ic) ++ pw ty pp) := hD
        refine W.widen (k := 0) (n := 0) (Nat.le_of_ble_eq_true rfl) (Nat.le_of_ble_eq_true rfl) ?_
        rcases ho_28 : t_28 with _ | o_28
        · rw [ho_28, oE_none] at hT
          refine W.eq (g2 := F0 m 31 ls [.null]) rfl ?_
          refine lv_astore_nN (lv' := [(2, .null), (0, .ref (X 20)), (1, .int v1_12)]) hx hb dX9_noteRules_31 rfl hl (by decide) rfl (fun ls hl => ?_)
          refine lv_aload_nN hx hb dX9_noteRules_32 rfl (lv_at hl 0 rfl) ?_
          have J_79 : ∀ (x20_10_79 : Int32) (x20_9_79 : Int32), TT = m_k_X9_noteRules_79 (m_k_X9_noteRules_12 pp rn rf n_12) v1_12 x20_10_79 x20_9_79 → ∀ (H : Heap) (locs : List Loc), va_P D vwCl ((wW_k_X9_noteRules ty X pn rn tn en rf an x20_9_79 x20_10_79 fb mh ml ih lb ic) ++ pw ty pp) H → va_D A ((wW_k_X9_noteRules ty X pn rn tn en rf an x20_9_79 x20_10_79 fb mh ml ih lb ic) ++ pw ty pp) → va_S A s.heap H locs → ∀ ls : Array Slot, lv_has ls 3 [(0, .ref (X 20)), (1, .int v1_12)] → W p l e (headSpec vs_k_X9_noteRules { frames := 2, cells := 0, slots := 0, locals := 43 }).room s m ([.ref (X 20)] : List Value).toArray below meth c H locs 0 0 (MQ below (va_Qv (fun u : va_W => ((u = ((wW_k_X9_noteRules ty X pn rn tn en rf an TT.2 TT.1 fb mh ml ih lb ic) ++ pw ty pp)))) (wq_B D A) A) ([.ref (X 20)] : List Value).toArray s 0 0 A) (F0 m 79 ls []) := by
            intro x20_10_79 x20_9_79 hT  H locs hP hD hS ls hl
            rw [m_k_X9_noteRules_79] at hT
            refine lv_iinc (v := v1_12 + 1) (lv' := [(1, .int (v1_12 + 1)), (0, .ref (X 20))]) hx hb dX9_noteRules_79 hl (k := 1) rfl (by rfl) (by decide) rfl (fun ls hl => ?_)
            refine lv_goto (tgt := 12) hx hb dX9_noteRules_82 (by decide) ?_
            exact ih_12 (v1_12 + 1) x20_10_79 x20_9_79 (wi_up hu_12 (Int32.not_le.mp c_1)) hT (wi_inc hn_12 (Int32.not_le.mp c_1)) _ _ hP hD hS _ (lv_sub hl [1, 0] rfl)
          refine lv_ifnonnullN hx hb dX9_noteRules_33 ?_
          refine lv_goto (tgt := 79) hx hb dX9_noteRules_36 (by decide) ?_
          exact J_79 x20_10_12 x20_9_12 hT _ _ hP hD hS _ (lv_sub hl [1, 2] rfl)
        · rw [ho_28, oE_some] at hT
          refine W.eq (g2 := F0 m 31 ls [.ref o_28]) rfl ?_
          refine lv_astore_n (lv' := [(2, .ref o_28), (0, .ref (X 20)), (1, .int v1_12)]) hx hb dX9_noteRules_31 rfl hl (by decide) rfl (fun ls hl => ?_)
          refine lv_aload_n hx hb dX9_noteRules_32 rfl (lv_at hl 0 rfl) ?_
          have J_79 : ∀ (x20_10_79 : Int32) (x20_9_79 : Int32), TT = m_k_X9_noteRules_79 (m_k_X9_noteRules_12 pp rn rf n_12) v1_12 x20_10_79 x20_9_79 → ∀ (H : Heap) (locs : List Loc), va_P D vwCl ((wW_k_X9_noteRules ty X pn rn tn en rf an x20_9_79 x20_10_79 fb mh ml ih lb ic) ++ pw ty pp) H → va_D A ((wW_k_X9_noteRules ty X pn rn tn en rf an x20_9_79 x20_10_79 fb mh ml ih lb ic) ++ pw ty pp) → va_S A s.heap H locs → ∀ ls : Array Slot, lv_has ls 3 [(0, .ref (X 20)), (1, .int v1_12)] → W p l e (headSpec vs_k_X9_noteRules { frames := 2, cells := 0, slots := 0, locals := 43 }).room s m ([.ref (X 20)] : List Value).toArray below meth c H locs 0 0 (MQ below (va_Qv (fun u : va_W => ((u = ((wW_k_X9_noteRules ty X pn rn tn en rf an TT.2 TT.1 fb mh ml ih lb ic) ++ pw ty pp)))) (wq_B D A) A) ([.ref (X 20)] : List Value).toArray s 0 0 A) (F0 m 79 ls []) := by
            intro x20_10_79 x20_9_79 hT  H locs hP hD hS ls hl
            rw [m_k_X9_noteRules_79] at hT
            refine lv_iinc (v := v1_12 + 1) (lv' := [(1, .int (v1_12 + 1)), (0, .ref (X 20))]) hx hb dX9_noteRules_79 hl (k := 1) rfl (by rfl) (by decide) rfl (fun ls hl => ?_)
            refine lv_goto (tgt := 12) hx hb dX9_noteRules_82 (by decide) ?_
            exact ih_12 (v1_12 + 1) x20_10_79 x20_9_79 (wi_up hu_12 (Int32.not_le.mp c_1)) hT (wi_inc hn_12 (Int32.not_le.mp c_1)) _ _ hP hD hS _ (lv_sub hl [1, 0] rfl)
          refine lv_ifnonnull (tgt := 39) hx hb dX9_noteRules_33 (by decide) ?_
          refine lv_aload_n hx hb dX9_noteRules_39 rfl (lv_at hl 0 rfl) ?_
          obtain ⟨k_4, hk_4⟩ := List.getElem?_of_mem (pw_rule (ty := ty) (p := pp) (L := [((X 1), .inr (8, [.ref (X 2), .int pn, .ref (X 3), .int rn, .ref (X 4), .ref (X 5), .int tn, .ref (X 6), .ref (X 7), .int en])), ((X 3), .inl (ty 4, 20, .inr (.inr (.inr (.inr rf))))), ((X 20), .inr (11, [.ref (X 1), .ref (X 8), .ref (X 21), .ref (X 28), .ref (X 35), .int an, .ref (X 36), .ref (X 37), .ref (X 38), .int x20_9_12, .int x20_10_12, .int fb, .int mh, .int ml, .int ih, .int lb, .int ic]))]) (mm_k_X6_ruleAt pp rn rf v1_12 hok hru _ (by rw [← ht_28]; exact ho_28)))
          refine va_getN (D := D) (ci := 10) (v := .int (pI pp o_28 0)) (C := RX8) (T := TX8) (N := 11) hx hb hts iv_k_X9_noteRules_X8 hown hK hP k_4 hk_4 rfl 0 (by decide) (hE.at (.fieldLinkNest "AnswerFold$Solver" 119 "AnswerFold$Rule" "kind" "C" "AnswerFold") (by decide +kernel)) (fun _ h9 => h9) rfl dX9_noteRules_40 ?_
          refine lv_bipush (v := 99) hx hb dX9_noteRules_43 (by decide) ?_
          have J_60 : ∀ (x20_9_60 : Int32), TT = m_k_X9_noteRules_60 pp o_28 (m_k_X9_noteRules_12 pp rn rf n_12) v1_12 x20_10_12 x20_9_60 → ∀ (H : Heap) (locs : List Loc), va_P D vwCl ((wW_k_X9_noteRules ty X pn rn tn en rf an x20_9_60 x20_10_12 fb mh ml ih lb ic) ++ pw ty pp) H → va_D A ((wW_k_X9_noteRules ty X pn rn tn en rf an x20_9_60 x20_10_12 fb mh ml ih lb ic) ++ pw ty pp) → va_S A s.heap H locs → ∀ ls : Array Slot, lv_has ls 3 [(0, .ref (X 20)), (1, .int v1_12), (2, .ref o_28)] → W p l e (headSpec vs_k_X9_noteRules { frames := 2, cells := 0, slots := 0, locals := 43 }).room s m ([.ref (X 20)] : List Value).toArray below meth c H locs 0 0 (MQ below (va_Qv (fun u : va_W => ((u = ((wW_k_X9_noteRules ty X pn rn tn en rf an TT.2 TT.1 fb mh ml ih lb ic) ++ pw ty pp)))) (wq_B D A) A) ([.ref (X 20)] : List Value).toArray s 0 0 A) (F0 m 60 ls []) := by
            intro x20_9_60 hT  H locs hP hD hS ls hl
            rw [m_k_X9_noteRules_60] at hT
            refine lv_aload_n hx hb dX9_noteRules_60 rfl (lv_at hl 2 rfl) ?_
            obtain ⟨t_61, ht_61⟩ : ∃ t, t = m_k_X8_hasCounts pp o_28 := ⟨_, rfl⟩
            rw [lE_eq ht_61] at hT
            obtain ⟨k_5, hk_5⟩ := List.getElem?_of_mem (pw_rule (ty := ty) (p := pp) (L := [((X 1), .inr (8, [.ref (X 2), .int pn, .ref (X 3), .int rn, .ref (X 4), .ref (X 5), .int tn, .ref (X 6), .ref (X 7), .int en])), ((X 3), .inl (ty 4, 20, .inr (.inr (.inr (.inr rf))))), ((X 20), .inr (11, [.ref (X 1), .ref (X 8), .ref (X 21), .ref (X 28), .ref (X 35), .int an, .ref (X 36), .ref (X 37), .ref (X 38), .int x20_9_60, .int x20_10_12, .int fb, .int mh, .int ml, .int ih, .int lb, .int ic]))]) (mm_k_X6_ruleAt pp rn rf v1_12 hok hru _ (by rw [← ht_28]; exact ho_28)))
            refine wq_iPW (wc := []) (pl := pw ty pp) (ux := []) (va_runV (As := []) (rest := []) ⟨hx, hb, hml, hown, hts⟩ (k_X8_hasCounts l D ty td mi H.size pp o_28 hok (mm_k_X6_ruleAt pp rn rf v1_12 hok hru _ (by rw [← ht_28]; exact ho_28)) t_61 ht_61) (cwV 0 hts gv_k_X9_noteRules_1 rfl rfl rfl (by decide +kernel) ⟨(Nat.le_of_ble_eq_true rfl), (Nat.le_of_ble_eq_true rfl)⟩) (wm_V (wm_preSP hP hD hK hE hS hA [] rfl) (va_recv (q0 := k_5) (ci := 10) hK hP rfl hk_5)) rfl rfl hl.1 rfl (lv_room (Nat.le_of_ble_eq_true rfl)) dX9_noteRules_61 ⟨(Nat.le_of_ble_eq_true rfl), (Nat.le_of_ble_eq_true rfl)⟩) hS hA hP hD [] rfl rfl (fun _ _ h => h.2.2) (fun r H locs hw hP hD hS => ?_)
            obtain ⟨hr0, c_8, -⟩ := hw
            subst r
            have hP : va_P D vwCl ((wW_k_X9_noteRules ty X pn rn tn en rf an x20_9_60 x20_10_12 fb mh ml ih lb ic) ++ pw ty pp) H := hP
            have hD : va_D A ((wW_k_X9_noteRules ty X pn rn tn en rf an x20_9_60 x20_10_12 fb mh ml ih lb ic) ++ pw ty pp) := hD
            refine W.widen (k := 0) (n := 0) (Nat.le_of_ble_eq_true rfl) (Nat.le_of_ble_eq_true rfl) ?_
            refine lv_if_eq (tgt := 79) hx hb dX9_noteRules_64 (by decide) (fun c_9 => ?_) (fun c_9 => ?_)
            · rw [if_pos c_9] at hT
              exact J_79 x20_10_12 x20_9_60 hT _ _ hP hD hS _ (lv_sub hl [0, 1] rfl)
            · rw [if_neg c_9] at hT
              refine lv_aload_n hx hb dX9_noteRules_67 rfl (lv_at hl 0 rfl) ?_
              refine lv_dup hx hb dX9_noteRules_68 rfl ?_
              refine va_get (D := D) (ci := 11) (v := .int x20_10_12) (C := RX9) (T := TX9) (N := 17) hx hb hts iv_k_X9_noteRules_X9 hown hK hP 2 rfl rfl 10 (by decide) (hts (.fieldLink RX9 109 "AnswerFold$Solver" "counting" "I") (by decide +kernel)) (fun _ h9 => h9) rfl dX9_noteRules_69 ?_
              refine lv_iconst (v := 1) hx hb dX9_noteRules_72 (by decide) ?_
              refine lv_iload_n hx hb dX9_noteRules_73 rfl (lv_at hl 1 rfl) ?_
              refine lv_ishl hx hb dX9_noteRules_74 ?_
              refine lv_ior hx hb dX9_noteRules_75 ?_
              refine va_put (D := D) (ci := 11) (v := .int (x20_10_12 ||| ((1 : Int32) <<< (v1_12 &&& 31)))) (ty := tyX9 10) (C := RX9) (T := TX9) (N := 17) hx hb hts iv_k_X9_noteRules_X9 tyX9 tyX9_ok nmX9 hown hK hP hD hS 2 rfl rfl 10 (by decide) (hts (.fieldLink RX9 109 "AnswerFold$Solver" "counting" "I") (by decide +kernel)) (fun _ h9 => h9) rfl (by decide +kernel) rfl rfl (Nat.le_of_ble_eq_true rfl) dX9_noteRules_76 (fun H locs hP hD hS => ?_)
              have hP : va_P D vwCl ((wW_k_X9_noteRules ty X pn rn tn en rf an x20_9_60 (x20_10_12 ||| ((1 : Int32) <<< (v1_12 &&& 31))) fb mh ml ih lb ic) ++ pw ty pp) H := hP
              have hD : va_D A ((wW_k_X9_noteRules ty X pn rn tn en rf an x20_9_60 (x20_10_12 ||| ((1 : Int32) <<< (v1_12 &&& 31))) fb mh ml ih lb ic) ++ pw ty pp) := hD
              exact J_79 (x20_10_12 ||| ((1 : Int32) <<< (v1_12 &&& 31))) x20_9_60 hT _ _ hP hD hS _ (lv_sub hl [0, 1] rfl)
          refine lv_icmp_ne (tgt := 60) hx hb dX9_noteRules_45 (by decide) (fun c_10 => ?_) (fun c_10 => ?_)
          · rw [if_neg c_10] at hT
            exact J_60 x20_9_12 hT _ _ hP hD hS _ (lv_sub hl [1, 2, 0] rfl)
          · rw [if_pos c_10] at hT
            refine lv_aload_n hx hb dX9_noteRules_48 rfl (lv_at hl 1 rfl) ?_
            refine lv_dup hx hb dX9_noteRules_49 rfl ?_
            refine va_get (D := D) (ci := 11) (v := .int x20_9_12) (C := RX9) (T := TX9) (N := 17) hx hb hts iv_k_X9_noteRules_X9 hown hK hP 2 rfl rfl 9 (by decide) (hts (.fieldLink RX9 106 "AnswerFold$Solver" "choices" "I") (by decide +kernel)) (fun _ h9 => h9) rfl dX9_noteRules_50 ?_
            refine lv_iconst (v := 1) hx hb dX9_noteRules_53 (by decide) ?_
            refine lv_iload_n hx hb dX9_noteRules_54 rfl (lv_at hl 2 rfl) ?_
            refine lv_ishl hx hb dX9_noteRules_55 ?_
            refine lv_ior hx hb dX9_noteRules_56 ?_
            refine va_put (D := D) (ci := 11) (v := .int (x20_9_12 ||| ((1 : Int32) <<< (v1_12 &&& 31)))) (ty := tyX9 9) (C := RX9) (T := TX9) (N := 17) hx hb hts iv_k_X9_noteRules_X9 tyX9 tyX9_ok nmX9 hown hK hP hD hS 2 rfl rfl 9 (by decide) (hts (.fieldLink RX9 106 "AnswerFold$Solver" "choices" "I") (by decide +kernel)) (fun _ h9 => h9) rfl (by decide +kernel) rfl rfl (Nat.le_of_ble_eq_true rfl) dX9_noteRules_57 (fun H locs hP hD hS => ?_)
            have hP : va_P D vwCl ((wW_k_X9_noteRules ty X pn rn tn en rf an (x20_9_12 ||| ((1 : Int32) <<< (v1_12 &&& 31))) x20_10_12 fb mh ml ih lb ic) ++ pw ty pp) H := hP
            have hD : va_D A ((wW_k_X9_noteRules ty X pn rn tn en rf an (x20_9_12 ||| ((1 : Int32) <<< (v1_12 &&& 31))) x20_10_12 fb mh ml ih lb ic) ++ pw ty pp) := hD
            exact J_60 (x20_9_12 ||| ((1 : Int32) <<< (v1_12 &&& 31))) hT _ _ hP hD hS _ (lv_sub hl [1, 2, 0] rfl)
  exact L_12 wF 0 0 0 (wF_up 0) hT (by decide) _ _ hP hD hS _ (lv_sub hl [1, 0] rfl)
theorem dX9_compileHeads_0 : decode cX9_compileHeads 0 = .ok (.aload_n 0, 1) := by decide +kernel
theorem dX9_compileHeads_1 : decode cX9_compileHeads 1 = .ok (.getfield 38, 3) := by decide +kernel
theorem dX9_compileHeads_4 : decode cX9_compileHeads 4 = .ok (.aload_n 1, 1) := by decide +kernel
theorem dX9_compileHeads_5 : decode cX9_compileHeads 5 = .ok (.invokevirtual 163, 3) := by decide +kernel
theorem dX9_compileHeads_8 : decode cX9_compileHeads 8 = .ok (.pop, 1) := by decide +kernel
theorem dX9_compileHeads_9 : decode cX9_compileHeads 9 = .ok (.iconst 0, 1) := by decide +kernel
theorem dX9_compileHeads_10 : decode cX9_compileHeads 10 = .ok (.istore 5, 2) := by decide +kernel
theorem dX9_compileHeads_12 : decode cX9_compileHeads 12 = .ok (.iconst 0, 1) := by decide +kernel
theorem dX9_compileHeads_13 : decode cX9_compileHeads 13 = .ok (.istore 6, 2) := by decide +kernel
theorem dX9_compileHeads_15 : decode cX9_compileHeads 15 = .ok (.iconst 0, 1) := by decide +kernel
theorem dX9_compileHeads_16 : decode cX9_compileHeads 16 = .ok (.istore 7, 2) := by decide +kernel
theorem dX9_compileHeads_18 : decode cX9_compileHeads 18 = .ok (.iload 7, 2) := by decide +kernel
theorem dX9_compileHeads_20 : decode cX9_compileHeads 20 = .ok (.aload_n 0, 1) := by decide +kernel
theorem dX9_compileHeads_21 : decode cX9_compileHeads 21 = .ok (.getfield 38, 3) := by decide +kernel
theorem dX9_compileHeads_24 : decode cX9_compileHeads 24 = .ok (.getfield 167, 3) := by decide +kernel
theorem dX9_compileHeads_27 : decode cX9_compileHeads 27 = .ok (.if_icmp .ge 46, 3) := by decide +kernel
theorem dX9_compileHeads_30 : decode cX9_compileHeads 30 = .ok (.aload_n 0, 1) := by decide +kernel
theorem dX9_compileHeads_31 : decode cX9_compileHeads 31 = .ok (.aload_n 0, 1) := by decide +kernel
theorem dX9_compileHeads_32 : decode cX9_compileHeads 32 = .ok (.getfield 38, 3) := by decide +kernel
theorem dX9_compileHeads_35 : decode cX9_compileHeads 35 = .ok (.iload 7, 2) := by decide +kernel
theorem dX9_compileHeads_37 : decode cX9_compileHeads 37 = .ok (.invokevirtual 170, 3) := by decide +kernel
theorem dX9_compileHeads_40 : decode cX9_compileHeads 40 = .ok (.invokevirtual 72, 3) := by decide +kernel
theorem dX9_compileHeads_43 : decode cX9_compileHeads 43 = .ok (.istore 8, 2) := by decide +kernel
theorem dX9_compileHeads_45 : decode cX9_compileHeads 45 = .ok (.iload 5, 2) := by decide +kernel
theorem dX9_compileHeads_47 : decode cX9_compileHeads 47 = .ok (.iload 8, 2) := by decide +kernel
theorem dX9_compileHeads_49 : decode cX9_compileHeads 49 = .ok (.ior, 1) := by decide +kernel
theorem dX9_compileHeads_50 : decode cX9_compileHeads 50 = .ok (.istore 5, 2) := by decide +kernel
theorem dX9_compileHeads_52 : decode cX9_compileHeads 52 = .ok (.iload 6, 2) := by decide +kernel
theorem dX9_compileHeads_54 : decode cX9_compileHeads 54 = .ok (.iload 8, 2) := by decide +kernel
theorem dX9_compileHeads_56 : decode cX9_compileHeads 56 = .ok (.ifCond .ne 7, 3) := by decide +kernel
theorem dX9_compileHeads_59 : decode cX9_compileHeads 59 = .ok (.iconst 1, 1) := by decide +kernel
theorem dX9_compileHeads_60 : decode cX9_compileHeads 60 = .ok (.goto 4, 3) := by decide +kernel
theorem dX9_compileHeads_63 : decode cX9_compileHeads 63 = .ok (.iconst 0, 1) := by decide +kernel
theorem dX9_compileHeads_64 : decode cX9_compileHeads 64 = .ok (.iadd, 1) := by decide +kernel
theorem dX9_compileHeads_65 : decode cX9_compileHeads 65 = .ok (.istore 6, 2) := by decide +kernel
theorem dX9_compileHeads_67 : decode cX9_compileHeads 67 = .ok (.iinc 7 1, 3) := by decide +kernel
theorem dX9_compileHeads_70 : decode cX9_compileHeads 70 = .ok (.goto (-52), 3) := by decide +kernel
theorem dX9_compileHeads_73 : decode cX9_compileHeads 73 = .ok (.aload_n 1, 1) := by decide +kernel
theorem dX9_compileHeads_74 : decode cX9_compileHeads 74 = .ok (.getfield 119, 3) := by decide +kernel
theorem dX9_compileHeads_77 : decode cX9_compileHeads 77 = .ok (.bipush 100, 2) := by decide +kernel
theorem dX9_compileHeads_79 : decode cX9_compileHeads 79 = .ok (.if_icmp .ne 7, 3) := by decide +kernel
theorem dX9_compileHeads_82 : decode cX9_compileHeads 82 = .ok (.iconst 1, 1) := by decide +kernel
theorem dX9_compileHeads_83 : decode cX9_compileHeads 83 = .ok (.goto 7, 3) := by decide +kernel
theorem dX9_compileHeads_86 : decode cX9_compileHeads 86 = .ok (.aload_n 1, 1) := by decide +kernel
theorem dX9_compileHeads_87 : decode cX9_compileHeads 87 = .ok (.getfield 173, 3) := by decide +kernel
theorem dX9_compileHeads_90 : decode cX9_compileHeads 90 = .ok (.iload 6, 2) := by decide +kernel
theorem dX9_compileHeads_92 : decode cX9_compileHeads 92 = .ok (.isub, 1) := by decide +kernel
theorem dX9_compileHeads_93 : decode cX9_compileHeads 93 = .ok (.istore 7, 2) := by decide +kernel
theorem dX9_compileHeads_95 : decode cX9_compileHeads 95 = .ok (.aload_n 1, 1) := by decide +kernel
theorem dX9_compileHeads_96 : decode cX9_compileHeads 96 = .ok (.getfield 119, 3) := by decide +kernel
theorem dX9_compileHeads_99 : decode cX9_compileHeads 99 = .ok (.bipush 100, 2) := by decide +kernel
theorem dX9_compileHeads_101 : decode cX9_compileHeads 101 = .ok (.if_icmp .ne 7, 3) := by decide +kernel
theorem dX9_compileHeads_104 : decode cX9_compileHeads 104 = .ok (.iconst 2, 1) := by decide +kernel
theorem dX9_compileHeads_105 : decode cX9_compileHeads 105 = .ok (.goto 10, 3) := by decide +kernel
theorem dX9_compileHeads_108 : decode cX9_compileHeads 108 = .ok (.aload_n 1, 1) := by decide +kernel
theorem dX9_compileHeads_109 : decode cX9_compileHeads 109 = .ok (.getfield 176, 3) := by decide +kernel
theorem dX9_compileHeads_112 : decode cX9_compileHeads 112 = .ok (.iload 6, 2) := by decide +kernel
theorem dX9_compileHeads_114 : decode cX9_compileHeads 114 = .ok (.isub, 1) := by decide +kernel
theorem dX9_compileHeads_115 : decode cX9_compileHeads 115 = .ok (.istore 8, 2) := by decide +kernel
theorem dX9_compileHeads_117 : decode cX9_compileHeads 117 = .ok (.aload_n 1, 1) := by decide +kernel
theorem dX9_compileHeads_118 : decode cX9_compileHeads 118 = .ok (.getfield 119, 3) := by decide +kernel
theorem dX9_compileHeads_121 : decode cX9_compileHeads 121 = .ok (.bipush 100, 2) := by decide +kernel
theorem dX9_compileHeads_123 : decode cX9_compileHeads 123 = .ok (.if_icmp .ne 16, 3) := by decide +kernel
theorem dX9_compileHeads_126 : decode cX9_compileHeads 126 = .ok (.iload 6, 2) := by decide +kernel
theorem dX9_compileHeads_128 : decode cX9_compileHeads 128 = .ok (.ifCond .le 7, 3) := by decide +kernel
theorem dX9_compileHeads_131 : decode cX9_compileHeads 131 = .ok (.iconst 1, 1) := by decide +kernel
theorem dX9_compileHeads_132 : decode cX9_compileHeads 132 = .ok (.goto 27, 3) := by decide +kernel
theorem dX9_compileHeads_135 : decode cX9_compileHeads 135 = .ok (.iconst 0, 1) := by decide +kernel
theorem dX9_compileHeads_136 : decode cX9_compileHeads 136 = .ok (.goto 23, 3) := by decide +kernel
theorem dX9_compileHeads_139 : decode cX9_compileHeads 139 = .ok (.iload 5, 2) := by decide +kernel
theorem dX9_compileHeads_141 : decode cX9_compileHeads 141 = .ok (.ifCond .ne 17, 3) := by decide +kernel
theorem dX9_compileHeads_144 : decode cX9_compileHeads 144 = .ok (.iload 7, 2) := by decide +kernel
theorem dX9_compileHeads_146 : decode cX9_compileHeads 146 = .ok (.ifCond .gt 12, 3) := by decide +kernel
theorem dX9_compileHeads_149 : decode cX9_compileHeads 149 = .ok (.iload 8, 2) := by decide +kernel
theorem dX9_compileHeads_151 : decode cX9_compileHeads 151 = .ok (.ifCond .lt 7, 3) := by decide +kernel
theorem dX9_compileHeads_154 : decode cX9_compileHeads 154 = .ok (.iconst 1, 1) := by decide +kernel
theorem dX9_compileHeads_155 : decode cX9_compileHeads 155 = .ok (.goto 4, 3) := by decide +kernel
theorem dX9_compileHeads_158 : decode cX9_compileHeads 158 = .ok (.iconst 0, 1) := by decide +kernel
theorem dX9_compileHeads_159 : decode cX9_compileHeads 159 = .ok (.istore 9, 2) := by decide +kernel
theorem dX9_compileHeads_161 : decode cX9_compileHeads 161 = .ok (.iload 9, 2) := by decide +kernel
theorem dX9_compileHeads_163 : decode cX9_compileHeads 163 = .ok (.ifCond .ne 27, 3) := by decide +kernel
theorem dX9_compileHeads_166 : decode cX9_compileHeads 166 = .ok (.aload_n 0, 1) := by decide +kernel
theorem dX9_compileHeads_167 : decode cX9_compileHeads 167 = .ok (.getfield 12, 3) := by decide +kernel
theorem dX9_compileHeads_170 : decode cX9_compileHeads 170 = .ok (.iload_n 2, 1) := by decide +kernel
theorem dX9_compileHeads_171 : decode cX9_compileHeads 171 = .ok (.iload_n 3, 1) := by decide +kernel
theorem dX9_compileHeads_172 : decode cX9_compileHeads 172 = .ok (.iload 4, 2) := by decide +kernel
theorem dX9_compileHeads_174 : decode cX9_compileHeads 174 = .ok (.invokevirtual 155, 3) := by decide +kernel
theorem dX9_compileHeads_177 : decode cX9_compileHeads 177 = .ok (.aload_n 0, 1) := by decide +kernel
theorem dX9_compileHeads_178 : decode cX9_compileHeads 178 = .ok (.getfield 12, 3) := by decide +kernel
theorem dX9_compileHeads_181 : decode cX9_compileHeads 181 = .ok (.iload 5, 2) := by decide +kernel
theorem dX9_compileHeads_183 : decode cX9_compileHeads 183 = .ok (.iload 7, 2) := by decide +kernel
theorem dX9_compileHeads_185 : decode cX9_compileHeads 185 = .ok (.iload 8, 2) := by decide +kernel
theorem dX9_compileHeads_187 : decode cX9_compileHeads 187 = .ok (.invokevirtual 179, 3) := by decide +kernel
theorem dX9_compileHeads_190 : decode cX9_compileHeads 190 = .ok (.return_, 1) := by decide +kernel
def wW_k_X9_compileHeads (ty : Nat → ClassId) (X : Nat → Nat) (z9_0 : Int32) (z9_1 : Int32) (z9_2 : Int32) (z9_3 : Int32) (z9_4 : Int32) (z9_5 : Int32) (z9_6 : Int32) (z9_7 : Int32) (z9_8 : Int32) (z9_9 : Int32) (z9_10 : Nat → Int64) (z9_11 : Nat → Int32) (z9_12 : Nat → Int32) (z9_13 : Int32) (z9_14 : Int32) (z9_15 : Int32) (z9_16 : Int32) (z9_17 : Int32) (z9_18 : Int32) (z9_19 : Int32) (z9_20 : Int32) (z9_21 : Int32) (z9_22 : Int32) (z9_23 : Nat → Int32) (z9_24 : Nat → Int32) (z9_25 : Nat → Int32) (z9_26 : Nat → Int32) (z9_27 : Nat → Int32) (z9_28 : Nat → Int32) : va_W := [((X 8), .inr (5, [.ref (X 1), .ref (X 9), .ref (X 10), .ref (X 12), .ref (X 14), .int z9_0, .ref (X 15), .ref (X 16), .ref (X 17), .int z9_1, .ref (X 18), .ref (X 19), .int z9_2, .int z9_3, .int z9_4, .int z9_5])), ((X 9), .inr (4, [.int z9_6, .int z9_7, .int z9_8, .int z9_9])), ((X 10), .inr (3, [.ref (X 11)])), ((X 11), .inl (ty 1, 6, .inr (.inl z9_10))), ((X 14), .inl (ty 0, 16, .inl z9_11)), ((X 19), .inl (ty 0, 384, .inl z9_12)), ((X 20), .inr (11, [.ref (X 1), .ref (X 8), .ref (X 21), .ref (X 28), .ref (X 35), .int z9_13, .ref (X 36), .ref (X 37), .ref (X 38), .int z9_14, .int z9_15, .int z9_16, .int z9_17, .int z9_18, .int z9_19, .int z9_20, .int z9_21])), ((X 21), .inr (9, [.ref (X 22), .ref (X 23), .ref (X 24), .ref (X 25), .ref (X 26), .ref (X 27), .int z9_22])), ((X 22), .inl (ty 0, 300, .inl z9_23)), ((X 23), .inl (ty 0, 300, .inl z9_24)), ((X 24), .inl (ty 0, 300, .inl z9_25)), ((X 25), .inl (ty 0, 300, .inl z9_26)), ((X 26), .inl (ty 0, 300, .inl z9_27)), ((X 27), .inl (ty 0, 300, .inl z9_28))]
def vs_k_X9_compileHeads : List Cond := .code yX9_compileHeads cX9_compileHeads 10 none :: ([.fieldLink RX9 38 "AnswerFold$Solver" "grounding" "LAnswerFold$Grounding;", .methodLink RX9 163 yX3_listHeads, .instanceMethod yX3_listHeads, .selects RX3 yX3_listHeads yX3_listHeads, .initialized RX3, .fieldLink RX9 12 "AnswerFold$Solver" "checks" "LAnswerFold$Rows;", .methodLink RX9 155 yX7_add, .instanceMethod yX7_add, .selects RX7 yX7_add yX7_add, .initialized RX7, .methodLink RX9 179 yX7_boundLast, .instanceMethod yX7_boundLast, .selects RX7 yX7_boundLast yX7_boundLast, .methodLink RX9 170 yX3_headAtomAt, .instanceMethod yX3_headAtomAt, .selects RX3 yX3_headAtomAt yX3_headAtomAt, .methodLink RX9 72 yX9_bitOf, .instanceMethod yX9_bitOf, .selects RX9 yX9_bitOf yX9_bitOf, .initialized RX9] ++ (u_ws RX9 TX9 17 ++ (vs_k_X3_listHeads ++ (u_ws RX3 TX3 16 ++ (u_ws RX8 TX8 11 ++ (vs_k_X7_add ++ (vs_k_X7_boundLast ++ (vs_k_X3_headAtomAt ++ (vs_k_X9_bitOf)))))))))
theorem iv_k_X9_compileHeads_X3 : ∀ w ∈ u_ws RX3 TX3 16, w ∈ vs_k_X9_compileHeads := (fun _ h => List.mem_cons_of_mem _ (List.mem_append_right _ (List.mem_append_right _ (List.mem_append_right _ (List.mem_append_left _ h)))))
theorem iv_k_X9_compileHeads_X8 : ∀ w ∈ u_ws RX8 TX8 11, w ∈ vs_k_X9_compileHeads := (fun _ h => List.mem_cons_of_mem _ (List.mem_append_right _ (List.mem_append_right _ (List.mem_append_right _ (List.mem_append_right _ (List.mem_append_left _ h))))))
theorem iv_k_X9_compileHeads_X9 : ∀ w ∈ u_ws RX9 TX9 17, w ∈ vs_k_X9_compileHeads := (fun _ h => List.mem_cons_of_mem _ (List.mem_append_right _ (List.mem_append_left _ h)))
set_option maxRecDepth 20000 in
theorem gv_k_X9_compileHeads_0 : GoodIn vs_k_X9_compileHeads (wsV RX9 163 RX3 yX3_listHeads vs_k_X3_listHeads) := goodIn_app (goodIn_sub (by decide +kernel) (by decide +kernel)) (goodIn_sub (fun _ h => List.mem_cons_of_mem _ (List.mem_append_right _ (List.mem_append_right _ (List.mem_append_left _ h)))) (by decide +kernel))
set_option maxRecDepth 20000 in
theorem gv_k_X9_compileHeads_1 : GoodIn vs_k_X9_compileHeads (wsV RX9 155 RX7 yX7_add vs_k_X7_add) := goodIn_app (goodIn_sub (by decide +kernel) (by decide +kernel)) (goodIn_sub (fun _ h => List.mem_cons_of_mem _ (List.mem_append_right _ (List.mem_append_right _ (List.mem_append_right _ (List.mem_append_right _ (List.mem_append_right _ (List.mem_append_left _ h))))))) (by decide +kernel))
set_option maxRecDepth 20000 in
theorem gv_k_X9_compileHeads_2 : GoodIn vs_k_X9_compileHeads (wsV RX9 179 RX7 yX7_boundLast vs_k_X7_boundLast) := goodIn_app (goodIn_sub (by decide +kernel) (by decide +kernel)) (goodIn_sub (fun _ h => List.mem_cons_of_mem _ (List.mem_append_right _ (List.mem_append_right _ (List.mem_append_right _ (List.mem_append_right _ (List.mem_append_right _ (List.mem_append_right _ (List.mem_append_left _ h)))))))) (by decide +kernel))
set_option maxRecDepth 20000 in
theorem gv_k_X9_compileHeads_3 : GoodIn vs_k_X9_compileHeads (wsV RX9 170 RX3 yX3_headAtomAt vs_k_X3_headAtomAt) := goodIn_app (goodIn_sub (by decide +kernel) (by decide +kernel)) (goodIn_sub (fun _ h => List.mem_cons_of_mem _ (List.mem_append_right _ (List.mem_append_right _ (List.mem_append_right _ (List.mem_append_right _ (List.mem_append_right _ (List.mem_append_right _ (List.mem_append_right _ (List.mem_append_left _ h))))))))) (by decide +kernel))
set_option maxRecDepth 20000 in
theorem gv_k_X9_compileHeads_4 : GoodIn vs_k_X9_compileHeads (wsV RX9 72 RX9 yX9_bitOf vs_k_X9_bitOf) := goodIn_app (goodIn_sub (by decide +kernel) (by decide +kernel)) (goodIn_sub (fun _ h => List.mem_cons_of_mem _ (List.mem_append_right _ (List.mem_append_right _ (List.mem_append_right _ (List.mem_append_right _ (List.mem_append_right _ (List.mem_append_right _ (List.mem_append_right _ (List.mem_append_right _ (h)))))))))) (by decide +kernel))
set_option maxHeartbeats 4000000 in
set_option maxRecDepth 100000 in
theorem k_X9_compileHeads (l : Launch) (D : va_G) (ty : Nat → ClassId) (td mi sz : Nat) (pp : pT) (X : Nat → Nat) (hn : Int32) (kn : Int32) (on : Int32) (cu : Int32) (pu : Int32) (gw : Int32) (b_1 : Int32) (b_2 : Int32) (b_3 : Int32) (b_p : Int32) (su : Nat → Int64) (hds : Nat → Int32) (ob : Nat → Int32) (an : Int32) (ch : Int32) (cg : Int32) (fb : Int32) (mh : Int32) (ml : Int32) (ih : Int32) (lb : Int32) (ic : Int32) (cn : Int32) (c1 : Nat → Int32) (c2 : Nat → Int32) (c3 : Nat → Int32) (c4 : Nat → Int32) (c5 : Nat → Int32) (c6 : Nat → Int32) (a0 : Nat) (a1 : Int32) (a2 : Int32) (a3 : Int32) (hok : pOK pp) (hm_a0 : a0 ∈ pRA pp) (TT : r_k_X9_compileHeads) (hTT : TT = m_k_X9_compileHeads pp on b_1 b_2 b_3 b_p su hds ob cn c1 c2 c3 c4 c5 c6 a0 a1 a2 a3) : Met l yX9_compileHeads vs_k_X9_compileHeads { frames := 3, cells := 0, slots := 0, locals := 71 } (va_Pc [.ref (X 20), .ref a0, .int a1, .int a2, .int a3] (wq_P D ty td mi ((wW_k_X9_compileHeads ty X hn kn on cu pu gw b_1 b_2 b_3 b_p su hds ob an ch cg fb mh ml ih lb ic cn c1 c2 c3 c4 c5 c6) ++ pw ty pp) sz)) (va_Qv (fun u : va_W => ((u = ((wW_k_X9_compileHeads ty X TT.2.2.2.2.2.2.2.2.1 kn on cu pu gw b_1 b_2 TT.2.2.2.2.2.2.2.2.2 b_p su TT.1 ob an ch cg fb mh ml ih lb ic TT.2.1 TT.2.2.1 TT.2.2.2.1 TT.2.2.2.2.1 TT.2.2.2.2.2.1 TT.2.2.2.2.2.2.1 TT.2.2.2.2.2.2.2.1) ++ pw ty pp)))) (wq_B D (va_A ((wW_k_X9_compileHeads ty X hn kn on cu pu gw b_1 b_2 b_3 b_p su hds ob an ch cg fb mh ml ih lb ic cn c1 c2 c3 c4 c5 c6) ++ pw ty pp) sz)) (va_A ((wW_k_X9_compileHeads ty X hn kn on cu pu gw b_1 b_2 b_3 b_p su hds ob an ch cg fb mh ml ih lb ic cn c1 c2 c3 c4 c5 c6) ++ pw ty pp) sz)) 0 0 (va_A ((wW_k_X9_compileHeads ty X hn kn on cu pu gw b_1 b_2 b_3 b_p su hds ob an ch cg fb mh ml ih lb ic cn c1 c2 c3 c4 c5 c6) ++ pw ty pp) sz) := by
  refine Met.ofW (cc := cX9_compileHeads) (maxL := 10) (ret := none) (by decide) rfl ?_
  intro p e s m args below meth c s₁ B hml hv
  obtain ⟨rfl, hsz, hP, hK, hD0, hE⟩ := hv
  have hx := B.exec
  have hb := B.bytes
  have hr := B.returns
  have hts := atoms_spec (ws := vs_k_X9_compileHeads) B.pre
  have hown : s.vm.findClass RX9 = some m.cls := findClass_of_methodNamed B.named
  have hlocks := B.notSynchronized
  subst hsz
  have hD := hD0.self (sz := s.heap.size)
  generalize hAe : va_A ((wW_k_X9_compileHeads ty X hn kn on cu pu gw b_1 b_2 b_3 b_p su hds ob an ch cg fb mh ml ih lb ic cn c1 c2 c3 c4 c5 c6) ++ pw ty pp) s.heap.size = A at hD hE ⊢
  have hA : ∀ q : Nat, s.heap.size ≤ q → A q := fun q h => by rw [← hAe]; exact Or.inr h
  have hS : va_S A s.heap s.heap [] := va_S.rf
  have hP : va_P D vwCl ((wW_k_X9_compileHeads ty X hn kn on cu pu gw b_1 b_2 b_3 b_p su hds ob an ch cg fb mh ml ih lb ic cn c1 c2 c3 c4 c5 c6) ++ pw ty pp) s.heap := hP
  have hl := lv_entry ([.ref (X 20), .ref a0, .int a1, .int a2, .int a3]) (n := 10) (Nat.le_of_ble_eq_true rfl)
  rw [lg_entry_eq]
  generalize (lg_sl ([.ref (X 20), .ref a0, .int a1, .int a2, .int a3]) ++ List.replicate (10 - (lg_sl ([.ref (X 20), .ref a0, .int a1, .int a2, .int a3])).length) Slot.unset).toArray = ls at hl ⊢
  have hl : lv_has ls 10 [(0, .ref (X 20)), (1, .ref a0), (2, .int a1), (3, .int a2), (4, .int a3)] := hl
  have END : ∀ (w9_0 : Nat → Int32) (w9_1 : Int32) (w9_2 : Nat → Int32) (w9_3 : Nat → Int32) (w9_4 : Nat → Int32) (w9_5 : Nat → Int32) (w9_6 : Nat → Int32) (w9_7 : Nat → Int32) (w9_8 : Int32) (w9_9 : Int32), TT = (w9_0, w9_1, w9_2, w9_3, w9_4, w9_5, w9_6, w9_7, w9_8, w9_9) → ∀ (H : Heap) (locs : List Loc), va_P D vwCl ((wW_k_X9_compileHeads ty X w9_8 kn on cu pu gw b_1 b_2 w9_9 b_p su w9_0 ob an ch cg fb mh ml ih lb ic w9_1 w9_2 w9_3 w9_4 w9_5 w9_6 w9_7) ++ pw ty pp) H → va_D A ((wW_k_X9_compileHeads ty X w9_8 kn on cu pu gw b_1 b_2 w9_9 b_p su w9_0 ob an ch cg fb mh ml ih lb ic w9_1 w9_2 w9_3 w9_4 w9_5 w9_6 w9_7) ++ pw ty pp) → va_S A s.heap H locs → ∀ (ls : Array Slot) (pc : Nat), decode cX9_compileHeads pc = .ok (.return_, 1) → W p l e (headSpec vs_k_X9_compileHeads { frames := 3, cells := 0, slots := 0, locals := 71 }).room s m ([.ref (X 20), .ref a0, .int a1, .int a2, .int a3] : List Value).toArray below meth c H locs 0 0 (MQ below (va_Qv (fun u : va_W => ((u = ((wW_k_X9_compileHeads ty X TT.2.2.2.2.2.2.2.2.1 kn on cu pu gw b_1 b_2 TT.2.2.2.2.2.2.2.2.2 b_p su TT.1 ob an ch cg fb mh ml ih lb ic TT.2.1 TT.2.2.1 TT.2.2.2.1 TT.2.2.2.2.1 TT.2.2.2.2.2.1 TT.2.2.2.2.2.2.1 TT.2.2.2.2.2.2.2.1) ++ pw ty pp)))) (wq_B D A) A) ([.ref (X 20), .ref a0, .int a1, .int a2, .int a3] : List Value).toArray s 0 0 A) (F0 m pc ls []) := by
    intro w9_0 w9_1 w9_2 w9_3 w9_4 w9_5 w9_6 w9_7 w9_8 w9_9 hT H locs hP hD hS ls pc hd
    have hM : TT = (w9_0, w9_1, w9_2, w9_3, w9_4, w9_5, w9_6, w9_7, w9_8, w9_9) := hT
    exact W.vret hx hb hr (fun t ht hW => ⟨⟨((wW_k_X9_compileHeads ty X w9_8 kn on cu pu gw b_1 b_2 w9_9 b_p su w9_0 ob an ch cg fb mh ml ih lb ic w9_1 w9_2 w9_3 w9_4 w9_5 w9_6 w9_7) ++ pw ty pp), rfl, (by rw [hM]), wq_B.of ht hP hD⟩, hS.F ht⟩) hS.2.2 hd
  have hT := hTT
  rw [m_k_X9_compileHeads] at hT
  refine lv_aload_n hx hb dX9_compileHeads_0 rfl (lv_at hl 0 rfl) ?_
  refine va_get (D := D) (ci := 11) (v := .ref (X 8)) (C := RX9) (T := TX9) (N := 17) hx hb hts iv_k_X9_compileHeads_X9 hown hK hP 6 rfl rfl 1 (by decide) (hts (.fieldLink RX9 38 "AnswerFold$Solver" "grounding" "LAnswerFold$Grounding;") (by decide +kernel)) (fun _ h9 => h9) rfl dX9_compileHeads_1 ?_
  refine lv_aload_n hx hb dX9_compileHeads_4 rfl (lv_at hl 1 rfl) ?_
  obtain ⟨t_5, ht_5⟩ : ∃ t, t = m_k_X3_listHeads pp b_1 b_2 b_3 b_p su hds a0 := ⟨_, rfl⟩
  rw [lE_eq ht_5] at hT
  refine wq_iPW (wc := (wW_k_X3_listHeads ty X hn kn on cu pu gw b_1 b_2 b_3 b_p su hds)) (pl := pw ty pp) (ux := (wW_k_X3_listHeads ty X t_5.2.2.1 kn on cu pu gw b_1 b_2 t_5.2.2.2 b_p su t_5.2.1)) (va_runV (As := [.ref a0]) (rest := []) ⟨hx, hb, hml, hown, hts⟩ (k_X3_listHeads l D ty td mi s.heap.size pp X hn kn on cu pu gw b_1 b_2 b_3 b_p su hds a0 hok hm_a0 t_5 ht_5) (cwV 1 hts gv_k_X9_compileHeads_0 rfl rfl rfl (by decide +kernel) ⟨(Nat.le_of_ble_eq_true rfl), (Nat.le_of_ble_eq_true rfl)⟩) (wm_V (wm_preSP hP hD hK hE hS hA [true, true, true, true, true] rfl) (va_recv (q0 := 0) (ci := 5) hK hP rfl rfl)) rfl rfl hl.1 rfl (lv_room (Nat.le_of_ble_eq_true rfl)) dX9_compileHeads_5 ⟨(Nat.le_of_ble_eq_true rfl), (Nat.le_of_ble_eq_true rfl)⟩) hS hA hP hD [true, true, true, true, true] rfl rfl (fun _ _ h => h.2.2) (fun r H locs hw hP hD hS => ?_)
  obtain ⟨rfl, c_3, -⟩ := hw
  have hP : va_P D vwCl ((wW_k_X9_compileHeads ty X t_5.2.2.1 kn on cu pu gw b_1 b_2 t_5.2.2.2 b_p su t_5.2.1 ob an ch cg fb mh ml ih lb ic cn c1 c2 c3 c4 c5 c6) ++ pw ty pp) H := hP
  have hD : va_D A ((wW_k_X9_compileHeads ty X t_5.2.2.1 kn on cu pu gw b_1 b_2 t_5.2.2.2 b_p su t_5.2.1 ob an ch cg fb mh ml ih lb ic cn c1 c2 c3 c4 c5 c6) ++ pw ty pp) := hD
  refine W.widen (k := 0) (n := 0) (Nat.le_of_ble_eq_true rfl) (Nat.le_of_ble_eq_true rfl) ?_
  refine lv_pop hx hb dX9_compileHeads_8 rfl ?_
  refine lv_iconst (v := 0) hx hb dX9_compileHeads_9 (by decide) ?_
  refine lv_istore (lv' := [(5, .int 0), (0, .ref (X 20)), (1, .ref a0), (2, .int a1), (3, .int a2), (4, .int a3)]) hx hb dX9_compileHeads_10 hl (by decide) rfl (fun ls hl => ?_)
  refine lv_iconst (v := 0) hx hb dX9_compileHeads_12 (by decide) ?_
  refine lv_istore (lv' := [(6, .int 0), (5, .int 0), (0, .ref (X 20)), (1, .ref a0), (2, .int a1), (3, .int a2), (4, .int a3)]) hx hb dX9_compileHeads_13 hl (by decide) rfl (fun ls hl => ?_)
  refine lv_iconst (v := 0) hx hb dX9_compileHeads_15 (by decide) ?_
  refine lv_istore (lv' := [(7, .int 0), (6, .int 0), (5, .int 0), (0, .ref (X 20)), (1, .ref a0), (2, .int a1), (3, .int a2), (4, .int a3)]) hx hb dX9_compileHeads_16 hl (by decide) rfl (fun ls hl => ?_)
  have L_18 : ∀ (n_18 : Nat) (v5_18 : Int32) (v6_18 : Int32) (v7_18 : Int32), (2147483648 - v7_18.toInt).toNat < n_18 → TT = m_k_X9_compileHeads_18 pp on ob cn c1 c2 c3 c4 c5 c6 a0 a1 a2 a3 t_5 n_18 v5_18 v6_18 v7_18 → 0 ≤ v7_18.toInt → ∀ (H : Heap) (locs : List Loc), va_P D vwCl ((wW_k_X9_compileHeads ty X t_5.2.2.1 kn on cu pu gw b_1 b_2 t_5.2.2.2 b_p su t_5.2.1 ob an ch cg fb mh ml ih lb ic cn c1 c2 c3 c4 c5 c6) ++ pw ty pp) H → va_D A ((wW_k_X9_compileHeads ty X t_5.2.2.1 kn on cu pu gw b_1 b_2 t_5.2.2.2 b_p su t_5.2.1 ob an ch cg fb mh ml ih lb ic cn c1 c2 c3 c4 c5 c6) ++ pw ty pp) → va_S A s.heap H locs → ∀ ls : Array Slot, lv_has ls 10 [(0, .ref (X 20)), (1, .ref a0), (2, .int a1), (3, .int a2), (4, .int a3), (5, .int v5_18), (6, .int v6_18), (7, .int v7_18)] → W p l e (headSpec vs_k_X9_compileHeads { frames := 3, cells := 0, slots := 0, locals := 71 }).room s m ([.ref (X 20), .ref a0, .int a1, .int a2, .int a3] : List Value).toArray below meth c H locs 0 0 (MQ below (va_Qv (fun u : va_W => ((u = ((wW_k_X9_compileHeads ty X TT.2.2.2.2.2.2.2.2.1 kn on cu pu gw b_1 b_2 TT.2.2.2.2.2.2.2.2.2 b_p su TT.1 ob an ch cg fb mh ml ih lb ic TT.2.1 TT.2.2.1 TT.2.2.2.1 TT.2.2.2.2.1 TT.2.2.2.2.2.1 TT.2.2.2.2.2.2.1 TT.2.2.2.2.2.2.2.1) ++ pw ty pp)))) (wq_B D A) A) ([.ref (X 20), .ref a0, .int a1, .int a2, .int a3] : List Value).toArray s 0 0 A) (F0 m 18 ls []) := by
    intro n_18
    induction n_18 with
    | zero => intro v5_18 v6_18 v7_18 hu; exact absurd hu (Nat.not_lt_zero _)
    | succ n_18 ih_18 =>
      intro v5_18 v6_18 v7_18 hu_18 hT hn_18 H locs hP hD hS ls hl
      rw [m_k_X9_compileHeads_18_succ, m_k_X9_compileHeads_18s] at hT
      refine lv_iload hx hb dX9_compileHeads_18 (lv_at hl 7 rfl) ?_
      refine lv_aload_n hx hb dX9_compileHeads_20 rfl (lv_at hl 0 rfl) ?_
      refine va_get (D := D) (ci := 11) (v := .ref (X 8)) (C := RX9) (T := TX9) (N := 17) hx hb hts iv_k_X9_compileHeads_X9 hown hK hP 6 rfl rfl 1 (by decide) (hts (.fieldLink RX9 38 "AnswerFold$Solver" "grounding" "LAnswerFold$Grounding;") (by decide +kernel)) (fun _ h9 => h9) rfl dX9_compileHeads_21 ?_
      refine va_getN (D := D) (ci := 5) (v := .int t_5.2.2.1) (C := RX3) (T := TX3) (N := 16) hx hb hts iv_k_X9_compileHeads_X3 hown hK hP 0 rfl rfl 5 (by decide) (hE.at (.fieldLinkNest "AnswerFold$Solver" 167 "AnswerFold$Grounding" "headCount" "I" "AnswerFold") (by decide +kernel)) (fun _ h9 => h9) rfl dX9_compileHeads_24 ?_
      refine lv_icmp_ge (tgt := 73) hx hb dX9_compileHeads_27 (by decide) (fun c_4 => ?_) (fun c_4 => ?_)
      · rw [if_pos c_4] at hT
        refine lv_aload_n hx hb dX9_compileHeads_73 rfl (lv_at hl 1 rfl) ?_
        obtain ⟨k_5, hk_5⟩ := List.getElem?_of_mem (pw_rule (ty := ty) (p := pp) (L := [((X 8), .inr (5, [.ref (X 1), .ref (X 9), .ref (X 10), .ref (X 12), .ref (X 14), .int t_5.2.2.1, .ref (X 15), .ref (X 16), .ref (X 17), .int kn, .ref (X 18), .ref (X 19), .int on, .int cu, .int pu, .int gw])), ((X 9), .inr (4, [.int b_1, .int b_2, .int t_5.2.2.2, .int b_p])), ((X 10), .inr (3, [.ref (X 11)])), ((X 11), .inl (ty 1, 6, .inr (.inl su))), ((X 14), .inl (ty 0, 16, .inl t_5.2.1)), ((X 19), .inl (ty 0, 384, .inl ob)), ((X 20), .inr (11, [.ref (X 1), .ref (X 8), .ref (X 21), .ref (X 28), .ref (X 35), .int an, .ref (X 36), .ref (X 37), .ref (X 38), .int ch, .int cg, .int fb, .int mh, .int ml, .int ih, .int lb, .int ic])), ((X 21), .inr (9, [.ref (X 22), .ref (X 23), .ref (X 24), .ref (X 25), .ref (X 26), .ref (X 27), .int cn])), ((X 22), .inl (ty 0, 300, .inl c1)), ((X 23), .inl (ty 0, 300, .inl c2)), ((X 24), .inl (ty 0, 300, .inl c3)), ((X 25), .inl (ty 0, 300, .inl c4)), ((X 26), .inl (ty 0, 300, .inl c5)), ((X 27), .inl (ty 0, 300, .inl c6))]) hm_a0)
        refine va_getN (D := D) (ci := 10) (v := .int (pI pp a0 0)) (C := RX8) (T := TX8) (N := 11) hx hb hts iv_k_X9_compileHeads_X8 hown hK hP k_5 hk_5 rfl 0 (by decide) (hE.at (.fieldLinkNest "AnswerFold$Solver" 119 "AnswerFold$Rule" "kind" "C" "AnswerFold") (by decide +kernel)) (fun _ h9 => h9) rfl dX9_compileHeads_74 ?_
        refine lv_bipush (v := 100) hx hb dX9_compileHeads_77 (by decide) ?_
        have J_90 : ∀ (s0_90 : Int32), TT = m_k_X9_compileHeads_90 pp cn c1 c2 c3 c4 c5 c6 a0 a1 a2 a3 t_5 v5_18 v6_18 s0_90 → ∀ (H : Heap) (locs : List Loc), va_P D vwCl ((wW_k_X9_compileHeads ty X t_5.2.2.1 kn on cu pu gw b_1 b_2 t_5.2.2.2 b_p su t_5.2.1 ob an ch cg fb mh ml ih lb ic cn c1 c2 c3 c4 c5 c6) ++ pw ty pp) H → va_D A ((wW_k_X9_compileHeads ty X t_5.2.2.1 kn on cu pu gw b_1 b_2 t_5.2.2.2 b_p su t_5.2.1 ob an ch cg fb mh ml ih lb ic cn c1 c2 c3 c4 c5 c6) ++ pw ty pp) → va_S A s.heap H locs → ∀ ls : Array Slot, lv_has ls 10 [(0, .ref (X 20)), (1, .ref a0), (2, .int a1), (3, .int a2), (4, .int a3), (5, .int v5_18), (6, .int v6_18)] → W p l e (headSpec vs_k_X9_compileHeads { frames := 3, cells := 0, slots := 0, locals := 71 }).room s m ([.ref (X 20), .ref a0, .int a1, .int a2, .int a3] : List Value).toArray below meth c H locs 0 0 (MQ below (va_Qv (fun u : va_W => ((u = ((wW_k_X9_compileHeads ty X TT.2.2.2.2.2.2.2.2.1 kn on cu pu gw b_1 b_2 TT.2.2.2.2.2.2.2.2.2 b_p su TT.1 ob an ch cg fb mh ml ih lb ic TT.2.1 TT.2.2.1 TT.2.2.2.1 TT.2.2.2.2.1 TT.2.2.2.2.2.1 TT.2.2.2.2.2.2.1 TT.2.2.2.2.2.2.2.1) ++ pw ty pp)))) (wq_B D A) A) ([.ref (X 20), .ref a0, .int a1, .int a2, .int a3] : List Value).toArray s 0 0 A) (F0 m 90 ls [.int s0_90]) := by
          intro s0_90 hT  H locs hP hD hS ls hl
          rw [m_k_X9_compileHeads_90] at hT
          refine lv_iload hx hb dX9_compileHeads_90 (lv_at hl 6 rfl) ?_
          refine lv_isub hx hb dX9_compileHeads_92 ?_
          refine lv_istore (lv' := [(7, .int (s0_90 - v6_18)), (0, .ref (X 20)), (1, .ref a0), (2, .int a1), (3, .int a2), (4, .int a3), (5, .int v5_18), (6, .int v6_18)]) hx hb dX9_compileHeads_93 hl (by decide) rfl (fun ls hl => ?_)
          refine lv_aload_n hx hb dX9_compileHeads_95 rfl (lv_at hl 2 rfl) ?_
          obtain ⟨k_6, hk_6⟩ := List.getElem?_of_mem (pw_rule (ty := ty) (p := pp) (L := [((X 8), .inr (5, [.ref (X 1), .ref (X 9), .ref (X 10), .ref (X 12), .ref (X 14), .int t_5.2.2.1, .ref (X 15), .ref (X 16), .ref (X 17), .int kn, .ref (X 18), .ref (X 19), .int on, .int cu, .int pu, .int gw])), ((X 9), .inr (4, [.int b_1, .int b_2, .int t_5.2.2.2, .int b_p])), ((X 10), .inr (3, [.ref (X 11)])), ((X 11), .inl (ty 1, 6, .inr (.inl su))), ((X 14), .inl (ty 0, 16, .inl t_5.2.1)), ((X 19), .inl (ty 0, 384, .inl ob)), ((X 20), .inr (11, [.ref (X 1), .ref (X 8), .ref (X 21), .ref (X 28), .ref (X 35), .int an, .ref (X 36), .ref (X 37), .ref (X 38), .int ch, .int cg, .int fb, .int mh, .int ml, .int ih, .int lb, .int ic])), ((X 21), .inr (9, [.ref (X 22), .ref (X 23), .ref (X 24), .ref (X 25), .ref (X 26), .ref (X 27), .int cn])), ((X 22), .inl (ty 0, 300, .inl c1)), ((X 23), .inl (ty 0, 300, .inl c2)), ((X 24), .inl (ty 0, 300, .inl c3)), ((X 25), .inl (ty 0, 300, .inl c4)), ((X 26), .inl (ty 0, 300, .inl c5)), ((X 27), .inl (ty 0, 300, .inl c6))]) hm_a0)
          refine va_getN (D := D) (ci := 10) (v := .int (pI pp a0 0)) (C := RX8) (T := TX8) (N := 11) hx hb hts iv_k_X9_compileHeads_X8 hown hK hP k_6 hk_6 rfl 0 (by decide) (hE.at (.fieldLinkNest "AnswerFold$Solver" 119 "AnswerFold$Rule" "kind" "C" "AnswerFold") (by decide +kernel)) (fun _ h9 => h9) rfl dX9_compileHeads_96 ?_
          refine lv_bipush (v := 100) hx hb dX9_compileHeads_99 (by decide) ?_
          have J_115 : ∀ (s0_115 : Int32), TT = m_k_X9_compileHeads_115 pp cn c1 c2 c3 c4 c5 c6 a0 a1 a2 a3 s0_90 t_5 v5_18 v6_18 s0_115 → ∀ (H : Heap) (locs : List Loc), va_P D vwCl ((wW_k_X9_compileHeads ty X t_5.2.2.1 kn on cu pu gw b_1 b_2 t_5.2.2.2 b_p su t_5.2.1 ob an ch cg fb mh ml ih lb ic cn c1 c2 c3 c4 c5 c6) ++ pw ty pp) H → va_D A ((wW_k_X9_compileHeads ty X t_5.2.2.1 kn on cu pu gw b_1 b_2 t_5.2.2.2 b_p su t_5.2.1 ob an ch cg fb mh ml ih lb ic cn c1 c2 c3 c4 c5 c6) ++ pw ty pp) → va_S A s.heap H locs → ∀ ls : Array Slot, lv_has ls 10 [(0, .ref (X 20)), (1, .ref a0), (2, .int a1), (3, .int a2), (4, .int a3), (5, .int v5_18), (6, .int v6_18), (7, .int (s0_90 - v6_18))] → W p l e (headSpec vs_k_X9_compileHeads { frames := 3, cells := 0, slots := 0, locals := 71 }).room s m ([.ref (X 20), .ref a0, .int a1, .int a2, .int a3] : List Value).toArray below meth c H locs 0 0 (MQ below (va_Qv (fun u : va_W => ((u = ((wW_k_X9_compileHeads ty X TT.2.2.2.2.2.2.2.2.1 kn on cu pu gw b_1 b_2 TT.2.2.2.2.2.2.2.2.2 b_p su TT.1 ob an ch cg fb mh ml ih lb ic TT.2.1 TT.2.2.1 TT.2.2.2.1 TT.2.2.2.2.1 TT.2.2.2.2.2.1 TT.2.2.2.2.2.2.1 TT.2.2.2.2.2.2.2.1) ++ pw ty pp)))) (wq_B D A) A) ([.ref (X 20), .ref a0, .int a1, .int a2, .int a3] : List Value).toArray s 0 0 A) (F0 m 115 ls [.int s0_115]) := by
            intro s0_115 hT  H locs hP hD hS ls hl
            rw [m_k_X9_compileHeads_115] at hT
            refine lv_istore (lv' := [(8, .int s0_115), (0, .ref (X 20)), (1, .ref a0), (2, .int a1), (3, .int a2), (4, .int a3), (5, .int v5_18), (6, .int v6_18), (7, .int (s0_90 - v6_18))]) hx hb dX9_compileHeads_115 hl (by decide) rfl (fun ls hl => ?_)
            refine lv_aload_n hx hb dX9_compileHeads_117 rfl (lv_at hl 2 rfl) ?_
            obtain ⟨k_7, hk_7⟩ := List.getElem?_of_mem (pw_rule (ty := ty) (p := pp) (L := [((X 8), .inr (5, [.ref (X 1), .ref (X 9), .ref (X 10), .ref (X 12), .ref (X 14), .int t_5.2.2.1, .ref (X 15), .ref (X 16), .ref (X 17), .int kn, .ref (X 18), .ref (X 19), .int on, .int cu, .int pu, .int gw])), ((X 9), .inr (4, [.int b_1, .int b_2, .int t_5.2.2.2, .int b_p])), ((X 10), .inr (3, [.ref (X 11)])), ((X 11), .inl (ty 1, 6, .inr (.inl su))), ((X 14), .inl (ty 0, 16, .inl t_5.2.1)), ((X 19), .inl (ty 0, 384, .inl ob)), ((X 20), .inr (11, [.ref (X 1), .ref (X 8), .ref (X 21), .ref (X 28), .ref (X 35), .int an, .ref (X 36), .ref (X 37), .ref (X 38), .int ch, .int cg, .int fb, .int mh, .int ml, .int ih, .int lb, .int ic])), ((X 21), .inr (9, [.ref (X 22), .ref (X 23), .ref (X 24), .ref (X 25), .ref (X 26), .ref (X 27), .int cn])), ((X 22), .inl (ty 0, 300, .inl c1)), ((X 23), .inl (ty 0, 300, .inl c2)), ((X 24), .inl (ty 0, 300, .inl c3)), ((X 25), .inl (ty 0, 300, .inl c4)), ((X 26), .inl (ty 0, 300, .inl c5)), ((X 27), .inl (ty 0, 300, .inl c6))]) hm_a0)
            refine va_getN (D := D) (ci := 10) (v := .int (pI pp a0 0)) (C := RX8) (T := TX8) (N := 11) hx hb hts iv_k_X9_compileHeads_X8 hown hK hP k_7 hk_7 rfl 0 (by decide) (hE.at (.fieldLinkNest "AnswerFold$Solver" 119 "AnswerFold$Rule" "kind" "C" "AnswerFold") (by decide +kernel)) (fun _ h9 => h9) rfl dX9_compileHeads_118 ?_
            refine lv_bipush (v := 100) hx hb dX9_compileHeads_121 (by decide) ?_
            have J_159 : ∀ (s0_159 : Int32), TT = m_k_X9_compileHeads_159 cn c1 c2 c3 c4 c5 c6 a1 a2 a3 s0_115 s0_90 t_5 v5_18 v6_18 s0_159 → s0_159 = 0 ∨ s0_159 = 1 → ∀ (H : Heap) (locs : List Loc), va_P D vwCl ((wW_k_X9_compileHeads ty X t_5.2.2.1 kn on cu pu gw b_1 b_2 t_5.2.2.2 b_p su t_5.2.1 ob an ch cg fb mh ml ih lb ic cn c1 c2 c3 c4 c5 c6) ++ pw ty pp) H → va_D A ((wW_k_X9_compileHeads ty X t_5.2.2.1 kn on cu pu gw b_1 b_2 t_5.2.2.2 b_p su t_5.2.1 ob an ch cg fb mh ml ih lb ic cn c1 c2 c3 c4 c5 c6) ++ pw ty pp) → va_S A s.heap H locs → ∀ ls : Array Slot, lv_has ls 10 [(0, .ref (X 20)), (2, .int a1), (3, .int a2), (4, .int a3), (5, .int v5_18), (7, .int (s0_90 - v6_18)), (8, .int s0_115)] → W p l e (headSpec vs_k_X9_compileHeads { frames := 3, cells := 0, slots := 0, locals := 71 }).room s m ([.ref (X 20), .ref a0, .int a1, .int a2, .int a3] : List Value).toArray below meth c H locs 0 0 (MQ below (va_Qv (fun u : va_W => ((u = ((wW_k_X9_compileHeads ty X TT.2.2.2.2.2.2.2.2.1 kn on cu pu gw b_1 b_2 TT.2.2.2.2.2.2.2.2.2 b_p su TT.1 ob an ch cg fb mh ml ih lb ic TT.2.1 TT.2.2.1 TT.2.2.2.1 TT.2.2.2.2.1 TT.2.2.2.2.2.1 TT.2.2.2.2.2.2.1 TT.2.2.2.2.2.2.2.1) ++ pw ty pp)))) (wq_B D A) A) ([.ref (X 20), .ref a0, .int a1, .int a2, .int a3] : List Value).toArray s 0 0 A) (F0 m 159 ls [.int s0_159]) := by
              intro s0_159 hT hb_s0_159 H locs hP hD hS ls hl
              rw [m_k_X9_compileHeads_159] at hT
              refine lv_istore (lv' := [(9, .int s0_159), (0, .ref (X 20)), (2, .int a1), (3, .int a2), (4, .int a3), (5, .int v5_18), (7, .int (s0_90 - v6_18)), (8, .int s0_115)]) hx hb dX9_compileHeads_159 hl (by decide) rfl (fun ls hl => ?_)
              refine lv_iload hx hb dX9_compileHeads_161 (lv_at hl 0 rfl) ?_
              refine lv_if_ne (tgt := 190) hx hb dX9_compileHeads_163 (by decide) (fun c_8 => ?_) (fun c_8 => ?_)
              · rw [if_neg c_8] at hT
                exact END t_5.2.1 cn c1 c2 c3 c4 c5 c6 t_5.2.2.1 t_5.2.2.2 hT _ _ hP hD hS _ _ dX9_compileHeads_190
              · rw [if_pos c_8] at hT
                refine lv_aload_n hx hb dX9_compileHeads_166 rfl (lv_at hl 1 rfl) ?_
                refine va_get (D := D) (ci := 11) (v := .ref (X 21)) (C := RX9) (T := TX9) (N := 17) hx hb hts iv_k_X9_compileHeads_X9 hown hK hP 6 rfl rfl 2 (by decide) (hts (.fieldLink RX9 12 "AnswerFold$Solver" "checks" "LAnswerFold$Rows;") (by decide +kernel)) (fun _ h9 => h9) rfl dX9_compileHeads_167 ?_
                refine lv_iload_n hx hb dX9_compileHeads_170 rfl (lv_at hl 2 rfl) ?_
                refine lv_iload_n hx hb dX9_compileHeads_171 rfl (lv_at hl 3 rfl) ?_
                refine lv_iload hx hb dX9_compileHeads_172 (lv_at hl 4 rfl) ?_
                obtain ⟨t_174, ht_174⟩ : ∃ t, t = m_k_X7_add cn c1 c2 c3 c4 c5 c6 a1 a2 a3 := ⟨_, rfl⟩
                rw [lE_eq ht_174] at hT
                refine wq_vQW (wc := (wW_k_X7_add ty (X 21) (X 22) (X 23) (X 24) (X 25) (X 26) (X 27) cn c1 c2 c3 c4 c5 c6)) (pl := pw ty pp) (va_runV (As := [.int a1, .int a2, .int a3]) (rest := []) ⟨hx, hb, hml, hown, hts⟩ (k_X7_add l D ty td mi H.size (X 21) (X 22) (X 23) (X 24) (X 25) (X 26) (X 27) cn c1 c2 c3 c4 c5 c6 a1 a2 a3 t_174 ht_174) (cwV 3 hts gv_k_X9_compileHeads_1 rfl rfl rfl (by decide +kernel) ⟨(Nat.le_of_ble_eq_true rfl), (Nat.le_of_ble_eq_true rfl)⟩) (wm_V (wm_preS (vP_left hP) (vD_left hD) hK hE hS hA [false, false, false, false, false, false, false, true, true, true, true, true, true, true] rfl) (va_recv (q0 := 7) (ci := 9) hK hP rfl rfl)) rfl rfl hl.1 rfl (lv_room (Nat.le_of_ble_eq_true rfl)) dX9_compileHeads_174 ⟨(Nat.le_of_ble_eq_true rfl), (Nat.le_of_ble_eq_true rfl)⟩) hS hA hP hD [false, false, false, false, false, false, false, true, true, true, true, true, true, true] rfl (fun _ h => by rcases h with rfl; rfl) (fun u H locs hw hP hD hS => ?_)
                obtain rfl := hw
                have hP : va_P D vwCl ((wW_k_X9_compileHeads ty X t_5.2.2.1 kn on cu pu gw b_1 b_2 t_5.2.2.2 b_p su t_5.2.1 ob an ch cg fb mh ml ih lb ic t_174.1 t_174.2.1 t_174.2.2.1 t_174.2.2.2.1 t_174.2.2.2.2.1 t_174.2.2.2.2.2.1 t_174.2.2.2.2.2.2) ++ pw ty pp) H := hP
                have hD : va_D A ((wW_k_X9_compileHeads ty X t_5.2.2.1 kn on cu pu gw b_1 b_2 t_5.2.2.2 b_p su t_5.2.1 ob an ch cg fb mh ml ih lb ic t_174.1 t_174.2.1 t_174.2.2.1 t_174.2.2.2.1 t_174.2.2.2.2.1 t_174.2.2.2.2.2.1 t_174.2.2.2.2.2.2) ++ pw ty pp) := hD
                refine W.widen (k := 0) (n := 0) (Nat.le_of_ble_eq_true rfl) (Nat.le_of_ble_eq_true rfl) ?_
                refine lv_aload_n hx hb dX9_compileHeads_177 rfl (lv_at hl 1 rfl) ?_
                refine va_get (D := D) (ci := 11) (v := .ref (X 21)) (C := RX9) (T := TX9) (N := 17) hx hb hts iv_k_X9_compileHeads_X9 hown hK hP 6 rfl rfl 2 (by decide) (hts (.fieldLink RX9 12 "AnswerFold$Solver" "checks" "LAnswerFold$Rows;") (by decide +kernel)) (fun _ h9 => h9) rfl dX9_compileHeads_178 ?_
                refine lv_iload hx hb dX9_compileHeads_181 (lv_at hl 5 rfl) ?_
                refine lv_iload hx hb dX9_compileHeads_183 (lv_at hl 6 rfl) ?_
                refine lv_iload hx hb dX9_compileHeads_185 (lv_at hl 7 rfl) ?_
                obtain ⟨t_187, ht_187⟩ : ∃ t, t = m_k_X7_boundLast t_174.1 t_174.2.2.2.2.1 t_174.2.2.2.2.2.1 t_174.2.2.2.2.2.2 v5_18 (s0_90 - v6_18) s0_115 := ⟨_, rfl⟩
                rw [lE_eq ht_187] at hT
                refine wq_vQW (wc := (wW_k_X7_boundLast ty (X 21) (X 22) (X 23) (X 24) (X 25) (X 26) (X 27) t_174.1 t_174.2.2.2.2.1 t_174.2.2.2.2.2.1 t_174.2.2.2.2.2.2)) (pl := pw ty pp) (va_runV (As := [.int v5_18, .int (s0_90 - v6_18), .int s0_115]) (rest := []) ⟨hx, hb, hml, hown, hts⟩ (k_X7_boundLast l D ty td mi H.size (X 21) (X 22) (X 23) (X 24) (X 25) (X 26) (X 27) t_174.1 t_174.2.2.2.2.1 t_174.2.2.2.2.2.1 t_174.2.2.2.2.2.2 v5_18 (s0_90 - v6_18) s0_115 t_187 ht_187) (cwV 3 hts gv_k_X9_compileHeads_2 rfl rfl rfl (by decide +kernel) ⟨(Nat.le_of_ble_eq_true rfl), (Nat.le_of_ble_eq_true rfl)⟩) (wm_V (wm_preS (vP_left hP) (vD_left hD) hK hE hS hA [false, false, false, false, false, false, false, true, false, false, false, true, true, true] rfl) (va_recv (q0 := 7) (ci := 9) hK hP rfl rfl)) rfl rfl hl.1 rfl (lv_room (Nat.le_of_ble_eq_true rfl)) dX9_compileHeads_187 ⟨(Nat.le_of_ble_eq_true rfl), (Nat.le_of_ble_eq_true rfl)⟩) hS hA hP hD [false, false, false, false, false, false, false, true, false, false, false, true, true, true] rfl (fun _ h => by rcases h with rfl; rfl) (fun u H locs hw hP hD hS => ?_)
                obtain rfl := hw
                have hP : va_P D vwCl ((wW_k_X9_compileHeads ty X t_5.2.2.1 kn on cu pu gw b_1 b_2 t_5.2.2.2 b_p su t_5.2.1 ob an ch cg fb mh ml ih lb ic t_174.1 t_174.2.1 t_174.2.2.1 t_174.2.2.2.1 t_187.1 t_187.2.1 t_187.2.2) ++ pw ty pp) H := hP
                have hD : va_D A ((wW_k_X9_compileHeads ty X t_5.2.2.1 kn on cu pu gw b_1 b_2 t_5.2.2.2 b_p su t_5.2.1 ob an ch cg fb mh ml ih lb ic t_174.1 t_174.2.1 t_174.2.2.1 t_174.2.2.2.1 t_187.1 t_187.2.1 t_187.2.2) ++ pw ty pp) := hD
                refine W.widen (k := 0) (n := 0) (Nat.le_of_ble_eq_true rfl) (Nat.le_of_ble_eq_true rfl) ?_
                exact END t_5.2.1 t_174.1 t_174.2.1 t_174.2.2.1 t_174.2.2.2.1 t_187.1 t_187.2.1 t_187.2.2 t_5.2.2.1 t_5.2.2.2 hT _ _ hP hD hS _ _ dX9_compileHeads_190
            refine lv_icmp_ne (tgt := 139) hx hb dX9_compileHeads_123 (by decide) (fun c_13 => ?_) (fun c_13 => ?_)
            · rw [if_neg c_13] at hT
              refine lv_iload hx hb dX9_compileHeads_139 (lv_at hl 6 rfl) ?_
              have J_158 : ∀ (_ : Unit), TT = m_k_X9_compileHeads_158 cn c1 c2 c3 c4 c5 c6 a1 a2 a3 s0_115 s0_90 t_5 v5_18 v6_18 → ∀ (H : Heap) (locs : List Loc), va_P D vwCl ((wW_k_X9_compileHeads ty X t_5.2.2.1 kn on cu pu gw b_1 b_2 t_5.2.2.2 b_p su t_5.2.1 ob an ch cg fb mh ml ih lb ic cn c1 c2 c3 c4 c5 c6) ++ pw ty pp) H → va_D A ((wW_k_X9_compileHeads ty X t_5.2.2.1 kn on cu pu gw b_1 b_2 t_5.2.2.2 b_p su t_5.2.1 ob an ch cg fb mh ml ih lb ic cn c1 c2 c3 c4 c5 c6) ++ pw ty pp) → va_S A s.heap H locs → ∀ ls : Array Slot, lv_has ls 10 [(0, .ref (X 20)), (2, .int a1), (3, .int a2), (4, .int a3), (5, .int v5_18), (7, .int (s0_90 - v6_18)), (8, .int s0_115)] → W p l e (headSpec vs_k_X9_compileHeads { frames := 3, cells := 0, slots := 0, locals := 71 }).room s m ([.ref (X 20), .ref a0, .int a1, .int a2, .int a3] : List Value).toArray below meth c H locs 0 0 (MQ below (va_Qv (fun u : va_W => ((u = ((wW_k_X9_compileHeads ty X TT.2.2.2.2.2.2.2.2.1 kn on cu pu gw b_1 b_2 TT.2.2.2.2.2.2.2.2.2 b_p su TT.1 ob an ch cg fb mh ml ih lb ic TT.2.1 TT.2.2.1 TT.2.2.2.1 TT.2.2.2.2.1 TT.2.2.2.2.2.1 TT.2.2.2.2.2.2.1 TT.2.2.2.2.2.2.2.1) ++ pw ty pp)))) (wq_B D A) A) ([.ref (X 20), .ref a0, .int a1, .int a2, .int a3] : List Value).toArray s 0 0 A) (F0 m 158 ls []) := by
                intro _ hT  H locs hP hD hS ls hl
                rw [m_k_X9_compileHeads_158] at hT
                refine lv_iconst (v := 0) hx hb dX9_compileHeads_158 (by decide) ?_
                exact J_159 0 hT (by decide) _ _ hP hD hS _ (lv_sub hl [0, 1, 2, 3, 4, 5, 6] rfl)
              refine lv_if_ne (tgt := 158) hx hb dX9_compileHeads_141 (by decide) (fun c_14 => ?_) (fun c_14 => ?_)
              · rw [if_neg c_14] at hT
                exact J_158 () hT _ _ hP hD hS _ (lv_sub hl [1, 3, 4, 5, 6, 8, 0] rfl)
              · rw [if_pos c_14] at hT
                refine lv_iload hx hb dX9_compileHeads_144 (lv_at hl 8 rfl) ?_
                refine lv_if_gt (tgt := 158) hx hb dX9_compileHeads_146 (by decide) (fun c_15 => ?_) (fun c_15 => ?_)
                · rw [if_pos c_15] at hT
                  exact J_158 () hT _ _ hP hD hS _ (lv_sub hl [1, 3, 4, 5, 6, 8, 0] rfl)
                · rw [if_neg c_15] at hT
                  refine lv_iload hx hb dX9_compileHeads_149 (lv_at hl 0 rfl) ?_
                  refine lv_if_lt (tgt := 158) hx hb dX9_compileHeads_151 (by decide) (fun c_16 => ?_) (fun c_16 => ?_)
                  · rw [if_pos c_16] at hT
                    exact J_158 () hT _ _ hP hD hS _ (lv_sub hl [1, 3, 4, 5, 6, 8, 0] rfl)
                  · rw [if_neg c_16] at hT
                    refine lv_iconst (v := 1) hx hb dX9_compileHeads_154 (by decide) ?_
                    refine lv_goto (tgt := 159) hx hb dX9_compileHeads_155 (by decide) ?_
                    exact J_159 1 hT (by decide) _ _ hP hD hS _ (lv_sub hl [1, 3, 4, 5, 6, 8, 0] rfl)
            · rw [if_pos c_13] at hT
              refine lv_iload hx hb dX9_compileHeads_126 (lv_at hl 7 rfl) ?_
              refine lv_if_le (tgt := 135) hx hb dX9_compileHeads_128 (by decide) (fun c_17 => ?_) (fun c_17 => ?_)
              · rw [if_pos c_17] at hT
                refine lv_iconst (v := 0) hx hb dX9_compileHeads_135 (by decide) ?_
                refine lv_goto (tgt := 159) hx hb dX9_compileHeads_136 (by decide) ?_
                exact J_159 0 hT (by decide) _ _ hP hD hS _ (lv_sub hl [1, 3, 4, 5, 6, 8, 0] rfl)
              · rw [if_neg c_17] at hT
                refine lv_iconst (v := 1) hx hb dX9_compileHeads_131 (by decide) ?_
                refine lv_goto (tgt := 159) hx hb dX9_compileHeads_132 (by decide) ?_
                exact J_159 1 hT (by decide) _ _ hP hD hS _ (lv_sub hl [1, 3, 4, 5, 6, 8, 0] rfl)
          refine lv_icmp_ne (tgt := 108) hx hb dX9_compileHeads_101 (by decide) (fun c_18 => ?_) (fun c_18 => ?_)
          · rw [if_neg c_18] at hT
            refine lv_aload_n hx hb dX9_compileHeads_108 rfl (lv_at hl 2 rfl) ?_
            obtain ⟨k_19, hk_19⟩ := List.getElem?_of_mem (pw_rule (ty := ty) (p := pp) (L := [((X 8), .inr (5, [.ref (X 1), .ref (X 9), .ref (X 10), .ref (X 12), .ref (X 14), .int t_5.2.2.1, .ref (X 15), .ref (X 16), .ref (X 17), .int kn, .ref (X 18), .ref (X 19), .int on, .int cu, .int pu, .int gw])), ((X 9), .inr (4, [.int b_1, .int b_2, .int t_5.2.2.2, .int b_p])), ((X 10), .inr (3, [.ref (X 11)])), ((X 11), .inl (ty 1, 6, .inr (.inl su))), ((X 14), .inl (ty 0, 16, .inl t_5.2.1)), ((X 19), .inl (ty 0, 384, .inl ob)), ((X 20), .inr (11, [.ref (X 1), .ref (X 8), .ref (X 21), .ref (X 28), .ref (X 35), .int an, .ref (X 36), .ref (X 37), .ref (X 38), .int ch, .int cg, .int fb, .int mh, .int ml, .int ih, .int lb, .int ic])), ((X 21), .inr (9, [.ref (X 22), .ref (X 23), .ref (X 24), .ref (X 25), .ref (X 26), .ref (X 27), .int cn])), ((X 22), .inl (ty 0, 300, .inl c1)), ((X 23), .inl (ty 0, 300, .inl c2)), ((X 24), .inl (ty 0, 300, .inl c3)), ((X 25), .inl (ty 0, 300, .inl c4)), ((X 26), .inl (ty 0, 300, .inl c5)), ((X 27), .inl (ty 0, 300, .inl c6))]) hm_a0)
            refine va_getN (D := D) (ci := 10) (v := .int (pI pp a0 3)) (C := RX8) (T := TX8) (N := 11) hx hb hts iv_k_X9_compileHeads_X8 hown hK hP k_19 hk_19 rfl 3 (by decide) (hE.at (.fieldLinkNest "AnswerFold$Solver" 176 "AnswerFold$Rule" "upper" "I" "AnswerFold") (by decide +kernel)) (fun _ h9 => h9) rfl dX9_compileHeads_109 ?_
            refine lv_iload hx hb dX9_compileHeads_112 (lv_at hl 7 rfl) ?_
            refine lv_isub hx hb dX9_compileHeads_114 ?_
            exact J_115 ((pI pp a0 3) - v6_18) hT _ _ hP hD hS _ (lv_sub hl [1, 2, 3, 4, 5, 6, 7, 0] rfl)
          · rw [if_pos c_18] at hT
            refine lv_iconst (v := 2) hx hb dX9_compileHeads_104 (by decide) ?_
            refine lv_goto (tgt := 115) hx hb dX9_compileHeads_105 (by decide) ?_
            exact J_115 2 hT _ _ hP hD hS _ (lv_sub hl [1, 2, 3, 4, 5, 6, 7, 0] rfl)
        refine lv_icmp_ne (tgt := 86) hx hb dX9_compileHeads_79 (by decide) (fun c_20 => ?_) (fun c_20 => ?_)
        · rw [if_neg c_20] at hT
          refine lv_aload_n hx hb dX9_compileHeads_86 rfl (lv_at hl 1 rfl) ?_
          obtain ⟨k_21, hk_21⟩ := List.getElem?_of_mem (pw_rule (ty := ty) (p := pp) (L := [((X 8), .inr (5, [.ref (X 1), .ref (X 9), .ref (X 10), .ref (X 12), .ref (X 14), .int t_5.2.2.1, .ref (X 15), .ref (X 16), .ref (X 17), .int kn, .ref (X 18), .ref (X 19), .int on, .int cu, .int pu, .int gw])), ((X 9), .inr (4, [.int b_1, .int b_2, .int t_5.2.2.2, .int b_p])), ((X 10), .inr (3, [.ref (X 11)])), ((X 11), .inl (ty 1, 6, .inr (.inl su))), ((X 14), .inl (ty 0, 16, .inl t_5.2.1)), ((X 19), .inl (ty 0, 384, .inl ob)), ((X 20), .inr (11, [.ref (X 1), .ref (X 8), .ref (X 21), .ref (X 28), .ref (X 35), .int an, .ref (X 36), .ref (X 37), .ref (X 38), .int ch, .int cg, .int fb, .int mh, .int ml, .int ih, .int lb, .int ic])), ((X 21), .inr (9, [.ref (X 22), .ref (X 23), .ref (X 24), .ref (X 25), .ref (X 26), .ref (X 27), .int cn])), ((X 22), .inl (ty 0, 300, .inl c1)), ((X 23), .inl (ty 0, 300, .inl c2)), ((X 24), .inl (ty 0, 300, .inl c3)), ((X 25), .inl (ty 0, 300, .inl c4)), ((X 26), .inl (ty 0, 300, .inl c5)), ((X 27), .inl (ty 0, 300, .inl c6))]) hm_a0)
          refine va_getN (D := D) (ci := 10) (v := .int (pI pp a0 2)) (C := RX8) (T := TX8) (N := 11) hx hb hts iv_k_X9_compileHeads_X8 hown hK hP k_21 hk_21 rfl 2 (by decide) (hE.at (.fieldLinkNest "AnswerFold$Solver" 173 "AnswerFold$Rule" "lower" "I" "AnswerFold") (by decide +kernel)) (fun _ h9 => h9) rfl dX9_compileHeads_87 ?_
          exact J_90 (pI pp a0 2) hT _ _ hP hD hS _ (lv_sub hl [0, 1, 2, 3, 4, 5, 6] rfl)
        · rw [if_pos c_20] at hT
          refine lv_iconst (v := 1) hx hb dX9_compileHeads_82 (by decide) ?_
          refine lv_goto (tgt := 90) hx hb dX9_compileHeads_83 (by decide) ?_
          exact J_90 1 hT _ _ hP hD hS _ (lv_sub hl [0, 1, 2, 3, 4, 5, 6] rfl)
      · rw [if_neg c_4] at hT
        refine lv_aload_n hx hb dX9_compileHeads_30 rfl (lv_at hl 0 rfl) ?_
        refine lv_aload_n hx hb dX9_compileHeads_31 rfl (lv_at hl 0 rfl) ?_
        refine va_get (D := D) (ci := 11) (v := .ref (X 8)) (C := RX9) (T := TX9) (N := 17) hx hb hts iv_k_X9_compileHeads_X9 hown hK hP 6 rfl rfl 1 (by decide) (hts (.fieldLink RX9 38 "AnswerFold$Solver" "grounding" "LAnswerFold$Grounding;") (by decide +kernel)) (fun _ h9 => h9) rfl dX9_compileHeads_32 ?_
        refine lv_iload hx hb dX9_compileHeads_35 (lv_at hl 7 rfl) ?_
        obtain ⟨t_37, ht_37⟩ : ∃ t, t = m_k_X3_headAtomAt t_5.2.1 v7_18 := ⟨_, rfl⟩
        rw [lE_eq ht_37] at hT
        refine wq_iQW (wc := (wW_k_X3_headAtomAt ty X t_5.2.2.1 kn on cu pu gw t_5.2.1)) (pl := pw ty pp) (va_runV (As := [.int v7_18]) (rest := [.ref (X 20)]) ⟨hx, hb, hml, hown, hts⟩ (k_X3_headAtomAt l D ty td mi H.size X t_5.2.2.1 kn on cu pu gw t_5.2.1 v7_18 t_37 ht_37) (cwV 1 hts gv_k_X9_compileHeads_3 rfl rfl rfl (by decide +kernel) ⟨(Nat.le_of_ble_eq_true rfl), (Nat.le_of_ble_eq_true rfl)⟩) (wm_V (wm_preS (vP_left hP) (vD_left hD) hK hE hS hA [true, false, false, false, true] rfl) (va_recv (q0 := 0) (ci := 5) hK hP rfl rfl)) rfl rfl hl.1 rfl (lv_room (Nat.le_of_ble_eq_true rfl)) dX9_compileHeads_37 ⟨(Nat.le_of_ble_eq_true rfl), (Nat.le_of_ble_eq_true rfl)⟩) hS hA hP hD [true, false, false, false, true] rfl (fun _ _ h => by rcases h with ⟨-, rfl⟩; rfl) (fun r u H locs hw hP hD hS => ?_)
        obtain ⟨hr0, rfl⟩ := hw
        subst r
        have hP : va_P D vwCl ((wW_k_X9_compileHeads ty X t_5.2.2.1 kn on cu pu gw b_1 b_2 t_5.2.2.2 b_p su t_5.2.1 ob an ch cg fb mh ml ih lb ic cn c1 c2 c3 c4 c5 c6) ++ pw ty pp) H := hP
        have hD : va_D A ((wW_k_X9_compileHeads ty X t_5.2.2.1 kn on cu pu gw b_1 b_2 t_5.2.2.2 b_p su t_5.2.1 ob an ch cg fb mh ml ih lb ic cn c1 c2 c3 c4 c5 c6) ++ pw ty pp) := hD
        refine W.widen (k := 0) (n := 0) (Nat.le_of_ble_eq_true rfl) (Nat.le_of_ble_eq_true rfl) ?_
        obtain ⟨t_40, ht_40⟩ : ∃ t, t = m_k_X9_bitOf on ob t_37 := ⟨_, rfl⟩
        rw [lE_eq ht_40] at hT
        refine wq_iQW (wc := (wW_k_X9_bitOf ty X t_5.2.2.1 kn on cu pu gw ob an ch cg fb mh ml ih lb ic)) (pl := pw ty pp) (va_runV (As := [.int t_37]) (rest := []) ⟨hx, hb, hml, hown, hts⟩ (k_X9_bitOf l D ty td mi H.size X t_5.2.2.1 kn on cu pu gw ob an ch cg fb mh ml ih lb ic t_37 t_40 ht_40) (cwV 1 hts gv_k_X9_compileHeads_4 rfl rfl rfl (by decide +kernel) ⟨(Nat.le_of_ble_eq_true rfl), (Nat.le_of_ble_eq_true rfl)⟩) (wm_V (wm_preS (vP_left hP) (vD_left hD) hK hE hS hA [true, false, false, false, false, true, true] rfl) (va_recv (q0 := 6) (ci := 11) hK hP rfl rfl)) rfl rfl hl.1 rfl (lv_room (Nat.le_of_ble_eq_true rfl)) dX9_compileHeads_40 ⟨(Nat.le_of_ble_eq_true rfl), (Nat.le_of_ble_eq_true rfl)⟩) hS hA hP hD [true, false, false, false, false, true, true] rfl (fun _ _ h => by rcases h with ⟨-, rfl⟩; rfl) (fun r u H locs hw hP hD hS => ?_)
        obtain ⟨hr0, rfl⟩ := hw
        subst r
        have hP : va_P D vwCl ((wW_k_X9_compileHeads ty X t_5.2.2.1 kn on cu pu gw b_1 b_2 t_5.2.2.2 b_p su t_5.2.1 ob an ch cg fb mh ml ih lb ic cn c1 c2 c3 c4 c5 c6) ++ pw ty pp) H := hP
        have hD : va_D A ((wW_k_X9_compileHeads ty X t_5.2.2.1 kn on cu pu gw b_1 b_2 t_5.2.2.2 b_p su t_5.2.1 ob an ch cg fb mh ml ih lb ic cn c1 c2 c3 c4 c5 c6) ++ pw ty pp) := hD
        refine W.widen (k := 0) (n := 0) (Nat.le_of_ble_eq_true rfl) (Nat.le_of_ble_eq_true rfl) ?_
        refine lv_istore (lv' := [(8, .int t_40), (0, .ref (X 20)), (1, .ref a0), (2, .int a1), (3, .int a2), (4, .int a3), (5, .int v5_18), (6, .int v6_18), (7, .int v7_18)]) hx hb dX9_compileHeads_43 hl (by decide) rfl (fun ls hl => ?_)
        refine lv_iload hx hb dX9_compileHeads_45 (lv_at hl 6 rfl) ?_
        refine lv_iload hx hb dX9_compileHeads_47 (lv_at hl 0 rfl) ?_
        refine lv_ior hx hb dX9_compileHeads_49 ?_
        refine lv_istore (lv' := [(5, .int (v5_18 ||| t_40)), (8, .int t_40), (0, .ref (X 20)), (1, .ref a0), (2, .int a1), (3, .int a2), (4, .int a3), (6, .int v6_18), (7, .int v7_18)]) hx hb dX9_compileHeads_50 hl (by decide) rfl (fun ls hl => ?_)
        refine lv_iload hx hb dX9_compileHeads_52 (lv_at hl 7 rfl) ?_
        refine lv_iload hx hb dX9_compileHeads_54 (lv_at hl 1 rfl) ?_
        have J_64 : ∀ (s0_64 : Int32), TT = m_k_X9_compileHeads_64 (m_k_X9_compileHeads_18 pp on ob cn c1 c2 c3 c4 c5 c6 a0 a1 a2 a3 t_5 n_18) t_40 v5_18 v6_18 v7_18 s0_64 → s0_64 = 0 ∨ s0_64 = 1 → ∀ (H : Heap) (locs : List Loc), va_P D vwCl ((wW_k_X9_compileHeads ty X t_5.2.2.1 kn on cu pu gw b_1 b_2 t_5.2.2.2 b_p su t_5.2.1 ob an ch cg fb mh ml ih lb ic cn c1 c2 c3 c4 c5 c6) ++ pw ty pp) H → va_D A ((wW_k_X9_compileHeads ty X t_5.2.2.1 kn on cu pu gw b_1 b_2 t_5.2.2.2 b_p su t_5.2.1 ob an ch cg fb mh ml ih lb ic cn c1 c2 c3 c4 c5 c6) ++ pw ty pp) → va_S A s.heap H locs → ∀ ls : Array Slot, lv_has ls 10 [(0, .ref (X 20)), (1, .ref a0), (2, .int a1), (3, .int a2), (4, .int a3), (5, .int (v5_18 ||| t_40)), (7, .int v7_18)] → W p l e (headSpec vs_k_X9_compileHeads { frames := 3, cells := 0, slots := 0, locals := 71 }).room s m ([.ref (X 20), .ref a0, .int a1, .int a2, .int a3] : List Value).toArray below meth c H locs 0 0 (MQ below (va_Qv (fun u : va_W => ((u = ((wW_k_X9_compileHeads ty X TT.2.2.2.2.2.2.2.2.1 kn on cu pu gw b_1 b_2 TT.2.2.2.2.2.2.2.2.2 b_p su TT.1 ob an ch cg fb mh ml ih lb ic TT.2.1 TT.2.2.1 TT.2.2.2.1 TT.2.2.2.2.1 TT.2.2.2.2.2.1 TT.2.2.2.2.2.2.1 TT.2.2.2.2.2.2.2.1) ++ pw ty pp)))) (wq_B D A) A) ([.ref (X 20), .ref a0, .int a1, .int a2, .int a3] : List Value).toArray s 0 0 A) (F0 m 64 ls [.int s0_64, .int v6_18]) := by
          intro s0_64 hT hb_s0_64 H locs hP hD hS ls hl
          rw [m_k_X9_compileHeads_64] at hT
          refine lv_iadd hx hb dX9_compileHeads_64 ?_
          refine lv_istore (lv' := [(6, .int (v6_18 + s0_64)), (0, .ref (X 20)), (1, .ref a0), (2, .int a1), (3, .int a2), (4, .int a3), (5, .int (v5_18 ||| t_40)), (7, .int v7_18)]) hx hb dX9_compileHeads_65 hl (by decide) rfl (fun ls hl => ?_)
          refine lv_iinc (v := v7_18 + 1) (lv' := [(7, .int (v7_18 + 1)), (6, .int (v6_18 + s0_64)), (0, .ref (X 20)), (1, .ref a0), (2, .int a1), (3, .int a2), (4, .int a3), (5, .int (v5_18 ||| t_40))]) hx hb dX9_compileHeads_67 hl (k := 7) rfl (by rfl) (by decide) rfl (fun ls hl => ?_)
          refine lv_goto (tgt := 18) hx hb dX9_compileHeads_70 (by decide) ?_
          exact ih_18 (v5_18 ||| t_40) (v6_18 + s0_64) (v7_18 + 1) (wi_up hu_18 (Int32.not_le.mp c_4)) hT (wi_inc hn_18 (Int32.not_le.mp c_4)) _ _ hP hD hS _ (lv_sub hl [2, 3, 4, 5, 6, 7, 1, 0] rfl)
        refine lv_if_ne (tgt := 63) hx hb dX9_compileHeads_56 (by decide) (fun c_26 => ?_) (fun c_26 => ?_)
        · rw [if_neg c_26] at hT
          refine lv_iconst (v := 0) hx hb dX9_compileHeads_63 (by decide) ?_
          exact J_64 0 hT (by decide) _ _ hP hD hS _ (lv_sub hl [2, 3, 4, 5, 6, 0, 8] rfl)
        · rw [if_pos c_26] at hT
          refine lv_iconst (v := 1) hx hb dX9_compileHeads_59 (by decide) ?_
          refine lv_goto (tgt := 64) hx hb dX9_compileHeads_60 (by decide) ?_
          exact J_64 1 hT (by decide) _ _ hP hD hS _ (lv_sub hl [2, 3, 4, 5, 6, 0, 8] rfl)
  exact L_18 wF 0 0 0 (wF_up 0) hT (by decide) _ _ hP hD hS _ (lv_sub hl [3, 4, 5, 6, 7, 2, 1, 0] rfl)
theorem dX9_compileInstance_0 : decode cX9_compileInstance 0 = .ok (.aload_n 0, 1) := by decide +kernel
theorem dX9_compileInstance_1 : decode cX9_compileInstance 1 = .ok (.getfield 38, 3) := by decide +kernel
theorem dX9_compileInstance_4 : decode cX9_compileInstance 4 = .ok (.iload_n 1, 1) := by decide +kernel
theorem dX9_compileInstance_5 : decode cX9_compileInstance 5 = .ok (.invokevirtual 129, 3) := by decide +kernel
theorem dX9_compileInstance_8 : decode cX9_compileInstance 8 = .ok (.astore_n 2, 1) := by decide +kernel
theorem dX9_compileInstance_9 : decode cX9_compileInstance 9 = .ok (.aload_n 2, 1) := by decide +kernel
theorem dX9_compileInstance_10 : decode cX9_compileInstance 10 = .ok (.ifnonnull 4, 3) := by decide +kernel
theorem dX9_compileInstance_13 : decode cX9_compileInstance 13 = .ok (.return_, 1) := by decide +kernel
theorem dX9_compileInstance_14 : decode cX9_compileInstance 14 = .ok (.iconst 0, 1) := by decide +kernel
theorem dX9_compileInstance_15 : decode cX9_compileInstance 15 = .ok (.istore_n 3, 1) := by decide +kernel
theorem dX9_compileInstance_16 : decode cX9_compileInstance 16 = .ok (.iconst 0, 1) := by decide +kernel
theorem dX9_compileInstance_17 : decode cX9_compileInstance 17 = .ok (.istore 4, 2) := by decide +kernel
theorem dX9_compileInstance_19 : decode cX9_compileInstance 19 = .ok (.iconst 0, 1) := by decide +kernel
theorem dX9_compileInstance_20 : decode cX9_compileInstance 20 = .ok (.istore 5, 2) := by decide +kernel
theorem dX9_compileInstance_22 : decode cX9_compileInstance 22 = .ok (.iload 5, 2) := by decide +kernel
theorem dX9_compileInstance_24 : decode cX9_compileInstance 24 = .ok (.aload_n 2, 1) := by decide +kernel
theorem dX9_compileInstance_25 : decode cX9_compileInstance 25 = .ok (.getfield 132, 3) := by decide +kernel
theorem dX9_compileInstance_28 : decode cX9_compileInstance 28 = .ok (.if_icmp .ge 90, 3) := by decide +kernel
theorem dX9_compileInstance_31 : decode cX9_compileInstance 31 = .ok (.aload_n 2, 1) := by decide +kernel
theorem dX9_compileInstance_32 : decode cX9_compileInstance 32 = .ok (.iload 5, 2) := by decide +kernel
theorem dX9_compileInstance_34 : decode cX9_compileInstance 34 = .ok (.invokevirtual 135, 3) := by decide +kernel
theorem dX9_compileInstance_37 : decode cX9_compileInstance 37 = .ok (.astore 6, 2) := by decide +kernel
theorem dX9_compileInstance_39 : decode cX9_compileInstance 39 = .ok (.aload 6, 2) := by decide +kernel
theorem dX9_compileInstance_41 : decode cX9_compileInstance 41 = .ok (.ifnull 35, 3) := by decide +kernel
theorem dX9_compileInstance_44 : decode cX9_compileInstance 44 = .ok (.aload 6, 2) := by decide +kernel
theorem dX9_compileInstance_46 : decode cX9_compileInstance 46 = .ok (.getfield 139, 3) := by decide +kernel
theorem dX9_compileInstance_49 : decode cX9_compileInstance 49 = .ok (.bipush 116, 2) := by decide +kernel
theorem dX9_compileInstance_51 : decode cX9_compileInstance 51 = .ok (.if_icmp .ne 25, 3) := by decide +kernel
theorem dX9_compileInstance_54 : decode cX9_compileInstance 54 = .ok (.iload_n 3, 1) := by decide +kernel
theorem dX9_compileInstance_55 : decode cX9_compileInstance 55 = .ok (.aload_n 0, 1) := by decide +kernel
theorem dX9_compileInstance_56 : decode cX9_compileInstance 56 = .ok (.aload_n 0, 1) := by decide +kernel
theorem dX9_compileInstance_57 : decode cX9_compileInstance 57 = .ok (.getfield 38, 3) := by decide +kernel
theorem dX9_compileInstance_60 : decode cX9_compileInstance 60 = .ok (.getfield 142, 3) := by decide +kernel
theorem dX9_compileInstance_63 : decode cX9_compileInstance 63 = .ok (.aload 6, 2) := by decide +kernel
theorem dX9_compileInstance_65 : decode cX9_compileInstance 65 = .ok (.invokevirtual 146, 3) := by decide +kernel
theorem dX9_compileInstance_68 : decode cX9_compileInstance 68 = .ok (.invokevirtual 72, 3) := by decide +kernel
theorem dX9_compileInstance_71 : decode cX9_compileInstance 71 = .ok (.ior, 1) := by decide +kernel
theorem dX9_compileInstance_72 : decode cX9_compileInstance 72 = .ok (.istore_n 3, 1) := by decide +kernel
theorem dX9_compileInstance_73 : decode cX9_compileInstance 73 = .ok (.goto 39, 3) := by decide +kernel
theorem dX9_compileInstance_76 : decode cX9_compileInstance 76 = .ok (.aload 6, 2) := by decide +kernel
theorem dX9_compileInstance_78 : decode cX9_compileInstance 78 = .ok (.ifnull 34, 3) := by decide +kernel
theorem dX9_compileInstance_81 : decode cX9_compileInstance 81 = .ok (.aload 6, 2) := by decide +kernel
theorem dX9_compileInstance_83 : decode cX9_compileInstance 83 = .ok (.getfield 139, 3) := by decide +kernel
theorem dX9_compileInstance_86 : decode cX9_compileInstance 86 = .ok (.bipush 102, 2) := by decide +kernel
theorem dX9_compileInstance_88 : decode cX9_compileInstance 88 = .ok (.if_icmp .ne 24, 3) := by decide +kernel
theorem dX9_compileInstance_91 : decode cX9_compileInstance 91 = .ok (.iload 4, 2) := by decide +kernel
theorem dX9_compileInstance_93 : decode cX9_compileInstance 93 = .ok (.aload_n 0, 1) := by decide +kernel
theorem dX9_compileInstance_94 : decode cX9_compileInstance 94 = .ok (.aload_n 0, 1) := by decide +kernel
theorem dX9_compileInstance_95 : decode cX9_compileInstance 95 = .ok (.getfield 38, 3) := by decide +kernel
theorem dX9_compileInstance_98 : decode cX9_compileInstance 98 = .ok (.getfield 142, 3) := by decide +kernel
theorem dX9_compileInstance_101 : decode cX9_compileInstance 101 = .ok (.aload 6, 2) := by decide +kernel
theorem dX9_compileInstance_103 : decode cX9_compileInstance 103 = .ok (.invokevirtual 146, 3) := by decide +kernel
theorem dX9_compileInstance_106 : decode cX9_compileInstance 106 = .ok (.invokevirtual 72, 3) := by decide +kernel
theorem dX9_compileInstance_109 : decode cX9_compileInstance 109 = .ok (.ior, 1) := by decide +kernel
theorem dX9_compileInstance_110 : decode cX9_compileInstance 110 = .ok (.istore 4, 2) := by decide +kernel
theorem dX9_compileInstance_112 : decode cX9_compileInstance 112 = .ok (.iinc 5 1, 3) := by decide +kernel
theorem dX9_compileInstance_115 : decode cX9_compileInstance 115 = .ok (.goto (-93), 3) := by decide +kernel
theorem dX9_compileInstance_118 : decode cX9_compileInstance 118 = .ok (.iload_n 3, 1) := by decide +kernel
theorem dX9_compileInstance_119 : decode cX9_compileInstance 119 = .ok (.iload 4, 2) := by decide +kernel
theorem dX9_compileInstance_121 : decode cX9_compileInstance 121 = .ok (.iand, 1) := by decide +kernel
theorem dX9_compileInstance_122 : decode cX9_compileInstance 122 = .ok (.ifCond .eq 4, 3) := by decide +kernel
theorem dX9_compileInstance_125 : decode cX9_compileInstance 125 = .ok (.return_, 1) := by decide +kernel
theorem dX9_compileInstance_126 : decode cX9_compileInstance 126 = .ok (.aload_n 2, 1) := by decide +kernel
theorem dX9_compileInstance_127 : decode cX9_compileInstance 127 = .ok (.getfield 119, 3) := by decide +kernel
theorem dX9_compileInstance_130 : decode cX9_compileInstance 130 = .ok (.bipush 119, 2) := by decide +kernel
theorem dX9_compileInstance_132 : decode cX9_compileInstance 132 = .ok (.if_icmp .ne 24, 3) := by decide +kernel
theorem dX9_compileInstance_135 : decode cX9_compileInstance 135 = .ok (.aload_n 0, 1) := by decide +kernel
theorem dX9_compileInstance_136 : decode cX9_compileInstance 136 = .ok (.getfield 18, 3) := by decide +kernel
theorem dX9_compileInstance_139 : decode cX9_compileInstance 139 = .ok (.aload_n 0, 1) := by decide +kernel
theorem dX9_compileInstance_140 : decode cX9_compileInstance 140 = .ok (.getfield 38, 3) := by decide +kernel
theorem dX9_compileInstance_143 : decode cX9_compileInstance 143 = .ok (.iload_n 1, 1) := by decide +kernel
theorem dX9_compileInstance_144 : decode cX9_compileInstance 144 = .ok (.invokevirtual 152, 3) := by decide +kernel
theorem dX9_compileInstance_147 : decode cX9_compileInstance 147 = .ok (.iload_n 3, 1) := by decide +kernel
theorem dX9_compileInstance_148 : decode cX9_compileInstance 148 = .ok (.iload 4, 2) := by decide +kernel
theorem dX9_compileInstance_150 : decode cX9_compileInstance 150 = .ok (.invokevirtual 155, 3) := by decide +kernel
theorem dX9_compileInstance_153 : decode cX9_compileInstance 153 = .ok (.goto 19, 3) := by decide +kernel
theorem dX9_compileInstance_156 : decode cX9_compileInstance 156 = .ok (.aload_n 0, 1) := by decide +kernel
theorem dX9_compileInstance_157 : decode cX9_compileInstance 157 = .ok (.aload_n 2, 1) := by decide +kernel
theorem dX9_compileInstance_158 : decode cX9_compileInstance 158 = .ok (.aload_n 0, 1) := by decide +kernel
theorem dX9_compileInstance_159 : decode cX9_compileInstance 159 = .ok (.getfield 38, 3) := by decide +kernel
theorem dX9_compileInstance_162 : decode cX9_compileInstance 162 = .ok (.iload_n 1, 1) := by decide +kernel
theorem dX9_compileInstance_163 : decode cX9_compileInstance 163 = .ok (.invokevirtual 152, 3) := by decide +kernel
theorem dX9_compileInstance_166 : decode cX9_compileInstance 166 = .ok (.iload_n 3, 1) := by decide +kernel
theorem dX9_compileInstance_167 : decode cX9_compileInstance 167 = .ok (.iload 4, 2) := by decide +kernel
theorem dX9_compileInstance_169 : decode cX9_compileInstance 169 = .ok (.invokevirtual 159, 3) := by decide +kernel
theorem dX9_compileInstance_172 : decode cX9_compileInstance 172 = .ok (.return_, 1) := by decide +kernel
def wW_k_X9_compileInstance (ty : Nat → ClassId) (X : Nat → Nat) (z9_0 : Int32) (z9_1 : Int32) (z9_2 : Int32) (z9_3 : Int32) (z9_4 : Nat → Option Nat) (z9_5 : Int32) (z9_6 : Int32) (z9_7 : Int32) (z9_8 : Int32) (z9_9 : Int32) (z9_10 : Int32) (z9_11 : Int32) (z9_12 : Int32) (z9_13 : Int32) (z9_14 : Int32) (z9_15 : Nat → Int64) (z9_16 : Nat → Int32) (z9_17 : Nat → Int32) (z9_18 : Nat → Int32) (z9_19 : Nat → Int32) (z9_20 : Int32) (z9_21 : Int32) (z9_22 : Int32) (z9_23 : Int32) (z9_24 : Int32) (z9_25 : Int32) (z9_26 : Int32) (z9_27 : Int32) (z9_28 : Int32) (z9_29 : Int32) (z9_30 : Nat → Int32) (z9_31 : Nat → Int32) (z9_32 : Nat → Int32) (z9_33 : Nat → Int32) (z9_34 : Nat → Int32) (z9_35 : Nat → Int32) (z9_36 : Int32) (z9_37 : Nat → Int32) (z9_38 : Nat → Int32) (z9_39 : Nat → Int32) (z9_40 : Nat → Int32) (z9_41 : Nat → Int32) (z9_42 : Nat → Int32) : va_W := [((X 1), .inr (8, [.ref (X 2), .int z9_0, .ref (X 3), .int z9_1, .ref (X 4), .ref (X 5), .int z9_2, .ref (X 6), .ref (X 7), .int z9_3])), ((X 3), .inl (ty 4, 20, .inr (.inr (.inr (.inr z9_4))))), ((X 8), .inr (5, [.ref (X 1), .ref (X 9), .ref (X 10), .ref (X 12), .ref (X 14), .int z9_5, .ref (X 15), .ref (X 16), .ref (X 17), .int z9_6, .ref (X 18), .ref (X 19), .int z9_7, .int z9_8, .int z9_9, .int z9_10])), ((X 9), .inr (4, [.int z9_11, .int z9_12, .int z9_13, .int z9_14])), ((X 10), .inr (3, [.ref (X 11)])), ((X 11), .inl (ty 1, 6, .inr (.inl z9_15))), ((X 14), .inl (ty 0, 16, .inl z9_16)), ((X 15), .inl (ty 0, 300, .inl z9_17)), ((X 16), .inl (ty 0, 300, .inl z9_18)), ((X 19), .inl (ty 0, 384, .inl z9_19)), ((X 20), .inr (11, [.ref (X 1), .ref (X 8), .ref (X 21), .ref (X 28), .ref (X 35), .int z9_20, .ref (X 36), .ref (X 37), .ref (X 38), .int z9_21, .int z9_22, .int z9_23, .int z9_24, .int z9_25, .int z9_26, .int z9_27, .int z9_28])), ((X 21), .inr (9, [.ref (X 22), .ref (X 23), .ref (X 24), .ref (X 25), .ref (X 26), .ref (X 27), .int z9_29])), ((X 22), .inl (ty 0, 300, .inl z9_30)), ((X 23), .inl (ty 0, 300, .inl z9_31)), ((X 24), .inl (ty 0, 300, .inl z9_32)), ((X 25), .inl (ty 0, 300, .inl z9_33)), ((X 26), .inl (ty 0, 300, .inl z9_34)), ((X 27), .inl (ty 0, 300, .inl z9_35)), ((X 28), .inr (9, [.ref (X 29), .ref (X 30), .ref (X 31), .ref (X 32), .ref (X 33), .ref (X 34), .int z9_36])), ((X 29), .inl (ty 0, 300, .inl z9_37)), ((X 30), .inl (ty 0, 300, .inl z9_38)), ((X 31), .inl (ty 0, 300, .inl z9_39)), ((X 32), .inl (ty 0, 300, .inl z9_40)), ((X 33), .inl (ty 0, 300, .inl z9_41)), ((X 34), .inl (ty 0, 300, .inl z9_42))]
def vs_k_X9_compileInstance : List Cond := .code yX9_compileInstance cX9_compileInstance 7 none :: ([.fieldLink RX9 38 "AnswerFold$Solver" "grounding" "LAnswerFold$Grounding;", .methodLink RX9 129 yX3_bindKept, .instanceMethod yX3_bindKept, .selects RX3 yX3_bindKept yX3_bindKept, .initialized RX3, .methodLink RX9 152 yX3_keptRuleAt, .instanceMethod yX3_keptRuleAt, .selects RX3 yX3_keptRuleAt yX3_keptRuleAt, .methodLink RX9 159 yX9_compileHeads, .instanceMethod yX9_compileHeads, .selects RX9 yX9_compileHeads yX9_compileHeads, .initialized RX9, .fieldLink RX9 18 "AnswerFold$Solver" "weaks" "LAnswerFold$Rows;", .methodLink RX9 155 yX7_add, .instanceMethod yX7_add, .selects RX7 yX7_add yX7_add, .initialized RX7, .methodLink RX9 135 yX8_conditionAt, .instanceMethod yX8_conditionAt, .selects RX8 yX8_conditionAt yX8_conditionAt, .initialized RX8, .methodLink RX9 146 yX2_atomOf, .instanceMethod yX2_atomOf, .selects RX2 yX2_atomOf yX2_atomOf, .initialized RX2, .methodLink RX9 72 yX9_bitOf, .instanceMethod yX9_bitOf, .selects RX9 yX9_bitOf yX9_bitOf] ++ (u_ws RX9 TX9 17 ++ (vs_k_X3_bindKept ++ (u_ws RX8 TX8 11 ++ (vs_k_X3_keptRuleAt ++ (vs_k_X9_compileHeads ++ (vs_k_X7_add ++ (vs_k_X8_conditionAt ++ (u_ws RX4 TX4 8 ++ (u_ws RX3 TX3 16 ++ (vs_k_X2_atomOf ++ (vs_k_X9_bitOf))))))))))))
theorem iv_k_X9_compileInstance_X3 : ∀ w ∈ u_ws RX3 TX3 16, w ∈ vs_k_X9_compileInstance := (fun _ h => List.mem_cons_of_mem _ (List.mem_append_right _ (List.mem_append_right _ (List.mem_append_right _ (List.mem_append_right _ (List.mem_append_right _ (List.mem_append_right _ (List.mem_append_right _ (List.mem_append_right _ (List.mem_append_right _ (List.mem_append_left _ h)))))))))))
theorem iv_k_X9_compileInstance_X4 : ∀ w ∈ u_ws RX4 TX4 8, w ∈ vs_k_X9_compileInstance := (fun _ h => List.mem_cons_of_mem _ (List.mem_append_right _ (List.mem_append_right _ (List.mem_append_right _ (List.mem_append_right _ (List.mem_append_right _ (List.mem_append_right _ (List.mem_append_right _ (List.mem_append_right _ (List.mem_append_left _ h))))))))))
theorem iv_k_X9_compileInstance_X8 : ∀ w ∈ u_ws RX8 TX8 11, w ∈ vs_k_X9_compileInstance := (fun _ h => List.mem_cons_of_mem _ (List.mem_append_right _ (List.mem_append_right _ (List.mem_append_right _ (List.mem_append_left _ h)))))
theorem iv_k_X9_compileInstance_X9 : ∀ w ∈ u_ws RX9 TX9 17, w ∈ vs_k_X9_compileInstance := (fun _ h => List.mem_cons_of_mem _ (List.mem_append_right _ (List.mem_append_left _ h)))
set_option maxRecDepth 20000 in
theorem gv_k_X9_compileInstance_0 : GoodIn vs_k_X9_compileInstance (wsV RX9 129 RX3 yX3_bindKept vs_k_X3_bindKept) := goodIn_app (goodIn_sub (by decide +kernel) (by decide +kernel)) (goodIn_sub (fun _ h => List.mem_cons_of_mem _ (List.mem_append_right _ (List.mem_append_right _ (List.mem_append_left _ h)))) (by decide +kernel))
set_option maxRecDepth 20000 in
theorem gv_k_X9_compileInstance_1 : GoodIn vs_k_X9_compileInstance (wsV RX9 152 RX3 yX3_keptRuleAt vs_k_X3_keptRuleAt) := goodIn_app (goodIn_sub (by decide +kernel) (by decide +kernel)) (goodIn_sub (fun _ h => List.mem_cons_of_mem _ (List.mem_append_right _ (List.mem_append_right _ (List.mem_append_right _ (List.mem_append_right _ (List.mem_append_left _ h)))))) (by decide +kernel))
set_option maxRecDepth 20000 in
theorem gv_k_X9_compileInstance_2 : GoodIn vs_k_X9_compileInstance (wsV RX9 159 RX9 yX9_compileHeads vs_k_X9_compileHeads) := goodIn_app (goodIn_sub (by decide +kernel) (by decide +kernel)) (goodIn_sub (fun _ h => List.mem_cons_of_mem _ (List.mem_append_right _ (List.mem_append_right _ (List.mem_append_right _ (List.mem_append_right _ (List.mem_append_right _ (List.mem_append_left _ h))))))) (by decide +kernel))
set_option maxRecDepth 20000 in
theorem gv_k_X9_compileInstance_3 : GoodIn vs_k_X9_compileInstance (wsV RX9 152 RX3 yX3_keptRuleAt vs_k_X3_keptRuleAt) := goodIn_app (goodIn_sub (by decide +kernel) (by decide +kernel)) (goodIn_sub (fun _ h => List.mem_cons_of_mem _ (List.mem_append_right _ (List.mem_append_right _ (List.mem_append_right _ (List.mem_append_right _ (List.mem_append_left _ h)))))) (by decide +kernel))
set_option maxRecDepth 20000 in
theorem gv_k_X9_compileInstance_4 : GoodIn vs_k_X9_compileInstance (wsV RX9 155 RX7 yX7_add vs_k_X7_add) := goodIn_app (goodIn_sub (by decide +kernel) (by decide +kernel)) (goodIn_sub (fun _ h => List.mem_cons_of_mem _ (List.mem_append_right _ (List.mem_append_right _ (List.mem_append_right _ (List.mem_append_right _ (List.mem_append_right _ (List.mem_append_right _ (List.mem_append_left _ h)))))))) (by decide +kernel))
set_option maxRecDepth 20000 in
theorem gv_k_X9_compileInstance_5 : GoodIn vs_k_X9_compileInstance (wsV RX9 135 RX8 yX8_conditionAt vs_k_X8_conditionAt) := goodIn_app (goodIn_sub (by decide +kernel) (by decide +kernel)) (goodIn_sub (fun _ h => List.mem_cons_of_mem _ (List.mem_append_right _ (List.mem_append_right _ (List.mem_append_right _ (List.mem_append_right _ (List.mem_append_right _ (List.mem_append_right _ (List.mem_append_right _ (List.mem_append_left _ h))))))))) (by decide +kernel))
set_option maxRecDepth 20000 in
theorem gv_k_X9_compileInstance_6 : GoodIn vs_k_X9_compileInstance (wsV RX9 146 RX2 yX2_atomOf vs_k_X2_atomOf) := goodIn_app (goodIn_sub (by decide +kernel) (by decide +kernel)) (goodIn_sub (fun _ h => List.mem_cons_of_mem _ (List.mem_append_right _ (List.mem_append_right _ (List.mem_append_right _ (List.mem_append_right _ (List.mem_append_right _ (List.mem_append_right _ (List.mem_append_right _ (List.mem_append_right _ (List.mem_append_right _ (List.mem_append_right _ (List.mem_append_left _ h)))))))))))) (by decide +kernel))
set_option maxRecDepth 20000 in
theorem gv_k_X9_compileInstance_7 : GoodIn vs_k_X9_compileInstance (wsV RX9 72 RX9 yX9_bitOf vs_k_X9_bitOf) := goodIn_app (goodIn_sub (by decide +kernel) (by decide +kernel)) (goodIn_sub (fun _ h => List.mem_cons_of_mem _ (List.mem_append_right _ (List.mem_append_right _ (List.mem_append_right _ (List.mem_append_right _ (List.mem_append_right _ (List.mem_append_right _ (List.mem_append_right _ (List.mem_append_right _ (List.mem_append_right _ (List.mem_append_right _ (List.mem_append_right _ (h))))))))))))) (by decide +kernel))
set_option maxRecDepth 20000 in
theorem gv_k_X9_compileInstance_8 : GoodIn vs_k_X9_compileInstance (wsV RX9 146 RX2 yX2_atomOf vs_k_X2_atomOf) := goodIn_app (goodIn_sub (by decide +kernel) (by decide +kernel)) (goodIn_sub (fun _ h => List.mem_cons_of_mem _ (List.mem_append_right _ (List.mem_append_right _ (List.mem_append_right _ (List.mem_append_right _ (List.mem_append_right _ (List.mem_append_right _ (List.mem_append_right _ (List.mem_append_right _ (List.mem_append_right _ (List.mem_append_right _ (List.mem_append_left _ h)))))))))))) (by decide +kernel))
set_option maxRecDepth 20000 in
theorem gv_k_X9_compileInstance_9 : GoodIn vs_k_X9_compileInstance (wsV RX9 72 RX9 yX9_bitOf vs_k_X9_bitOf) := goodIn_app (goodIn_sub (by decide +kernel) (by decide +kernel)) (goodIn_sub (fun _ h => List.mem_cons_of_mem _ (List.mem_append_right _ (List.mem_append_right _ (List.mem_append_right _ (List.mem_append_right _ (List.mem_append_right _ (List.mem_append_right _ (List.mem_append_right _ (List.mem_append_right _ (List.mem_append_right _ (List.mem_append_right _ (List.mem_append_right _ (h))))))))))))) (by decide +kernel))
set_option maxHeartbeats 4000000 in
set_option maxRecDepth 100000 in
theorem k_X9_compileInstance (l : Launch) (D : va_G) (ty : Nat → ClassId) (td mi sz : Nat) (pp : pT) (X : Nat → Nat) (pn : Int32) (rn : Int32) (tn : Int32) (en : Int32) (rf : Nat → Option Nat) (hn : Int32) (kn : Int32) (on : Int32) (cu : Int32) (pu : Int32) (gw : Int32) (b_1 : Int32) (b_2 : Int32) (b_3 : Int32) (b_p : Int32) (su : Nat → Int64) (hds : Nat → Int32) (kr : Nat → Int32) (kv : Nat → Int32) (ob : Nat → Int32) (an : Int32) (ch : Int32) (cg : Int32) (fb : Int32) (mh : Int32) (ml : Int32) (ih : Int32) (lb : Int32) (ic : Int32) (cn : Int32) (c1 : Nat → Int32) (c2 : Nat → Int32) (c3 : Nat → Int32) (c4 : Nat → Int32) (c5 : Nat → Int32) (c6 : Nat → Int32) (wn : Int32) (w1 : Nat → Int32) (w2 : Nat → Int32) (w3 : Nat → Int32) (w4 : Nat → Int32) (w5 : Nat → Int32) (w6 : Nat → Int32) (a1 : Int32) (hok : pOK pp) (hru : ∀ (i a : Nat), rf i = some a → a ∈ pRA pp) (TT : r_k_X9_compileInstance) (hTT : TT = m_k_X9_compileInstance pp rn rf hn on b_1 b_2 b_3 b_p su hds kr kv ob cn c1 c2 c3 c4 c5 c6 wn w1 w2 w3 w4 w5 w6 a1) : Met l yX9_compileInstance vs_k_X9_compileInstance { frames := 4, cells := 0, slots := 0, locals := 100 } (va_Pc [.ref (X 20), .int a1] (wq_P D ty td mi ((wW_k_X9_compileInstance ty X pn rn tn en rf hn kn on cu pu gw b_1 b_2 b_3 b_p su hds kr kv ob an ch cg fb mh ml ih lb ic cn c1 c2 c3 c4 c5 c6 wn w1 w2 w3 w4 w5 w6) ++ pw ty pp) sz)) (va_Qv (fun u : va_W => ((u = ((wW_k_X9_compileInstance ty X pn rn tn en rf TT.2.2.2.2.2.2.2.2.2.2.2.2.2.2.2.1 kn on cu pu gw TT.2.2.2.2.2.2.2.2.2.2.2.2.2.2.2.2.1 TT.2.2.2.2.2.2.2.2.2.2.2.2.2.2.2.2.2.1 TT.2.2.2.2.2.2.2.2.2.2.2.2.2.2.2.2.2.2.1 TT.2.2.2.2.2.2.2.2.2.2.2.2.2.2.2.2.2.2.2 su TT.1 kr kv ob an ch cg fb mh ml ih lb ic TT.2.1 TT.2.2.1 TT.2.2.2.1 TT.2.2.2.2.1 TT.2.2.2.2.2.1 TT.2.2.2.2.2.2.1 TT.2.2.2.2.2.2.2.1 TT.2.2.2.2.2.2.2.2.1 TT.2.2.2.2.2.2.2.2.2.1 TT.2.2.2.2.2.2.2.2.2.2.1 TT.2.2.2.2.2.2.2.2.2.2.2.1 TT.2.2.2.2.2.2.2.2.2.2.2.2.1 TT.2.2.2.2.2.2.2.2.2.2.2.2.2.1 TT.2.2.2.2.2.2.2.2.2.2.2.2.2.2.1) ++ pw ty pp)))) (wq_B D (va_A ((wW_k_X9_compileInstance ty X pn rn tn en rf hn kn on cu pu gw b_1 b_2 b_3 b_p su hds kr kv ob an ch cg fb mh ml ih lb ic cn c1 c2 c3 c4 c5 c6 wn w1 w2 w3 w4 w5 w6) ++ pw ty pp) sz)) (va_A ((wW_k_X9_compileInstance ty X pn rn tn en rf hn kn on cu pu gw b_1 b_2 b_3 b_p su hds kr kv ob an ch cg fb mh ml ih lb ic cn c1 c2 c3 c4 c5 c6 wn w1 w2 w3 w4 w5 w6) ++ pw ty pp) sz)) 0 0 (va_A ((wW_k_X9_compileInstance ty X pn rn tn en rf hn kn on cu pu gw b_1 b_2 b_3 b_p su hds kr kv ob an ch cg fb mh ml ih lb ic cn c1 c2 c3 c4 c5 c6 wn w1 w2 w3 w4 w5 w6) ++ pw ty pp) sz) := by
  refine Met.ofW (cc := cX9_compileInstance) (maxL := 7) (ret := none) (by decide) rfl ?_
  intro p e s m args below meth c s₁ B hml hv
  obtain ⟨rfl, hsz, hP, hK, hD0, hE⟩ := hv
  have hx := B.exec
  have hb := B.bytes
  have hr := B.returns
  have hts := atoms_spec (ws := vs_k_X9_compileInstance) B.pre
  have hown : s.vm.findClass RX9 = some m.cls := findClass_of_methodNamed B.named
  have hlocks := B.notSynchronized
  subst hsz
  have hD := hD0.self (sz := s.heap.size)
  generalize hAe : va_A ((wW_k_X9_compileInstance ty X pn rn tn en rf hn kn on cu pu gw b_1 b_2 b_3 b_p su hds kr kv ob an ch cg fb mh ml ih lb ic cn c1 c2 c3 c4 c5 c6 wn w1 w2 w3 w4 w5 w6) ++ pw ty pp) s.heap.size = A at hD hE ⊢
  have hA : ∀ q : Nat, s.heap.size ≤ q → A q := fun q h => by rw [← hAe]; exact Or.inr h
  have hS : va_S A s.heap s.heap [] := va_S.rf
  have hP : va_P D vwCl ((wW_k_X9_compileInstance ty X pn rn tn en rf hn kn on cu pu gw b_1 b_2 b_3 b_p su hds kr kv ob an ch cg fb mh ml ih lb ic cn c1 c2 c3 c4 c5 c6 wn w1 w2 w3 w4 w5 w6) ++ pw ty pp) s.heap := hP
  have hl := lv_entry ([.ref (X 20), .int a1]) (n := 7) (Nat.le_of_ble_eq_true rfl)
  rw [lg_entry_eq]
  generalize (lg_sl ([.ref (X 20), .int a1]) ++ List.replicate (7 - (lg_sl ([.ref (X 20), .int a1])).length) Slot.unset).toArray = ls at hl ⊢
  have hl : lv_has ls 7 [(0, .ref (X 20)), (1, .int a1)] := hl
  have END : ∀ (w9_0 : Nat → Int32) (w9_1 : Int32) (w9_2 : Nat → Int32) (w9_3 : Nat → Int32) (w9_4 : Nat → Int32) (w9_5 : Nat → Int32) (w9_6 : Nat → Int32) (w9_7 : Nat → Int32) (w9_8 : Int32) (w9_9 : Nat → Int32) (w9_10 : Nat → Int32) (w9_11 : Nat → Int32) (w9_12 : Nat → Int32) (w9_13 : Nat → Int32) (w9_14 : Nat → Int32) (w9_15 : Int32) (w9_16 : Int32) (w9_17 : Int32) (w9_18 : Int32) (w9_19 : Int32), TT = (w9_0, w9_1, w9_2, w9_3, w9_4, w9_5, w9_6, w9_7, w9_8, w9_9, w9_10, w9_11, w9_12, w9_13, w9_14, w9_15, w9_16, w9_17, w9_18, w9_19) → ∀ (H : Heap) (locs : List Loc), va_P D vwCl ((wW_k_X9_compileInstance ty X pn rn tn en rf w9_15 kn on cu pu gw w9_16 w9_17 w9_18 w9_19 su w9_0 kr kv ob an ch cg fb mh ml ih lb ic w9_1 w9_2 w9_3 w9_4 w9_5 w9_6 w9_7 w9_8 w9_9 w9_10 w9_11 w9_12 w9_13 w9_14) ++ pw ty pp) H → va_D A ((wW_k_X9_compileInstance ty X pn rn tn en rf w9_15 kn on cu pu gw w9_16 w9_17 w9_18 w9_19 su w9_0 kr kv ob an ch cg fb mh ml ih lb ic w9_1 w9_2 w9_3 w9_4 w9_5 w9_6 w9_7 w9_8 w9_9 w9_10 w9_11 w9_12 w9_13 w9_14) ++ pw ty pp) → va_S A s.heap H locs → ∀ (ls : Array Slot) (pc : Nat), decode cX9_compileInstance pc = .ok (.return_, 1) → W p l e (headSpec vs_k_X9_compileInstance { frames := 4, cells := 0, slots := 0, locals := 100 }).room s m ([.ref (X 20), .int a1] : List Value).toArray below meth c H locs 0 0 (MQ below (va_Qv (fun u : va_W => ((u = ((wW_k_X9_compileInstance ty X pn rn tn en rf TT.2.2.2.2.2.2.2.2.2.2.2.2.2.2.2.1 kn on cu pu gw TT.2.2.2.2.2.2.2.2.2.2.2.2.2.2.2.2.1 TT.2.2.2.2.2.2.2.2.2.2.2.2.2.2.2.2.2.1 TT.2.2.2.2.2.2.2.2.2.2.2.2.2.2.2.2.2.2.1 TT.2.2.2.2.2.2.2.2.2.2.2.2.2.2.2.2.2.2.2 su TT.1 kr kv ob an ch cg fb mh ml ih lb ic TT.2.1 TT.2.2.1 TT.2.2.2.1 TT.2.2.2.2.1 TT.2.2.2.2.2.1 TT.2.2.2.2.2.2.1 TT.2.2.2.2.2.2.2.1 TT.2.2.2.2.2.2.2.2.1 TT.2.2.2.2.2.2.2.2.2.1 TT.2.2.2.2.2.2.2.2.2.2.1 TT.2.2.2.2.2.2.2.2.2.2.2.1 TT.2.2.2.2.2.2.2.2.2.2.2.2.1 TT.2.2.2.2.2.2.2.2.2.2.2.2.2.1 TT.2.2.2.2.2.2.2.2.2.2.2.2.2.2.1) ++ pw ty pp)))) (wq_B D A) A) ([.ref (X 20), .int a1] : List Value).toArray s 0 0 A) (F0 m pc ls []) := by
    intro w9_0 w9_1 w9_2 w9_3 w9_4 w9_5 w9_6 w9_7 w9_8 w9_9 w9_10 w9_11 w9_12 w9_13 w9_14 w9_15 w9_16 w9_17 w9_18 w9_19 hT H locs hP hD hS ls pc hd
    have hM : TT = (w9_0, w9_1, w9_2, w9_3, w9_4, w9_5, w9_6, w9_7, w9_8, w9_9, w9_10, w9_11, w9_12, w9_13, w9_14, w9_15, w9_16, w9_17, w9_18, w9_19) := hT
    exact W.vret hx hb hr (fun t ht hW => ⟨⟨((wW_k_X9_compileInstance ty X pn rn tn en rf w9_15 kn on cu pu gw w9_16 w9_17 w9_18 w9_19 su w9_0 kr kv ob an ch cg fb mh ml ih lb ic w9_1 w9_2 w9_3 w9_4 w9_5 w9_6 w9_7 w9_8 w9_9 w9_10 w9_11 w9_12 w9_13 w9_14) ++ pw ty pp), rfl, (by rw [hM]), wq_B.of ht hP hD⟩, hS.F ht⟩) hS.2.2 hd
  have hT := hTT
  rw [m_k_X9_compileInstance] at hT
  refine lv_aload_n hx hb dX9_compileInstance_0 rfl (lv_at hl 0 rfl) ?_
  refine va_get (D := D) (ci := 11) (v := .ref (X 8)) (C := RX9) (T := TX9) (N := 17) hx hb hts iv_k_X9_compileInstance_X9 hown hK hP 10 rfl rfl 1 (by decide) (hts (.fieldLink RX9 38 "AnswerFold$Solver" "grounding" "LAnswerFold$Grounding;") (by decide +kernel)) (fun _ h9 => h9) rfl dX9_compileInstance_1 ?_
  refine lv_iload_n hx hb dX9_compileInstance_4 rfl (lv_at hl 1 rfl) ?_
  obtain ⟨t_5, ht_5⟩ : ∃ t, t = m_k_X3_bindKept rn rf b_1 b_2 b_3 b_p kr kv a1 := ⟨_, rfl⟩
  rw [lE_eq ht_5] at hT
  refine wq_rPW (wc := (wW_k_X3_bindKept ty X pn rn tn en rf hn kn on cu pu gw b_1 b_2 b_3 b_p kr kv)) (pl := pw ty pp) (ux := (wW_k_X3_bindKept ty X pn rn tn en rf hn kn on cu pu gw t_5.2.1 t_5.2.2.1 t_5.2.2.2.1 t_5.2.2.2.2 kr kv)) (va_runV (As := [.int a1]) (rest := []) ⟨hx, hb, hml, hown, hts⟩ (k_X3_bindKept l D ty td mi s.heap.size pp X pn rn tn en rf hn kn on cu pu gw b_1 b_2 b_3 b_p kr kv a1 hok hru t_5 ht_5) (cwV 1 hts gv_k_X9_compileInstance_0 rfl rfl rfl (by decide +kernel) ⟨(Nat.le_of_ble_eq_true rfl), (Nat.le_of_ble_eq_true rfl)⟩) (wm_V (wm_preSP hP hD hK hE hS hA [true, true, true, true, false, false, false, true, true] rfl) (va_recv (q0 := 2) (ci := 5) hK hP rfl rfl)) rfl rfl hl.1 rfl (lv_room (Nat.le_of_ble_eq_true rfl)) dX9_compileInstance_5 ⟨(Nat.le_of_ble_eq_true rfl), (Nat.le_of_ble_eq_true rfl)⟩) hS hA hP hD [true, true, true, true, false, false, false, true, true] rfl rfl (fun _ _ h => h.2) (fun r H locs hw hP hD hS => ?_)
  obtain ⟨rfl, -⟩ := hw
  have hP : va_P D vwCl ((wW_k_X9_compileInstance ty X pn rn tn en rf hn kn on cu pu gw t_5.2.1 t_5.2.2.1 t_5.2.2.2.1 t_5.2.2.2.2 su hds kr kv ob an ch cg fb mh ml ih lb ic cn c1 c2 c3 c4 c5 c6 wn w1 w2 w3 w4 w5 w6) ++ pw ty pp) H := hP
  have hD : va_D A ((wW_k_X9_compileInstance ty X pn rn tn en rf hn kn on cu pu gw t_5.2.1 t_5.2.2.1 t_5.2.2.2.1 t_5.2.2.2.2 su hds kr kv ob an ch cg fb mh ml ih lb ic cn c1 c2 c3 c4 c5 c6 wn w1 w2 w3 w4 w5 w6) ++ pw ty pp) := hD
  refine W.widen (k := 0) (n := 0) (Nat.le_of_ble_eq_true rfl) (Nat.le_of_ble_eq_true rfl) ?_
  rcases ho_5 : t_5.1 with _ | o_5
  · rw [ho_5, oE_none] at hT
    refine W.eq (g2 := F0 m 8 ls [.null]) rfl ?_
    refine lv_astore_nN (lv' := [(2, .null), (0, .ref (X 20)), (1, .int a1)]) hx hb dX9_compileInstance_8 rfl hl (by decide) rfl (fun ls hl => ?_)
    refine lv_aload_nN hx hb dX9_compileInstance_9 rfl (lv_at hl 0 rfl) ?_
    refine lv_ifnonnullN hx hb dX9_compileInstance_10 ?_
    exact END hds cn c1 c2 c3 c4 c5 c6 wn w1 w2 w3 w4 w5 w6 hn t_5.2.1 t_5.2.2.1 t_5.2.2.2.1 t_5.2.2.2.2 hT _ _ hP hD hS _ _ dX9_compileInstance_13
  · rw [ho_5, oE_some] at hT
    refine W.eq (g2 := F0 m 8 ls [.ref o_5]) rfl ?_
    refine lv_astore_n (lv' := [(2, .ref o_5), (0, .ref (X 20)), (1, .int a1)]) hx hb dX9_compileInstance_8 rfl hl (by decide) rfl (fun ls hl => ?_)
    refine lv_aload_n hx hb dX9_compileInstance_9 rfl (lv_at hl 0 rfl) ?_
    refine lv_ifnonnull (tgt := 14) hx hb dX9_compileInstance_10 (by decide) ?_
    refine lv_iconst (v := 0) hx hb dX9_compileInstance_14 (by decide) ?_
    refine lv_istore_n (lv' := [(3, .int 0), (2, .ref o_5), (0, .ref (X 20)), (1, .int a1)]) hx hb dX9_compileInstance_15 rfl hl (by decide) rfl (fun ls hl => ?_)
    refine lv_iconst (v := 0) hx hb dX9_compileInstance_16 (by decide) ?_
    refine lv_istore (lv' := [(4, .int 0), (3, .int 0), (2, .ref o_5), (0, .ref (X 20)), (1, .int a1)]) hx hb dX9_compileInstance_17 hl (by decide) rfl (fun ls hl => ?_)
    refine lv_iconst (v := 0) hx hb dX9_compileInstance_19 (by decide) ?_
    refine lv_istore (lv' := [(5, .int 0), (4, .int 0), (3, .int 0), (2, .ref o_5), (0, .ref (X 20)), (1, .int a1)]) hx hb dX9_compileInstance_20 hl (by decide) rfl (fun ls hl => ?_)
    have L_22 : ∀ (n_22 : Nat) (v3_22 : Int32) (v4_22 : Int32) (v5_22 : Int32), (2147483648 - v5_22.toInt).toNat < n_22 → TT = m_k_X9_compileInstance_22 pp hn on su hds kr ob cn c1 c2 c3 c4 c5 c6 wn w1 w2 w3 w4 w5 w6 a1 o_5 t_5 n_22 v3_22 v4_22 v5_22 → 0 ≤ v5_22.toInt → ∀ (H : Heap) (locs : List Loc), va_P D vwCl ((wW_k_X9_compileInstance ty X pn rn tn en rf hn kn on cu pu gw t_5.2.1 t_5.2.2.1 t_5.2.2.2.1 t_5.2.2.2.2 su hds kr kv ob an ch cg fb mh ml ih lb ic cn c1 c2 c3 c4 c5 c6 wn w1 w2 w3 w4 w5 w6) ++ pw ty pp) H → va_D A ((wW_k_X9_compileInstance ty X pn rn tn en rf hn kn on cu pu gw t_5.2.1 t_5.2.2.1 t_5.2.2.2.1 t_5.2.2.2.2 su hds kr kv ob an ch cg fb mh ml ih lb ic cn c1 c2 c3 c4 c5 c6 wn w1 w2 w3 w4 w5 w6) ++ pw ty pp) → va_S A s.heap H locs → ∀ ls : Array Slot, lv_has ls 7 [(0, .ref (X 20)), (1, .int a1), (2, .ref o_5), (3, .int v3_22), (4, .int v4_22), (5, .int v5_22)] → W p l e (headSpec vs_k_X9_compileInstance { frames := 4, cells := 0, slots := 0, locals := 100 }).room s m ([.ref (X 20), .int a1] : List Value).toArray below meth c H locs 0 0 (MQ below (va_Qv (fun u : va_W => ((u = ((wW_k_X9_compileInstance ty X pn rn tn en rf TT.2.2.2.2.2.2.2.2.2.2.2.2.2.2.2.1 kn on cu pu gw TT.2.2.2.2.2.2.2.2.2.2.2.2.2.2.2.2.1 TT.2.2.2.2.2.2.2.2.2.2.2.2.2.2.2.2.2.1 TT.2.2.2.2.2.2.2.2.2.2.2.2.2.2.2.2.2.2.1 TT.2.2.2.2.2.2.2.2.2.2.2.2.2.2.2.2.2.2.2 su TT.1 kr kv ob an ch cg fb mh ml ih lb ic TT.2.1 TT.2.2.1 TT.2.2.2.1 TT.2.2.2.2.1 TT.2.2.2.2.2.1 TT.2.2.2.2.2.2.1 TT.2.2.2.2.2.2.2.1 TT.2.2.2.2.2.2.2.2.1 TT.2.2.2.2.2.2.2.2.2.1 TT.2.2.2.2.2.2.2.2.2.2.1 TT.2.2.2.2.2.2.2.2.2.2.2.1 TT.2.2.2.2.2.2.2.2.2.2.2.2.1 TT.2.2.2.2.2.2.2.2.2.2.2.2.2.1 TT.2.2.2.2.2.2.2.2.2.2.2.2.2.2.1) ++ pw ty pp)))) (wq_B D A) A) ([.ref (X 20), .int a1] : List Value).toArray s 0 0 A) (F0 m 22 ls []) := by
      intro n_22
      induction n_22 with
      | zero => intro v3_22 v4_22 v5_22 hu; exact absurd hu (Nat.not_lt_zero _)
      | succ n_22 ih_22 =>
        intro v3_22 v4_22 v5_22 hu_22 hT hn_22 H locs hP hD hS ls hl
        rw [m_k_X9_compileInstance_22_succ, m_k_X9_compileInstance_22s] at hT
        refine lv_iload hx hb dX9_compileInstance_22 (lv_at hl 5 rfl) ?_
        refine lv_aload_n hx hb dX9_compileInstance_24 rfl (lv_at hl 2 rfl) ?_
        obtain ⟨k_3, hk_3⟩ := List.getElem?_of_mem (pw_rule (ty := ty) (p := pp) (L := [((X 1), .inr (8, [.ref (X 2), .int pn, .ref (X 3), .int rn, .ref (X 4), .ref (X 5), .int tn, .ref (X 6), .ref (X 7), .int en])), ((X 3), .inl (ty 4, 20, .inr (.inr (.inr (.inr rf))))), ((X 8), .inr (5, [.ref (X 1), .ref (X 9), .ref (X 10), .ref (X 12), .ref (X 14), .int hn, .ref (X 15), .ref (X 16), .ref (X 17), .int kn, .ref (X 18), .ref (X 19), .int on, .int cu, .int pu, .int gw])), ((X 9), .inr (4, [.int t_5.2.1, .int t_5.2.2.1, .int t_5.2.2.2.1, .int t_5.2.2.2.2])), ((X 10), .inr (3, [.ref (X 11)])), ((X 11), .inl (ty 1, 6, .inr (.inl su))), ((X 14), .inl (ty 0, 16, .inl hds)), ((X 15), .inl (ty 0, 300, .inl kr)), ((X 16), .inl (ty 0, 300, .inl kv)), ((X 19), .inl (ty 0, 384, .inl ob)), ((X 20), .inr (11, [.ref (X 1), .ref (X 8), .ref (X 21), .ref (X 28), .ref (X 35), .int an, .ref (X 36), .ref (X 37), .ref (X 38), .int ch, .int cg, .int fb, .int mh, .int ml, .int ih, .int lb, .int ic])), ((X 21), .inr (9, [.ref (X 22), .ref (X 23), .ref (X 24), .ref (X 25), .ref (X 26), .ref (X 27), .int cn])), ((X 22), .inl (ty 0, 300, .inl c1)), ((X 23), .inl (ty 0, 300, .inl c2)), ((X 24), .inl (ty 0, 300, .inl c3)), ((X 25), .inl (ty 0, 300, .inl c4)), ((X 26), .inl (ty 0, 300, .inl c5)), ((X 27), .inl (ty 0, 300, .inl c6)), ((X 28), .inr (9, [.ref (X 29), .ref (X 30), .ref (X 31), .ref (X 32), .ref (X 33), .ref (X 34), .int wn])), ((X 29), .inl (ty 0, 300, .inl w1)), ((X 30), .inl (ty 0, 300, .inl w2)), ((X 31), .inl (ty 0, 300, .inl w3)), ((X 32), .inl (ty 0, 300, .inl w4)), ((X 33), .inl (ty 0, 300, .inl w5)), ((X 34), .inl (ty 0, 300, .inl w6))]) (mm_k_X3_bindKept pp rn rf b_1 b_2 b_3 b_p kr kv a1 hok hru _ (by rw [← ht_5]; exact ho_5)))
        refine va_getN (D := D) (ci := 10) (v := .int (pI pp o_5 10)) (C := RX8) (T := TX8) (N := 11) hx hb hts iv_k_X9_compileInstance_X8 hown hK hP k_3 hk_3 rfl 10 (by decide) (hE.at (.fieldLinkNest "AnswerFold$Solver" 132 "AnswerFold$Rule" "conditionCount" "I" "AnswerFold") (by decide +kernel)) (fun _ h9 => h9) rfl dX9_compileInstance_25 ?_
        refine lv_icmp_ge (tgt := 118) hx hb dX9_compileInstance_28 (by decide) (fun c_4 => ?_) (fun c_4 => ?_)
        · rw [if_pos c_4] at hT
          refine lv_iload_n hx hb dX9_compileInstance_118 rfl (lv_at hl 3 rfl) ?_
          refine lv_iload hx hb dX9_compileInstance_119 (lv_at hl 4 rfl) ?_
          refine lv_iand hx hb dX9_compileInstance_121 ?_
          refine lv_if_eq (tgt := 126) hx hb dX9_compileInstance_122 (by decide) (fun c_5 => ?_) (fun c_5 => ?_)
          · rw [if_pos c_5] at hT
            refine lv_aload_n hx hb dX9_compileInstance_126 rfl (lv_at hl 2 rfl) ?_
            obtain ⟨k_6, hk_6⟩ := List.getElem?_of_mem (pw_rule (ty := ty) (p := pp) (L := [((X 1), .inr (8, [.ref (X 2), .int pn, .ref (X 3), .int rn, .ref (X 4), .ref (X 5), .int tn, .ref (X 6), .ref (X 7), .int en])), ((X 3), .inl (ty 4, 20, .inr (.inr (.inr (.inr rf))))), ((X 8), .inr (5, [.ref (X 1), .ref (X 9), .ref (X 10), .ref (X 12), .ref (X 14), .int hn, .ref (X 15), .ref (X 16), .ref (X 17), .int kn, .ref (X 18), .ref (X 19), .int on, .int cu, .int pu, .int gw])), ((X 9), .inr (4, [.int t_5.2.1, .int t_5.2.2.1, .int t_5.2.2.2.1, .int t_5.2.2.2.2])), ((X 10), .inr (3, [.ref (X 11)])), ((X 11), .inl (ty 1, 6, .inr (.inl su))), ((X 14), .inl (ty 0, 16, .inl hds)), ((X 15), .inl (ty 0, 300, .inl kr)), ((X 16), .inl (ty 0, 300, .inl kv)), ((X 19), .inl (ty 0, 384, .inl ob)), ((X 20), .inr (11, [.ref (X 1), .ref (X 8), .ref (X 21), .ref (X 28), .ref (X 35), .int an, .ref (X 36), .ref (X 37), .ref (X 38), .int ch, .int cg, .int fb, .int mh, .int ml, .int ih, .int lb, .int ic])), ((X 21), .inr (9, [.ref (X 22), .ref (X 23), .ref (X 24), .ref (X 25), .ref (X 26), .ref (X 27), .int cn])), ((X 22), .inl (ty 0, 300, .inl c1)), ((X 23), .inl (ty 0, 300, .inl c2)), ((X 24), .inl (ty 0, 300, .inl c3)), ((X 25), .inl (ty 0, 300, .inl c4)), ((X 26), .inl (ty 0, 300, .inl c5)), ((X 27), .inl (ty 0, 300, .inl c6)), ((X 28), .inr (9, [.ref (X 29), .ref (X 30), .ref (X 31), .ref (X 32), .ref (X 33), .ref (X 34), .int wn])), ((X 29), .inl (ty 0, 300, .inl w1)), ((X 30), .inl (ty 0, 300, .inl w2)), ((X 31), .inl (ty 0, 300, .inl w3)), ((X 32), .inl (ty 0, 300, .inl w4)), ((X 33), .inl (ty 0, 300, .inl w5)), ((X 34), .inl (ty 0, 300, .inl w6))]) (mm_k_X3_bindKept pp rn rf b_1 b_2 b_3 b_p kr kv a1 hok hru _ (by rw [← ht_5]; exact ho_5)))
            refine va_getN (D := D) (ci := 10) (v := .int (pI pp o_5 0)) (C := RX8) (T := TX8) (N := 11) hx hb hts iv_k_X9_compileInstance_X8 hown hK hP k_6 hk_6 rfl 0 (by decide) (hE.at (.fieldLinkNest "AnswerFold$Solver" 119 "AnswerFold$Rule" "kind" "C" "AnswerFold") (by decide +kernel)) (fun _ h9 => h9) rfl dX9_compileInstance_127 ?_
            refine lv_bipush (v := 119) hx hb dX9_compileInstance_130 (by decide) ?_
            refine lv_icmp_ne (tgt := 156) hx hb dX9_compileInstance_132 (by decide) (fun c_7 => ?_) (fun c_7 => ?_)
            · rw [if_neg c_7] at hT
              refine lv_aload_n hx hb dX9_compileInstance_156 rfl (lv_at hl 0 rfl) ?_
              refine lv_aload_n hx hb dX9_compileInstance_157 rfl (lv_at hl 2 rfl) ?_
              refine lv_aload_n hx hb dX9_compileInstance_158 rfl (lv_at hl 0 rfl) ?_
              refine va_get (D := D) (ci := 11) (v := .ref (X 8)) (C := RX9) (T := TX9) (N := 17) hx hb hts iv_k_X9_compileInstance_X9 hown hK hP 10 rfl rfl 1 (by decide) (hts (.fieldLink RX9 38 "AnswerFold$Solver" "grounding" "LAnswerFold$Grounding;") (by decide +kernel)) (fun _ h9 => h9) rfl dX9_compileInstance_159 ?_
              refine lv_iload_n hx hb dX9_compileInstance_162 rfl (lv_at hl 1 rfl) ?_
              obtain ⟨t_163, ht_163⟩ : ∃ t, t = m_k_X3_keptRuleAt kr a1 := ⟨_, rfl⟩
              rw [lE_eq ht_163] at hT
              refine wq_iQW (wc := (wW_k_X3_keptRuleAt ty X hn kn on cu pu gw kr)) (pl := pw ty pp) (va_runV (As := [.int a1]) (rest := [.ref o_5, .ref (X 20)]) ⟨hx, hb, hml, hown, hts⟩ (k_X3_keptRuleAt l D ty td mi H.size X hn kn on cu pu gw kr a1 t_163 ht_163) (cwV 1 hts gv_k_X9_compileInstance_1 rfl rfl rfl (by decide +kernel) ⟨(Nat.le_of_ble_eq_true rfl), (Nat.le_of_ble_eq_true rfl)⟩) (wm_V (wm_preS (vP_left hP) (vD_left hD) hK hE hS hA [false, false, true, false, false, false, false, true] rfl) (va_recv (q0 := 2) (ci := 5) hK hP rfl rfl)) rfl rfl hl.1 rfl (lv_room (Nat.le_of_ble_eq_true rfl)) dX9_compileInstance_163 ⟨(Nat.le_of_ble_eq_true rfl), (Nat.le_of_ble_eq_true rfl)⟩) hS hA hP hD [false, false, true, false, false, false, false, true] rfl (fun _ _ h => by rcases h with ⟨-, rfl⟩; rfl) (fun r u H locs hw hP hD hS => ?_)
              obtain ⟨hr0, rfl⟩ := hw
              subst r
              have hP : va_P D vwCl ((wW_k_X9_compileInstance ty X pn rn tn en rf hn kn on cu pu gw t_5.2.1 t_5.2.2.1 t_5.2.2.2.1 t_5.2.2.2.2 su hds kr kv ob an ch cg fb mh ml ih lb ic cn c1 c2 c3 c4 c5 c6 wn w1 w2 w3 w4 w5 w6) ++ pw ty pp) H := hP
              have hD : va_D A ((wW_k_X9_compileInstance ty X pn rn tn en rf hn kn on cu pu gw t_5.2.1 t_5.2.2.1 t_5.2.2.2.1 t_5.2.2.2.2 su hds kr kv ob an ch cg fb mh ml ih lb ic cn c1 c2 c3 c4 c5 c6 wn w1 w2 w3 w4 w5 w6) ++ pw ty pp) := hD
              refine W.widen (k := 0) (n := 0) (Nat.le_of_ble_eq_true rfl) (Nat.le_of_ble_eq_true rfl) ?_
              refine lv_iload_n hx hb dX9_compileInstance_166 rfl (lv_at hl 3 rfl) ?_
              refine lv_iload hx hb dX9_compileInstance_167 (lv_at hl 4 rfl) ?_
              obtain ⟨t_169, ht_169⟩ : ∃ t, t = m_k_X9_compileHeads pp on t_5.2.1 t_5.2.2.1 t_5.2.2.2.1 t_5.2.2.2.2 su hds ob cn c1 c2 c3 c4 c5 c6 o_5 t_163 v3_22 v4_22 := ⟨_, rfl⟩
              rw [lE_eq ht_169] at hT
              refine wq_vPW (wc := (wW_k_X9_compileHeads ty X hn kn on cu pu gw t_5.2.1 t_5.2.2.1 t_5.2.2.2.1 t_5.2.2.2.2 su hds ob an ch cg fb mh ml ih lb ic cn c1 c2 c3 c4 c5 c6)) (pl := pw ty pp) (ux := (wW_k_X9_compileHeads ty X t_169.2.2.2.2.2.2.2.2.1 kn on cu pu gw t_5.2.1 t_5.2.2.1 t_169.2.2.2.2.2.2.2.2.2 t_5.2.2.2.2 su t_169.1 ob an ch cg fb mh ml ih lb ic t_169.2.1 t_169.2.2.1 t_169.2.2.2.1 t_169.2.2.2.2.1 t_169.2.2.2.2.2.1 t_169.2.2.2.2.2.2.1 t_169.2.2.2.2.2.2.2.1)) (va_runV (As := [.ref o_5, .int t_163, .int v3_22, .int v4_22]) (rest := []) ⟨hx, hb, hml, hown, hts⟩ (k_X9_compileHeads l D ty td mi H.size pp X hn kn on cu pu gw t_5.2.1 t_5.2.2.1 t_5.2.2.2.1 t_5.2.2.2.2 su hds ob an ch cg fb mh ml ih lb ic cn c1 c2 c3 c4 c5 c6 o_5 t_163 v3_22 v4_22 hok (mm_k_X3_bindKept pp rn rf b_1 b_2 b_3 b_p kr kv a1 hok hru _ (by rw [← ht_5]; exact ho_5)) t_169 ht_169) (cwV 4 hts gv_k_X9_compileInstance_2 rfl rfl rfl (by decide +kernel) ⟨(Nat.le_of_ble_eq_true rfl), (Nat.le_of_ble_eq_true rfl)⟩) (wm_V (wm_preSP hP hD hK hE hS hA [false, false, true, true, true, true, true, false, false, true, true, true, true, true, true, true, true, true] rfl) (va_recv (q0 := 10) (ci := 11) hK hP rfl rfl)) rfl rfl hl.1 rfl (lv_room (Nat.le_of_ble_eq_true rfl)) dX9_compileInstance_169 ⟨(Nat.le_of_ble_eq_true rfl), (Nat.le_of_ble_eq_true rfl)⟩) hS hA hP hD [false, false, true, true, true, true, true, false, false, true, true, true, true, true, true, true, true, true] rfl rfl (fun _ h => h) (fun  H locs hw hP hD hS => ?_)
              have hP : va_P D vwCl ((wW_k_X9_compileInstance ty X pn rn tn en rf t_169.2.2.2.2.2.2.2.2.1 kn on cu pu gw t_5.2.1 t_5.2.2.1 t_169.2.2.2.2.2.2.2.2.2 t_5.2.2.2.2 su t_169.1 kr kv ob an ch cg fb mh ml ih lb ic t_169.2.1 t_169.2.2.1 t_169.2.2.2.1 t_169.2.2.2.2.1 t_169.2.2.2.2.2.1 t_169.2.2.2.2.2.2.1 t_169.2.2.2.2.2.2.2.1 wn w1 w2 w3 w4 w5 w6) ++ pw ty pp) H := hP
              have hD : va_D A ((wW_k_X9_compileInstance ty X pn rn tn en rf t_169.2.2.2.2.2.2.2.2.1 kn on cu pu gw t_5.2.1 t_5.2.2.1 t_169.2.2.2.2.2.2.2.2.2 t_5.2.2.2.2 su t_169.1 kr kv ob an ch cg fb mh ml ih lb ic t_169.2.1 t_169.2.2.1 t_169.2.2.2.1 t_169.2.2.2.2.1 t_169.2.2.2.2.2.1 t_169.2.2.2.2.2.2.1 t_169.2.2.2.2.2.2.2.1 wn w1 w2 w3 w4 w5 w6) ++ pw ty pp) := hD
              refine W.widen (k := 0) (n := 0) (Nat.le_of_ble_eq_true rfl) (Nat.le_of_ble_eq_true rfl) ?_
              exact END t_169.1 t_169.2.1 t_169.2.2.1 t_169.2.2.2.1 t_169.2.2.2.2.1 t_169.2.2.2.2.2.1 t_169.2.2.2.2.2.2.1 t_169.2.2.2.2.2.2.2.1 wn w1 w2 w3 w4 w5 w6 t_169.2.2.2.2.2.2.2.2.1 t_5.2.1 t_5.2.2.1 t_169.2.2.2.2.2.2.2.2.2 t_5.2.2.2.2 hT _ _ hP hD hS _ _ dX9_compileInstance_172
            · rw [if_pos c_7] at hT
              refine lv_aload_n hx hb dX9_compileInstance_135 rfl (lv_at hl 0 rfl) ?_
              refine va_get (D := D) (ci := 11) (v := .ref (X 28)) (C := RX9) (T := TX9) (N := 17) hx hb hts iv_k_X9_compileInstance_X9 hown hK hP 10 rfl rfl 3 (by decide) (hts (.fieldLink RX9 18 "AnswerFold$Solver" "weaks" "LAnswerFold$Rows;") (by decide +kernel)) (fun _ h9 => h9) rfl dX9_compileInstance_136 ?_
              refine lv_aload_n hx hb dX9_compileInstance_139 rfl (lv_at hl 0 rfl) ?_
              refine va_get (D := D) (ci := 11) (v := .ref (X 8)) (C := RX9) (T := TX9) (N := 17) hx hb hts iv_k_X9_compileInstance_X9 hown hK hP 10 rfl rfl 1 (by decide) (hts (.fieldLink RX9 38 "AnswerFold$Solver" "grounding" "LAnswerFold$Grounding;") (by decide +kernel)) (fun _ h9 => h9) rfl dX9_compileInstance_140 ?_
              refine lv_iload_n hx hb dX9_compileInstance_143 rfl (lv_at hl 1 rfl) ?_
              obtain ⟨t_144, ht_144⟩ : ∃ t, t = m_k_X3_keptRuleAt kr a1 := ⟨_, rfl⟩
              rw [lE_eq ht_144] at hT
              refine wq_iQW (wc := (wW_k_X3_keptRuleAt ty X hn kn on cu pu gw kr)) (pl := pw ty pp) (va_runV (As := [.int a1]) (rest := [.ref (X 28)]) ⟨hx, hb, hml, hown, hts⟩ (k_X3_keptRuleAt l D ty td mi H.size X hn kn on cu pu gw kr a1 t_144 ht_144) (cwV 1 hts gv_k_X9_compileInstance_3 rfl rfl rfl (by decide +kernel) ⟨(Nat.le_of_ble_eq_true rfl), (Nat.le_of_ble_eq_true rfl)⟩) (wm_V (wm_preS (vP_left hP) (vD_left hD) hK hE hS hA [false, false, true, false, false, false, false, true] rfl) (va_recv (q0 := 2) (ci := 5) hK hP rfl rfl)) rfl rfl hl.1 rfl (lv_room (Nat.le_of_ble_eq_true rfl)) dX9_compileInstance_144 ⟨(Nat.le_of_ble_eq_true rfl), (Nat.le_of_ble_eq_true rfl)⟩) hS hA hP hD [false, false, true, false, false, false, false, true] rfl (fun _ _ h => by rcases h with ⟨-, rfl⟩; rfl) (fun r u H locs hw hP hD hS => ?_)
              obtain ⟨hr0, rfl⟩ := hw
              subst r
              have hP : va_P D vwCl ((wW_k_X9_compileInstance ty X pn rn tn en rf hn kn on cu pu gw t_5.2.1 t_5.2.2.1 t_5.2.2.2.1 t_5.2.2.2.2 su hds kr kv ob an ch cg fb mh ml ih lb ic cn c1 c2 c3 c4 c5 c6 wn w1 w2 w3 w4 w5 w6) ++ pw ty pp) H := hP
              have hD : va_D A ((wW_k_X9_compileInstance ty X pn rn tn en rf hn kn on cu pu gw t_5.2.1 t_5.2.2.1 t_5.2.2.2.1 t_5.2.2.2.2 su hds kr kv ob an ch cg fb mh ml ih lb ic cn c1 c2 c3 c4 c5 c6 wn w1 w2 w3 w4 w5 w6) ++ pw ty pp) := hD
              refine W.widen (k := 0) (n := 0) (Nat.le_of_ble_eq_true rfl) (Nat.le_of_ble_eq_true rfl) ?_
              refine lv_iload_n hx hb dX9_compileInstance_147 rfl (lv_at hl 3 rfl) ?_
              refine lv_iload hx hb dX9_compileInstance_148 (lv_at hl 4 rfl) ?_
              obtain ⟨t_150, ht_150⟩ : ∃ t, t = m_k_X7_add wn w1 w2 w3 w4 w5 w6 t_144 v3_22 v4_22 := ⟨_, rfl⟩
              rw [lE_eq ht_150] at hT
              refine wq_vQW (wc := (wW_k_X7_add ty (X 28) (X 29) (X 30) (X 31) (X 32) (X 33) (X 34) wn w1 w2 w3 w4 w5 w6)) (pl := pw ty pp) (va_runV (As := [.int t_144, .int v3_22, .int v4_22]) (rest := []) ⟨hx, hb, hml, hown, hts⟩ (k_X7_add l D ty td mi H.size (X 28) (X 29) (X 30) (X 31) (X 32) (X 33) (X 34) wn w1 w2 w3 w4 w5 w6 t_144 v3_22 v4_22 t_150 ht_150) (cwV 3 hts gv_k_X9_compileInstance_4 rfl rfl rfl (by decide +kernel) ⟨(Nat.le_of_ble_eq_true rfl), (Nat.le_of_ble_eq_true rfl)⟩) (wm_V (wm_preS (vP_left hP) (vD_left hD) hK hE hS hA [false, false, false, false, false, false, false, false, false, false, false, false, false, false, false, false, false, false, true, true, true, true, true, true, true] rfl) (va_recv (q0 := 18) (ci := 9) hK hP rfl rfl)) rfl rfl hl.1 rfl (lv_room (Nat.le_of_ble_eq_true rfl)) dX9_compileInstance_150 ⟨(Nat.le_of_ble_eq_true rfl), (Nat.le_of_ble_eq_true rfl)⟩) hS hA hP hD [false, false, false, false, false, false, false, false, false, false, false, false, false, false, false, false, false, false, true, true, true, true, true, true, true] rfl (fun _ h => by rcases h with rfl; rfl) (fun u H locs hw hP hD hS => ?_)
              obtain rfl := hw
              have hP : va_P D vwCl ((wW_k_X9_compileInstance ty X pn rn tn en rf hn kn on cu pu gw t_5.2.1 t_5.2.2.1 t_5.2.2.2.1 t_5.2.2.2.2 su hds kr kv ob an ch cg fb mh ml ih lb ic cn c1 c2 c3 c4 c5 c6 t_150.1 t_150.2.1 t_150.2.2.1 t_150.2.2.2.1 t_150.2.2.2.2.1 t_150.2.2.2.2.2.1 t_150.2.2.2.2.2.2) ++ pw ty pp) H := hP
              have hD : va_D A ((wW_k_X9_compileInstance ty X pn rn tn en rf hn kn on cu pu gw t_5.2.1 t_5.2.2.1 t_5.2.2.2.1 t_5.2.2.2.2 su hds kr kv ob an ch cg fb mh ml ih lb ic cn c1 c2 c3 c4 c5 c6 t_150.1 t_150.2.1 t_150.2.2.1 t_150.2.2.2.1 t_150.2.2.2.2.1 t_150.2.2.2.2.2.1 t_150.2.2.2.2.2.2) ++ pw ty pp) := hD
              refine W.widen (k := 0) (n := 0) (Nat.le_of_ble_eq_true rfl) (Nat.le_of_ble_eq_true rfl) ?_
              refine lv_goto (tgt := 172) hx hb dX9_compileInstance_153 (by decide) ?_
              exact END hds cn c1 c2 c3 c4 c5 c6 t_150.1 t_150.2.1 t_150.2.2.1 t_150.2.2.2.1 t_150.2.2.2.2.1 t_150.2.2.2.2.2.1 t_150.2.2.2.2.2.2 hn t_5.2.1 t_5.2.2.1 t_5.2.2.2.1 t_5.2.2.2.2 hT _ _ hP hD hS _ _ dX9_compileInstance_172
          · rw [if_neg c_5] at hT
            exact END hds cn c1 c2 c3 c4 c5 c6 wn w1 w2 w3 w4 w5 w6 hn t_5.2.1 t_5.2.2.1 t_5.2.2.2.1 t_5.2.2.2.2 hT _ _ hP hD hS _ _ dX9_compileInstance_125
        · rw [if_neg c_4] at hT
          refine lv_aload_n hx hb dX9_compileInstance_31 rfl (lv_at hl 2 rfl) ?_
          refine lv_iload hx hb dX9_compileInstance_32 (lv_at hl 5 rfl) ?_
          obtain ⟨t_34, ht_34⟩ : ∃ t, t = m_k_X8_conditionAt pp o_5 v5_22 := ⟨_, rfl⟩
          rw [lE_eq ht_34] at hT
          obtain ⟨k_16, hk_16⟩ := List.getElem?_of_mem (pw_rule (ty := ty) (p := pp) (L := [((X 1), .inr (8, [.ref (X 2), .int pn, .ref (X 3), .int rn, .ref (X 4), .ref (X 5), .int tn, .ref (X 6), .ref (X 7), .int en])), ((X 3), .inl (ty 4, 20, .inr (.inr (.inr (.inr rf))))), ((X 8), .inr (5, [.ref (X 1), .ref (X 9), .ref (X 10), .ref (X 12), .ref (X 14), .int hn, .ref (X 15), .ref (X 16), .ref (X 17), .int kn, .ref (X 18), .ref (X 19), .int on, .int cu, .int pu, .int gw])), ((X 9), .inr (4, [.int t_5.2.1, .int t_5.2.2.1, .int t_5.2.2.2.1, .int t_5.2.2.2.2])), ((X 10), .inr (3, [.ref (X 11)])), ((X 11), .inl (ty 1, 6, .inr (.inl su))), ((X 14), .inl (ty 0, 16, .inl hds)), ((X 15), .inl (ty 0, 300, .inl kr)), ((X 16), .inl (ty 0, 300, .inl kv)), ((X 19), .inl (ty 0, 384, .inl ob)), ((X 20), .inr (11, [.ref (X 1), .ref (X 8), .ref (X 21), .ref (X 28), .ref (X 35), .int an, .ref (X 36), .ref (X 37), .ref (X 38), .int ch, .int cg, .int fb, .int mh, .int ml, .int ih, .int lb, .int ic])), ((X 21), .inr (9, [.ref (X 22), .ref (X 23), .ref (X 24), .ref (X 25), .ref (X 26), .ref (X 27), .int cn])), ((X 22), .inl (ty 0, 300, .inl c1)), ((X 23), .inl (ty 0, 300, .inl c2)), ((X 24), .inl (ty 0, 300, .inl c3)), ((X 25), .inl (ty 0, 300, .inl c4)), ((X 26), .inl (ty 0, 300, .inl c5)), ((X 27), .inl (ty 0, 300, .inl c6)), ((X 28), .inr (9, [.ref (X 29), .ref (X 30), .ref (X 31), .ref (X 32), .ref (X 33), .ref (X 34), .int wn])), ((X 29), .inl (ty 0, 300, .inl w1)), ((X 30), .inl (ty 0, 300, .inl w2)), ((X 31), .inl (ty 0, 300, .inl w3)), ((X 32), .inl (ty 0, 300, .inl w4)), ((X 33), .inl (ty 0, 300, .inl w5)), ((X 34), .inl (ty 0, 300, .inl w6))]) (mm_k_X3_bindKept pp rn rf b_1 b_2 b_3 b_p kr kv a1 hok hru _ (by rw [← ht_5]; exact ho_5)))
          refine wq_rPW (wc := []) (pl := pw ty pp) (ux := []) (va_runV (As := [.int v5_22]) (rest := []) ⟨hx, hb, hml, hown, hts⟩ (k_X8_conditionAt l D ty td mi H.size pp o_5 v5_22 hok (mm_k_X3_bindKept pp rn rf b_1 b_2 b_3 b_p kr kv a1 hok hru _ (by rw [← ht_5]; exact ho_5)) t_34 ht_34) (cwV 1 hts gv_k_X9_compileInstance_5 rfl rfl rfl (by decide +kernel) ⟨(Nat.le_of_ble_eq_true rfl), (Nat.le_of_ble_eq_true rfl)⟩) (wm_V (wm_preSP hP hD hK hE hS hA [] rfl) (va_recv (q0 := k_16) (ci := 10) hK hP rfl hk_16)) rfl rfl hl.1 rfl (lv_room (Nat.le_of_ble_eq_true rfl)) dX9_compileInstance_34 ⟨(Nat.le_of_ble_eq_true rfl), (Nat.le_of_ble_eq_true rfl)⟩) hS hA hP hD [] rfl rfl (fun _ _ h => h.2) (fun r H locs hw hP hD hS => ?_)
          obtain ⟨rfl, -⟩ := hw
          have hP : va_P D vwCl ((wW_k_X9_compileInstance ty X pn rn tn en rf hn kn on cu pu gw t_5.2.1 t_5.2.2.1 t_5.2.2.2.1 t_5.2.2.2.2 su hds kr kv ob an ch cg fb mh ml ih lb ic cn c1 c2 c3 c4 c5 c6 wn w1 w2 w3 w4 w5 w6) ++ pw ty pp) H := hP
          have hD : va_D A ((wW_k_X9_compileInstance ty X pn rn tn en rf hn kn on cu pu gw t_5.2.1 t_5.2.2.1 t_5.2.2.2.1 t_5.2.2.2.2 su hds kr kv ob an ch cg fb mh ml ih lb ic cn c1 c2 c3 c4 c5 c6 wn w1 w2 w3 w4 w5 w6) ++ pw ty pp) := hD
          refine W.widen (k := 0) (n := 0) (Nat.le_of_ble_eq_true rfl) (Nat.le_of_ble_eq_true rfl) ?_
          rcases ho_34 : t_34 with _ | o_34
          · rw [ho_34, oE_none] at hT
            refine W.eq (g2 := F0 m 37 ls [.null]) rfl ?_
            refine lv_astoreN (lv' := [(6, .null), (0, .ref (X 20)), (1, .int a1), (2, .ref o_5), (3, .int v3_22), (4, .int v4_22), (5, .int v5_22)]) hx hb dX9_compileInstance_37 hl (by decide) rfl (fun ls hl => ?_)
            refine lv_aloadN hx hb dX9_compileInstance_39 (lv_at hl 0 rfl) ?_
            have J_112 : ∀ (v3_112 : Int32) (v4_112 : Int32), TT = m_k_X9_compileInstance_112 (m_k_X9_compileInstance_22 pp hn on su hds kr ob cn c1 c2 c3 c4 c5 c6 wn w1 w2 w3 w4 w5 w6 a1 o_5 t_5 n_22) v5_22 v3_112 v4_112 → ∀ (H : Heap) (locs : List Loc), va_P D vwCl ((wW_k_X9_compileInstance ty X pn rn tn en rf hn kn on cu pu gw t_5.2.1 t_5.2.2.1 t_5.2.2.2.1 t_5.2.2.2.2 su hds kr kv ob an ch cg fb mh ml ih lb ic cn c1 c2 c3 c4 c5 c6 wn w1 w2 w3 w4 w5 w6) ++ pw ty pp) H → va_D A ((wW_k_X9_compileInstance ty X pn rn tn en rf hn kn on cu pu gw t_5.2.1 t_5.2.2.1 t_5.2.2.2.1 t_5.2.2.2.2 su hds kr kv ob an ch cg fb mh ml ih lb ic cn c1 c2 c3 c4 c5 c6 wn w1 w2 w3 w4 w5 w6) ++ pw ty pp) → va_S A s.heap H locs → ∀ ls : Array Slot, lv_has ls 7 [(0, .ref (X 20)), (1, .int a1), (2, .ref o_5), (3, .int v3_112), (4, .int v4_112), (5, .int v5_22)] → W p l e (headSpec vs_k_X9_compileInstance { frames := 4, cells := 0, slots := 0, locals := 100 }).room s m ([.ref (X 20), .int a1] : List Value).toArray below meth c H locs 0 0 (MQ below (va_Qv (fun u : va_W => ((u = ((wW_k_X9_compileInstance ty X pn rn tn en rf TT.2.2.2.2.2.2.2.2.2.2.2.2.2.2.2.1 kn on cu pu gw TT.2.2.2.2.2.2.2.2.2.2.2.2.2.2.2.2.1 TT.2.2.2.2.2.2.2.2.2.2.2.2.2.2.2.2.2.1 TT.2.2.2.2.2.2.2.2.2.2.2.2.2.2.2.2.2.2.1 TT.2.2.2.2.2.2.2.2.2.2.2.2.2.2.2.2.2.2.2 su TT.1 kr kv ob an ch cg fb mh ml ih lb ic TT.2.1 TT.2.2.1 TT.2.2.2.1 TT.2.2.2.2.1 TT.2.2.2.2.2.1 TT.2.2.2.2.2.2.1 TT.2.2.2.2.2.2.2.1 TT.2.2.2.2.2.2.2.2.1 TT.2.2.2.2.2.2.2.2.2.1 TT.2.2.2.2.2.2.2.2.2.2.1 TT.2.2.2.2.2.2.2.2.2.2.2.1 TT.2.2.2.2.2.2.2.2.2.2.2.2.1 TT.2.2.2.2.2.2.2.2.2.2.2.2.2.1 TT.2.2.2.2.2.2.2.2.2.2.2.2.2.2.1) ++ pw ty pp)))) (wq_B D A) A) ([.ref (X 20), .int a1] : List Value).toArray s 0 0 A) (F0 m 112 ls []) := by
              intro v3_112 v4_112 hT  H locs hP hD hS ls hl
              rw [m_k_X9_compileInstance_112] at hT
              refine lv_iinc (v := v5_22 + 1) (lv' := [(5, .int (v5_22 + 1)), (0, .ref (X 20)), (1, .int a1), (2, .ref o_5), (3, .int v3_112), (4, .int v4_112)]) hx hb dX9_compileInstance_112 hl (k := 5) rfl (by rfl) (by decide) rfl (fun ls hl => ?_)
              refine lv_goto (tgt := 22) hx hb dX9_compileInstance_115 (by decide) ?_
              exact ih_22 v3_112 v4_112 (v5_22 + 1) (wi_up hu_22 (Int32.not_le.mp c_4)) hT (wi_inc hn_22 (Int32.not_le.mp c_4)) _ _ hP hD hS _ (lv_sub hl [1, 2, 3, 4, 5, 0] rfl)
            have J_76 : ∀ (_ : Unit), TT = m_k_X9_compileInstance_76 (m_k_X9_compileInstance_22 pp hn on su hds kr ob cn c1 c2 c3 c4 c5 c6 wn w1 w2 w3 w4 w5 w6 a1 o_5 t_5 n_22) v3_22 v4_22 v5_22 → ∀ (H : Heap) (locs : List Loc), va_P D vwCl ((wW_k_X9_compileInstance ty X pn rn tn en rf hn kn on cu pu gw t_5.2.1 t_5.2.2.1 t_5.2.2.2.1 t_5.2.2.2.2 su hds kr kv ob an ch cg fb mh ml ih lb ic cn c1 c2 c3 c4 c5 c6 wn w1 w2 w3 w4 w5 w6) ++ pw ty pp) H → va_D A ((wW_k_X9_compileInstance ty X pn rn tn en rf hn kn on cu pu gw t_5.2.1 t_5.2.2.1 t_5.2.2.2.1 t_5.2.2.2.2 su hds kr kv ob an ch cg fb mh ml ih lb ic cn c1 c2 c3 c4 c5 c6 wn w1 w2 w3 w4 w5 w6) ++ pw ty pp) → va_S A s.heap H locs → ∀ ls : Array Slot, lv_has ls 7 [(0, .ref (X 20)), (1, .int a1), (2, .ref o_5), (3, .int v3_22), (4, .int v4_22), (5, .int v5_22), (6, .null)] → W p l e (headSpec vs_k_X9_compileInstance { frames := 4, cells := 0, slots := 0, locals := 100 }).room s m ([.ref (X 20), .int a1] : List Value).toArray below meth c H locs 0 0 (MQ below (va_Qv (fun u : va_W => ((u = ((wW_k_X9_compileInstance ty X pn rn tn en rf TT.2.2.2.2.2.2.2.2.2.2.2.2.2.2.2.1 kn on cu pu gw TT.2.2.2.2.2.2.2.2.2.2.2.2.2.2.2.2.1 TT.2.2.2.2.2.2.2.2.2.2.2.2.2.2.2.2.2.1 TT.2.2.2.2.2.2.2.2.2.2.2.2.2.2.2.2.2.2.1 TT.2.2.2.2.2.2.2.2.2.2.2.2.2.2.2.2.2.2.2 su TT.1 kr kv ob an ch cg fb mh ml ih lb ic TT.2.1 TT.2.2.1 TT.2.2.2.1 TT.2.2.2.2.1 TT.2.2.2.2.2.1 TT.2.2.2.2.2.2.1 TT.2.2.2.2.2.2.2.1 TT.2.2.2.2.2.2.2.2.1 TT.2.2.2.2.2.2.2.2.2.1 TT.2.2.2.2.2.2.2.2.2.2.1 TT.2.2.2.2.2.2.2.2.2.2.2.1 TT.2.2.2.2.2.2.2.2.2.2.2.2.1 TT.2.2.2.2.2.2.2.2.2.2.2.2.2.1 TT.2.2.2.2.2.2.2.2.2.2.2.2.2.2.1) ++ pw ty pp)))) (wq_B D A) A) ([.ref (X 20), .int a1] : List Value).toArray s 0 0 A) (F0 m 76 ls []) := by
              intro _ hT  H locs hP hD hS ls hl
              rw [m_k_X9_compileInstance_76] at hT
              refine lv_aloadN hx hb dX9_compileInstance_76 (lv_at hl 6 rfl) ?_
              refine lv_ifnullN (tgt := 112) hx hb dX9_compileInstance_78 (by decide) ?_
              exact J_112 v3_22 v4_22 hT _ _ hP hD hS _ (lv_sub hl [0, 1, 2, 3, 4, 5] rfl)
            refine lv_ifnullN (tgt := 76) hx hb dX9_compileInstance_41 (by decide) ?_
            exact J_76 () hT _ _ hP hD hS _ (lv_sub hl [1, 2, 3, 4, 5, 6, 0] rfl)
          · rw [ho_34, oE_some] at hT
            refine W.eq (g2 := F0 m 37 ls [.ref o_34]) rfl ?_
            refine lv_astore (lv' := [(6, .ref o_34), (0, .ref (X 20)), (1, .int a1), (2, .ref o_5), (3, .int v3_22), (4, .int v4_22), (5, .int v5_22)]) hx hb dX9_compileInstance_37 hl (by decide) rfl (fun ls hl => ?_)
            refine lv_aload hx hb dX9_compileInstance_39 (lv_at hl 0 rfl) ?_
            have J_112 : ∀ (v3_112 : Int32) (v4_112 : Int32), TT = m_k_X9_compileInstance_112 (m_k_X9_compileInstance_22 pp hn on su hds kr ob cn c1 c2 c3 c4 c5 c6 wn w1 w2 w3 w4 w5 w6 a1 o_5 t_5 n_22) v5_22 v3_112 v4_112 → ∀ (H : Heap) (locs : List Loc), va_P D vwCl ((wW_k_X9_compileInstance ty X pn rn tn en rf hn kn on cu pu gw t_5.2.1 t_5.2.2.1 t_5.2.2.2.1 t_5.2.2.2.2 su hds kr kv ob an ch cg fb mh ml ih lb ic cn c1 c2 c3 c4 c5 c6 wn w1 w2 w3 w4 w5 w6) ++ pw ty pp) H → va_D A ((wW_k_X9_compileInstance ty X pn rn tn en rf hn kn on cu pu gw t_5.2.1 t_5.2.2.1 t_5.2.2.2.1 t_5.2.2.2.2 su hds kr kv ob an ch cg fb mh ml ih lb ic cn c1 c2 c3 c4 c5 c6 wn w1 w2 w3 w4 w5 w6) ++ pw ty pp) → va_S A s.heap H locs → ∀ ls : Array Slot, lv_has ls 7 [(0, .ref (X 20)), (1, .int a1), (2, .ref o_5), (3, .int v3_112), (4, .int v4_112), (5, .int v5_22)] → W p l e (headSpec vs_k_X9_compileInstance { frames := 4, cells := 0, slots := 0, locals := 100 }).room s m ([.ref (X 20), .int a1] : List Value).toArray below meth c H locs 0 0 (MQ below (va_Qv (fun u : va_W => ((u = ((wW_k_X9_compileInstance ty X pn rn tn en rf TT.2.2.2.2.2.2.2.2.2.2.2.2.2.2.2.1 kn on cu pu gw TT.2.2.2.2.2.2.2.2.2.2.2.2.2.2.2.2.1 TT.2.2.2.2.2.2.2.2.2.2.2.2.2.2.2.2.2.1 TT.2.2.2.2.2.2.2.2.2.2.2.2.2.2.2.2.2.2.1 TT.2.2.2.2.2.2.2.2.2.2.2.2.2.2.2.2.2.2.2 su TT.1 kr kv ob an ch cg fb mh ml ih lb ic TT.2.1 TT.2.2.1 TT.2.2.2.1 TT.2.2.2.2.1 TT.2.2.2.2.2.1 TT.2.2.2.2.2.2.1 TT.2.2.2.2.2.2.2.1 TT.2.2.2.2.2.2.2.2.1 TT.2.2.2.2.2.2.2.2.2.1 TT.2.2.2.2.2.2.2.2.2.2.1 TT.2.2.2.2.2.2.2.2.2.2.2.1 TT.2.2.2.2.2.2.2.2.2.2.2.2.1 TT.2.2.2.2.2.2.2.2.2.2.2.2.2.1 TT.2.2.2.2.2.2.2.2.2.2.2.2.2.2.1) ++ pw ty pp)))) (wq_B D A) A) ([.ref (X 20), .int a1] : List Value).toArray s 0 0 A) (F0 m 112 ls []) := by
              intro v3_112 v4_112 hT  H locs hP hD hS ls hl
              rw [m_k_X9_compileInstance_112] at hT
              refine lv_iinc (v := v5_22 + 1) (lv' := [(5, .int (v5_22 + 1)), (0, .ref (X 20)), (1, .int a1), (2, .ref o_5), (3, .int v3_112), (4, .int v4_112)]) hx hb dX9_compileInstance_112 hl (k := 5) rfl (by rfl) (by decide) rfl (fun ls hl => ?_)
              refine lv_goto (tgt := 22) hx hb dX9_compileInstance_115 (by decide) ?_
              exact ih_22 v3_112 v4_112 (v5_22 + 1) (wi_up hu_22 (Int32.not_le.mp c_4)) hT (wi_inc hn_22 (Int32.not_le.mp c_4)) _ _ hP hD hS _ (lv_sub hl [1, 2, 3, 4, 5, 0] rfl)
            have J_76 : ∀ (_ : Unit), TT = m_k_X9_compileInstance_76 (m_k_X9_compileInstance_22 pp hn on su hds kr ob cn c1 c2 c3 c4 c5 c6 wn w1 w2 w3 w4 w5 w6 a1 o_5 t_5 n_22) v3_22 v4_22 v5_22 → ∀ (H : Heap) (locs : List Loc), va_P D vwCl ((wW_k_X9_compileInstance ty X pn rn tn en rf hn kn on cu pu gw t_5.2.1 t_5.2.2.1 t_5.2.2.2.1 t_5.2.2.2.2 su hds kr kv ob an ch cg fb mh ml ih lb ic cn c1 c2 c3 c4 c5 c6 wn w1 w2 w3 w4 w5 w6) ++ pw ty pp) H → va_D A ((wW_k_X9_compileInstance ty X pn rn tn en rf hn kn on cu pu gw t_5.2.1 t_5.2.2.1 t_5.2.2.2.1 t_5.2.2.2.2 su hds kr kv ob an ch cg fb mh ml ih lb ic cn c1 c2 c3 c4 c5 c6 wn w1 w2 w3 w4 w5 w6) ++ pw ty pp) → va_S A s.heap H locs → ∀ ls : Array Slot, lv_has ls 7 [(0, .ref (X 20)), (1, .int a1), (2, .ref o_5), (3, .int v3_22), (4, .int v4_22), (5, .int v5_22), (6, .null)] → W p l e (headSpec vs_k_X9_compileInstance { frames := 4, cells := 0, slots := 0, locals := 100 }).room s m ([.ref (X 20), .int a1] : List Value).toArray below meth c H locs 0 0 (MQ below (va_Qv (fun u : va_W => ((u = ((wW_k_X9_compileInstance ty X pn rn tn en rf TT.2.2.2.2.2.2.2.2.2.2.2.2.2.2.2.1 kn on cu pu gw TT.2.2.2.2.2.2.2.2.2.2.2.2.2.2.2.2.1 TT.2.2.2.2.2.2.2.2.2.2.2.2.2.2.2.2.2.1 TT.2.2.2.2.2.2.2.2.2.2.2.2.2.2.2.2.2.2.1 TT.2.2.2.2.2.2.2.2.2.2.2.2.2.2.2.2.2.2.2 su TT.1 kr kv ob an ch cg fb mh ml ih lb ic TT.2.1 TT.2.2.1 TT.2.2.2.1 TT.2.2.2.2.1 TT.2.2.2.2.2.1 TT.2.2.2.2.2.2.1 TT.2.2.2.2.2.2.2.1 TT.2.2.2.2.2.2.2.2.1 TT.2.2.2.2.2.2.2.2.2.1 TT.2.2.2.2.2.2.2.2.2.2.1 TT.2.2.2.2.2.2.2.2.2.2.2.1 TT.2.2.2.2.2.2.2.2.2.2.2.2.1 TT.2.2.2.2.2.2.2.2.2.2.2.2.2.1 TT.2.2.2.2.2.2.2.2.2.2.2.2.2.2.1) ++ pw ty pp)))) (wq_B D A) A) ([.ref (X 20), .int a1] : List Value).toArray s 0 0 A) (F0 m 76 ls []) := by
              intro _ hT  H locs hP hD hS ls hl
              rw [m_k_X9_compileInstance_76] at hT
              refine lv_aloadN hx hb dX9_compileInstance_76 (lv_at hl 6 rfl) ?_
              refine lv_ifnullN (tgt := 112) hx hb dX9_compileInstance_78 (by decide) ?_
              exact J_112 v3_22 v4_22 hT _ _ hP hD hS _ (lv_sub hl [0, 1, 2, 3, 4, 5] rfl)
            have J_76a : ∀ (_ : Unit), TT = m_k_X9_compileInstance_76a pp on ob o_34 (m_k_X9_compileInstance_22 pp hn on su hds kr ob cn c1 c2 c3 c4 c5 c6 wn w1 w2 w3 w4 w5 w6 a1 o_5 t_5 n_22) t_5 v3_22 v4_22 v5_22 → ∀ (H : Heap) (locs : List Loc), va_P D vwCl ((wW_k_X9_compileInstance ty X pn rn tn en rf hn kn on cu pu gw t_5.2.1 t_5.2.2.1 t_5.2.2.2.1 t_5.2.2.2.2 su hds kr kv ob an ch cg fb mh ml ih lb ic cn c1 c2 c3 c4 c5 c6 wn w1 w2 w3 w4 w5 w6) ++ pw ty pp) H → va_D A ((wW_k_X9_compileInstance ty X pn rn tn en rf hn kn on cu pu gw t_5.2.1 t_5.2.2.1 t_5.2.2.2.1 t_5.2.2.2.2 su hds kr kv ob an ch cg fb mh ml ih lb ic cn c1 c2 c3 c4 c5 c6 wn w1 w2 w3 w4 w5 w6) ++ pw ty pp) → va_S A s.heap H locs → ∀ ls : Array Slot, lv_has ls 7 [(0, .ref (X 20)), (1, .int a1), (2, .ref o_5), (3, .int v3_22), (4, .int v4_22), (5, .int v5_22), (6, .ref o_34)] → W p l e (headSpec vs_k_X9_compileInstance { frames := 4, cells := 0, slots := 0, locals := 100 }).room s m ([.ref (X 20), .int a1] : List Value).toArray below meth c H locs 0 0 (MQ below (va_Qv (fun u : va_W => ((u = ((wW_k_X9_compileInstance ty X pn rn tn en rf TT.2.2.2.2.2.2.2.2.2.2.2.2.2.2.2.1 kn on cu pu gw TT.2.2.2.2.2.2.2.2.2.2.2.2.2.2.2.2.1 TT.2.2.2.2.2.2.2.2.2.2.2.2.2.2.2.2.2.1 TT.2.2.2.2.2.2.2.2.2.2.2.2.2.2.2.2.2.2.1 TT.2.2.2.2.2.2.2.2.2.2.2.2.2.2.2.2.2.2.2 su TT.1 kr kv ob an ch cg fb mh ml ih lb ic TT.2.1 TT.2.2.1 TT.2.2.2.1 TT.2.2.2.2.1 TT.2.2.2.2.2.1 TT.2.2.2.2.2.2.1 TT.2.2.2.2.2.2.2.1 TT.2.2.2.2.2.2.2.2.1 TT.2.2.2.2.2.2.2.2.2.1 TT.2.2.2.2.2.2.2.2.2.2.1 TT.2.2.2.2.2.2.2.2.2.2.2.1 TT.2.2.2.2.2.2.2.2.2.2.2.2.1 TT.2.2.2.2.2.2.2.2.2.2.2.2.2.1 TT.2.2.2.2.2.2.2.2.2.2.2.2.2.2.1) ++ pw ty pp)))) (wq_B D A) A) ([.ref (X 20), .int a1] : List Value).toArray s 0 0 A) (F0 m 76 ls []) := by
              intro _ hT  H locs hP hD hS ls hl
              rw [m_k_X9_compileInstance_76a] at hT
              refine lv_aload hx hb dX9_compileInstance_76 (lv_at hl 6 rfl) ?_
              refine lv_ifnull hx hb dX9_compileInstance_78 ?_
              refine lv_aload hx hb dX9_compileInstance_81 (lv_at hl 6 rfl) ?_
              obtain ⟨k_19, hk_19⟩ := List.getElem?_of_mem (pw_lit (ty := ty) (p := pp) (L := [((X 1), .inr (8, [.ref (X 2), .int pn, .ref (X 3), .int rn, .ref (X 4), .ref (X 5), .int tn, .ref (X 6), .ref (X 7), .int en])), ((X 3), .inl (ty 4, 20, .inr (.inr (.inr (.inr rf))))), ((X 8), .inr (5, [.ref (X 1), .ref (X 9), .ref (X 10), .ref (X 12), .ref (X 14), .int hn, .ref (X 15), .ref (X 16), .ref (X 17), .int kn, .ref (X 18), .ref (X 19), .int on, .int cu, .int pu, .int gw])), ((X 9), .inr (4, [.int t_5.2.1, .int t_5.2.2.1, .int t_5.2.2.2.1, .int t_5.2.2.2.2])), ((X 10), .inr (3, [.ref (X 11)])), ((X 11), .inl (ty 1, 6, .inr (.inl su))), ((X 14), .inl (ty 0, 16, .inl hds)), ((X 15), .inl (ty 0, 300, .inl kr)), ((X 16), .inl (ty 0, 300, .inl kv)), ((X 19), .inl (ty 0, 384, .inl ob)), ((X 20), .inr (11, [.ref (X 1), .ref (X 8), .ref (X 21), .ref (X 28), .ref (X 35), .int an, .ref (X 36), .ref (X 37), .ref (X 38), .int ch, .int cg, .int fb, .int mh, .int ml, .int ih, .int lb, .int ic])), ((X 21), .inr (9, [.ref (X 22), .ref (X 23), .ref (X 24), .ref (X 25), .ref (X 26), .ref (X 27), .int cn])), ((X 22), .inl (ty 0, 300, .inl c1)), ((X 23), .inl (ty 0, 300, .inl c2)), ((X 24), .inl (ty 0, 300, .inl c3)), ((X 25), .inl (ty 0, 300, .inl c4)), ((X 26), .inl (ty 0, 300, .inl c5)), ((X 27), .inl (ty 0, 300, .inl c6)), ((X 28), .inr (9, [.ref (X 29), .ref (X 30), .ref (X 31), .ref (X 32), .ref (X 33), .ref (X 34), .int wn])), ((X 29), .inl (ty 0, 300, .inl w1)), ((X 30), .inl (ty 0, 300, .inl w2)), ((X 31), .inl (ty 0, 300, .inl w3)), ((X 32), .inl (ty 0, 300, .inl w4)), ((X 33), .inl (ty 0, 300, .inl w5)), ((X 34), .inl (ty 0, 300, .inl w6))]) (mm_k_X8_conditionAt pp o_5 v5_22 hok (mm_k_X3_bindKept pp rn rf b_1 b_2 b_3 b_p kr kv a1 hok hru _ (by rw [← ht_5]; exact ho_5)) _ (by rw [← ht_34]; exact ho_34)))
              refine va_getN (D := D) (ci := 6) (v := .int (pI pp o_34 0)) (C := RX4) (T := TX4) (N := 8) hx hb hts iv_k_X9_compileInstance_X4 hown hK hP k_19 hk_19 rfl 0 (by decide) (hE.at (.fieldLinkNest "AnswerFold$Solver" 139 "AnswerFold$Literal" "kind" "C" "AnswerFold") (by decide +kernel)) (fun _ h9 => h9) rfl dX9_compileInstance_83 ?_
              refine lv_bipush (v := 102) hx hb dX9_compileInstance_86 (by decide) ?_
              refine lv_icmp_ne (tgt := 112) hx hb dX9_compileInstance_88 (by decide) (fun c_20 => ?_) (fun c_20 => ?_)
              · rw [if_neg c_20] at hT
                exact J_112 v3_22 v4_22 hT _ _ hP hD hS _ (lv_sub hl [0, 1, 2, 3, 4, 5] rfl)
              · rw [if_pos c_20] at hT
                refine lv_iload hx hb dX9_compileInstance_91 (lv_at hl 4 rfl) ?_
                refine lv_aload_n hx hb dX9_compileInstance_93 rfl (lv_at hl 0 rfl) ?_
                refine lv_aload_n hx hb dX9_compileInstance_94 rfl (lv_at hl 0 rfl) ?_
                refine va_get (D := D) (ci := 11) (v := .ref (X 8)) (C := RX9) (T := TX9) (N := 17) hx hb hts iv_k_X9_compileInstance_X9 hown hK hP 10 rfl rfl 1 (by decide) (hts (.fieldLink RX9 38 "AnswerFold$Solver" "grounding" "LAnswerFold$Grounding;") (by decide +kernel)) (fun _ h9 => h9) rfl dX9_compileInstance_95 ?_
                refine va_getN (D := D) (ci := 5) (v := .ref (X 9)) (C := RX3) (T := TX3) (N := 16) hx hb hts iv_k_X9_compileInstance_X3 hown hK hP 2 rfl rfl 1 (by decide) (hE.at (.fieldLinkNest "AnswerFold$Solver" 142 "AnswerFold$Grounding" "binding" "LAnswerFold$Binding;" "AnswerFold") (by decide +kernel)) (fun _ h9 => h9) rfl dX9_compileInstance_98 ?_
                refine lv_aload hx hb dX9_compileInstance_101 (lv_at hl 6 rfl) ?_
                obtain ⟨t_103, ht_103⟩ : ∃ t, t = m_k_X2_atomOf pp t_5.2.1 t_5.2.2.1 t_5.2.2.2.1 t_5.2.2.2.2 o_34 := ⟨_, rfl⟩
                rw [lE_eq ht_103] at hT
                refine wq_iPW (wc := (wW_k_X2_atomOf ty X t_5.2.1 t_5.2.2.1 t_5.2.2.2.1 t_5.2.2.2.2)) (pl := pw ty pp) (ux := (wW_k_X2_atomOf ty X t_5.2.1 t_5.2.2.1 t_5.2.2.2.1 t_5.2.2.2.2)) (va_runV (As := [.ref o_34]) (rest := [.ref (X 20), .int v4_22]) ⟨hx, hb, hml, hown, hts⟩ (k_X2_atomOf l D ty td mi H.size pp X t_5.2.1 t_5.2.2.1 t_5.2.2.2.1 t_5.2.2.2.2 o_34 hok (mm_k_X8_conditionAt pp o_5 v5_22 hok (mm_k_X3_bindKept pp rn rf b_1 b_2 b_3 b_p kr kv a1 hok hru _ (by rw [← ht_5]; exact ho_5)) _ (by rw [← ht_34]; exact ho_34)) t_103 ht_103) (cwV 1 hts gv_k_X9_compileInstance_6 rfl rfl rfl (by decide +kernel) ⟨(Nat.le_of_ble_eq_true rfl), (Nat.le_of_ble_eq_true rfl)⟩) (wm_V (wm_preSP hP hD hK hE hS hA [false, false, false, true] rfl) (va_recv (q0 := 3) (ci := 4) hK hP rfl rfl)) rfl rfl hl.1 rfl (lv_room (Nat.le_of_ble_eq_true rfl)) dX9_compileInstance_103 ⟨(Nat.le_of_ble_eq_true rfl), (Nat.le_of_ble_eq_true rfl)⟩) hS hA hP hD [false, false, false, true] rfl rfl (fun _ _ h => h.2) (fun r H locs hw hP hD hS => ?_)
                obtain ⟨hr0, -⟩ := hw
                subst r
                have hP : va_P D vwCl ((wW_k_X9_compileInstance ty X pn rn tn en rf hn kn on cu pu gw t_5.2.1 t_5.2.2.1 t_5.2.2.2.1 t_5.2.2.2.2 su hds kr kv ob an ch cg fb mh ml ih lb ic cn c1 c2 c3 c4 c5 c6 wn w1 w2 w3 w4 w5 w6) ++ pw ty pp) H := hP
                have hD : va_D A ((wW_k_X9_compileInstance ty X pn rn tn en rf hn kn on cu pu gw t_5.2.1 t_5.2.2.1 t_5.2.2.2.1 t_5.2.2.2.2 su hds kr kv ob an ch cg fb mh ml ih lb ic cn c1 c2 c3 c4 c5 c6 wn w1 w2 w3 w4 w5 w6) ++ pw ty pp) := hD
                refine W.widen (k := 0) (n := 0) (Nat.le_of_ble_eq_true rfl) (Nat.le_of_ble_eq_true rfl) ?_
                obtain ⟨t_106, ht_106⟩ : ∃ t, t = m_k_X9_bitOf on ob t_103 := ⟨_, rfl⟩
                rw [lE_eq ht_106] at hT
                refine wq_iQW (wc := (wW_k_X9_bitOf ty X hn kn on cu pu gw ob an ch cg fb mh ml ih lb ic)) (pl := pw ty pp) (va_runV (As := [.int t_103]) (rest := [.int v4_22]) ⟨hx, hb, hml, hown, hts⟩ (k_X9_bitOf l D ty td mi H.size X hn kn on cu pu gw ob an ch cg fb mh ml ih lb ic t_103 t_106 ht_106) (cwV 1 hts gv_k_X9_compileInstance_7 rfl rfl rfl (by decide +kernel) ⟨(Nat.le_of_ble_eq_true rfl), (Nat.le_of_ble_eq_true rfl)⟩) (wm_V (wm_preS (vP_left hP) (vD_left hD) hK hE hS hA [false, false, true, false, false, false, false, false, false, true, true] rfl) (va_recv (q0 := 10) (ci := 11) hK hP rfl rfl)) rfl rfl hl.1 rfl (lv_room (Nat.le_of_ble_eq_true rfl)) dX9_compileInstance_106 ⟨(Nat.le_of_ble_eq_true rfl), (Nat.le_of_ble_eq_true rfl)⟩) hS hA hP hD [false, false, true, false, false, false, false, false, false, true, true] rfl (fun _ _ h => by rcases h with ⟨-, rfl⟩; rfl) (fun r u H locs hw hP hD hS => ?_)
                obtain ⟨hr0, rfl⟩ := hw
                subst r
                have hP : va_P D vwCl ((wW_k_X9_compileInstance ty X pn rn tn en rf hn kn on cu pu gw t_5.2.1 t_5.2.2.1 t_5.2.2.2.1 t_5.2.2.2.2 su hds kr kv ob an ch cg fb mh ml ih lb ic cn c1 c2 c3 c4 c5 c6 wn w1 w2 w3 w4 w5 w6) ++ pw ty pp) H := hP
                have hD : va_D A ((wW_k_X9_compileInstance ty X pn rn tn en rf hn kn on cu pu gw t_5.2.1 t_5.2.2.1 t_5.2.2.2.1 t_5.2.2.2.2 su hds kr kv ob an ch cg fb mh ml ih lb ic cn c1 c2 c3 c4 c5 c6 wn w1 w2 w3 w4 w5 w6) ++ pw ty pp) := hD
                refine W.widen (k := 0) (n := 0) (Nat.le_of_ble_eq_true rfl) (Nat.le_of_ble_eq_true rfl) ?_
                refine lv_ior hx hb dX9_compileInstance_109 ?_
                refine lv_istore (lv' := [(4, .int (v4_22 ||| t_106)), (0, .ref (X 20)), (1, .int a1), (2, .ref o_5), (3, .int v3_22), (5, .int v5_22), (6, .ref o_34)]) hx hb dX9_compileInstance_110 hl (by decide) rfl (fun ls hl => ?_)
                exact J_112 v3_22 (v4_22 ||| t_106) hT _ _ hP hD hS _ (lv_sub hl [1, 2, 3, 4, 0, 5] rfl)
            refine lv_ifnull hx hb dX9_compileInstance_41 ?_
            refine lv_aload hx hb dX9_compileInstance_44 (lv_at hl 0 rfl) ?_
            obtain ⟨k_25, hk_25⟩ := List.getElem?_of_mem (pw_lit (ty := ty) (p := pp) (L := [((X 1), .inr (8, [.ref (X 2), .int pn, .ref (X 3), .int rn, .ref (X 4), .ref (X 5), .int tn, .ref (X 6), .ref (X 7), .int en])), ((X 3), .inl (ty 4, 20, .inr (.inr (.inr (.inr rf))))), ((X 8), .inr (5, [.ref (X 1), .ref (X 9), .ref (X 10), .ref (X 12), .ref (X 14), .int hn, .ref (X 15), .ref (X 16), .ref (X 17), .int kn, .ref (X 18), .ref (X 19), .int on, .int cu, .int pu, .int gw])), ((X 9), .inr (4, [.int t_5.2.1, .int t_5.2.2.1, .int t_5.2.2.2.1, .int t_5.2.2.2.2])), ((X 10), .inr (3, [.ref (X 11)])), ((X 11), .inl (ty 1, 6, .inr (.inl su))), ((X 14), .inl (ty 0, 16, .inl hds)), ((X 15), .inl (ty 0, 300, .inl kr)), ((X 16), .inl (ty 0, 300, .inl kv)), ((X 19), .inl (ty 0, 384, .inl ob)), ((X 20), .inr (11, [.ref (X 1), .ref (X 8), .ref (X 21), .ref (X 28), .ref (X 35), .int an, .ref (X 36), .ref (X 37), .ref (X 38), .int ch, .int cg, .int fb, .int mh, .int ml, .int ih, .int lb, .int ic])), ((X 21), .inr (9, [.ref (X 22), .ref (X 23), .ref (X 24), .ref (X 25), .ref (X 26), .ref (X 27), .int cn])), ((X 22), .inl (ty 0, 300, .inl c1)), ((X 23), .inl (ty 0, 300, .inl c2)), ((X 24), .inl (ty 0, 300, .inl c3)), ((X 25), .inl (ty 0, 300, .inl c4)), ((X 26), .inl (ty 0, 300, .inl c5)), ((X 27), .inl (ty 0, 300, .inl c6)), ((X 28), .inr (9, [.ref (X 29), .ref (X 30), .ref (X 31), .ref (X 32), .ref (X 33), .ref (X 34), .int wn])), ((X 29), .inl (ty 0, 300, .inl w1)), ((X 30), .inl (ty 0, 300, .inl w2)), ((X 31), .inl (ty 0, 300, .inl w3)), ((X 32), .inl (ty 0, 300, .inl w4)), ((X 33), .inl (ty 0, 300, .inl w5)), ((X 34), .inl (ty 0, 300, .inl w6))]) (mm_k_X8_conditionAt pp o_5 v5_22 hok (mm_k_X3_bindKept pp rn rf b_1 b_2 b_3 b_p kr kv a1 hok hru _ (by rw [← ht_5]; exact ho_5)) _ (by rw [← ht_34]; exact ho_34)))
            refine va_getN (D := D) (ci := 6) (v := .int (pI pp o_34 0)) (C := RX4) (T := TX4) (N := 8) hx hb hts iv_k_X9_compileInstance_X4 hown hK hP k_25 hk_25 rfl 0 (by decide) (hE.at (.fieldLinkNest "AnswerFold$Solver" 139 "AnswerFold$Literal" "kind" "C" "AnswerFold") (by decide +kernel)) (fun _ h9 => h9) rfl dX9_compileInstance_46 ?_
            refine lv_bipush (v := 116) hx hb dX9_compileInstance_49 (by decide) ?_
            refine lv_icmp_ne (tgt := 76) hx hb dX9_compileInstance_51 (by decide) (fun c_26 => ?_) (fun c_26 => ?_)
            · rw [if_neg c_26] at hT
              exact J_76a () hT _ _ hP hD hS _ (lv_sub hl [1, 2, 3, 4, 5, 6, 0] rfl)
            · rw [if_pos c_26] at hT
              refine lv_iload_n hx hb dX9_compileInstance_54 rfl (lv_at hl 4 rfl) ?_
              refine lv_aload_n hx hb dX9_compileInstance_55 rfl (lv_at hl 1 rfl) ?_
              refine lv_aload_n hx hb dX9_compileInstance_56 rfl (lv_at hl 1 rfl) ?_
              refine va_get (D := D) (ci := 11) (v := .ref (X 8)) (C := RX9) (T := TX9) (N := 17) hx hb hts iv_k_X9_compileInstance_X9 hown hK hP 10 rfl rfl 1 (by decide) (hts (.fieldLink RX9 38 "AnswerFold$Solver" "grounding" "LAnswerFold$Grounding;") (by decide +kernel)) (fun _ h9 => h9) rfl dX9_compileInstance_57 ?_
              refine va_getN (D := D) (ci := 5) (v := .ref (X 9)) (C := RX3) (T := TX3) (N := 16) hx hb hts iv_k_X9_compileInstance_X3 hown hK hP 2 rfl rfl 1 (by decide) (hE.at (.fieldLinkNest "AnswerFold$Solver" 142 "AnswerFold$Grounding" "binding" "LAnswerFold$Binding;" "AnswerFold") (by decide +kernel)) (fun _ h9 => h9) rfl dX9_compileInstance_60 ?_
              refine lv_aload hx hb dX9_compileInstance_63 (lv_at hl 0 rfl) ?_
              obtain ⟨t_65, ht_65⟩ : ∃ t, t = m_k_X2_atomOf pp t_5.2.1 t_5.2.2.1 t_5.2.2.2.1 t_5.2.2.2.2 o_34 := ⟨_, rfl⟩
              rw [lE_eq ht_65] at hT
              refine wq_iPW (wc := (wW_k_X2_atomOf ty X t_5.2.1 t_5.2.2.1 t_5.2.2.2.1 t_5.2.2.2.2)) (pl := pw ty pp) (ux := (wW_k_X2_atomOf ty X t_5.2.1 t_5.2.2.1 t_5.2.2.2.1 t_5.2.2.2.2)) (va_runV (As := [.ref o_34]) (rest := [.ref (X 20), .int v3_22]) ⟨hx, hb, hml, hown, hts⟩ (k_X2_atomOf l D ty td mi H.size pp X t_5.2.1 t_5.2.2.1 t_5.2.2.2.1 t_5.2.2.2.2 o_34 hok (mm_k_X8_conditionAt pp o_5 v5_22 hok (mm_k_X3_bindKept pp rn rf b_1 b_2 b_3 b_p kr kv a1 hok hru _ (by rw [← ht_5]; exact ho_5)) _ (by rw [← ht_34]; exact ho_34)) t_65 ht_65) (cwV 1 hts gv_k_X9_compileInstance_8 rfl rfl rfl (by decide +kernel) ⟨(Nat.le_of_ble_eq_true rfl), (Nat.le_of_ble_eq_true rfl)⟩) (wm_V (wm_preSP hP hD hK hE hS hA [false, false, false, true] rfl) (va_recv (q0 := 3) (ci := 4) hK hP rfl rfl)) rfl rfl hl.1 rfl (lv_room (Nat.le_of_ble_eq_true rfl)) dX9_compileInstance_65 ⟨(Nat.le_of_ble_eq_true rfl), (Nat.le_of_ble_eq_true rfl)⟩) hS hA hP hD [false, false, false, true] rfl rfl (fun _ _ h => h.2) (fun r H locs hw hP hD hS => ?_)
              obtain ⟨hr0, -⟩ := hw
              subst r
              have hP : va_P D vwCl ((wW_k_X9_compileInstance ty X pn rn tn en rf hn kn on cu pu gw t_5.2.1 t_5.2.2.1 t_5.2.2.2.1 t_5.2.2.2.2 su hds kr kv ob an ch cg fb mh ml ih lb ic cn c1 c2 c3 c4 c5 c6 wn w1 w2 w3 w4 w5 w6) ++ pw ty pp) H := hP
              have hD : va_D A ((wW_k_X9_compileInstance ty X pn rn tn en rf hn kn on cu pu gw t_5.2.1 t_5.2.2.1 t_5.2.2.2.1 t_5.2.2.2.2 su hds kr kv ob an ch cg fb mh ml ih lb ic cn c1 c2 c3 c4 c5 c6 wn w1 w2 w3 w4 w5 w6) ++ pw ty pp) := hD
              refine W.widen (k := 0) (n := 0) (Nat.le_of_ble_eq_true rfl) (Nat.le_of_ble_eq_true rfl) ?_
              obtain ⟨t_68, ht_68⟩ : ∃ t, t = m_k_X9_bitOf on ob t_65 := ⟨_, rfl⟩
              rw [lE_eq ht_68] at hT
              refine wq_iQW (wc := (wW_k_X9_bitOf ty X hn kn on cu pu gw ob an ch cg fb mh ml ih lb ic)) (pl := pw ty pp) (va_runV (As := [.int t_65]) (rest := [.int v3_22]) ⟨hx, hb, hml, hown, hts⟩ (k_X9_bitOf l D ty td mi H.size X hn kn on cu pu gw ob an ch cg fb mh ml ih lb ic t_65 t_68 ht_68) (cwV 1 hts gv_k_X9_compileInstance_9 rfl rfl rfl (by decide +kernel) ⟨(Nat.le_of_ble_eq_true rfl), (Nat.le_of_ble_eq_true rfl)⟩) (wm_V (wm_preS (vP_left hP) (vD_left hD) hK hE hS hA [false, false, true, false, false, false, false, false, false, true, true] rfl) (va_recv (q0 := 10) (ci := 11) hK hP rfl rfl)) rfl rfl hl.1 rfl (lv_room (Nat.le_of_ble_eq_true rfl)) dX9_compileInstance_68 ⟨(Nat.le_of_ble_eq_true rfl), (Nat.le_of_ble_eq_true rfl)⟩) hS hA hP hD [false, false, true, false, false, false, false, false, false, true, true] rfl (fun _ _ h => by rcases h with ⟨-, rfl⟩; rfl) (fun r u H locs hw hP hD hS => ?_)
              obtain ⟨hr0, rfl⟩ := hw
              subst r
              have hP : va_P D vwCl ((wW_k_X9_compileInstance ty X pn rn tn en rf hn kn on cu pu gw t_5.2.1 t_5.2.2.1 t_5.2.2.2.1 t_5.2.2.2.2 su hds kr kv ob an ch cg fb mh ml ih lb ic cn c1 c2 c3 c4 c5 c6 wn w1 w2 w3 w4 w5 w6) ++ pw ty pp) H := hP
              have hD : va_D A ((wW_k_X9_compileInstance ty X pn rn tn en rf hn kn on cu pu gw t_5.2.1 t_5.2.2.1 t_5.2.2.2.1 t_5.2.2.2.2 su hds kr kv ob an ch cg fb mh ml ih lb ic cn c1 c2 c3 c4 c5 c6 wn w1 w2 w3 w4 w5 w6) ++ pw ty pp) := hD
              refine W.widen (k := 0) (n := 0) (Nat.le_of_ble_eq_true rfl) (Nat.le_of_ble_eq_true rfl) ?_
              refine lv_ior hx hb dX9_compileInstance_71 ?_
              refine lv_istore_n (lv' := [(3, .int (v3_22 ||| t_68)), (6, .ref o_34), (0, .ref (X 20)), (1, .int a1), (2, .ref o_5), (4, .int v4_22), (5, .int v5_22)]) hx hb dX9_compileInstance_72 rfl hl (by decide) rfl (fun ls hl => ?_)
              refine lv_goto (tgt := 112) hx hb dX9_compileInstance_73 (by decide) ?_
              exact J_112 (v3_22 ||| t_68) v4_22 hT _ _ hP hD hS _ (lv_sub hl [2, 3, 4, 0, 5, 6] rfl)
    exact L_22 wF 0 0 0 (wF_up 0) hT (by decide) _ _ hP hD hS _ (lv_sub hl [4, 5, 3, 2, 1, 0] rfl)
