theorem dL_setOf_0 : decode cL_setOf 0 = .ok (.iconst 0, 1) := by decide +kernel
theorem dL_setOf_1 : decode cL_setOf 1 = .ok (.istore_n 3, 1) := by decide +kernel
theorem dL_setOf_2 : decode cL_setOf 2 = .ok (.iconst 0, 1) := by decide +kernel
theorem dL_setOf_3 : decode cL_setOf 3 = .ok (.istore 4, 2) := by decide +kernel
theorem dL_setOf_5 : decode cL_setOf 5 = .ok (.iload 4, 2) := by decide +kernel
theorem dL_setOf_7 : decode cL_setOf 7 = .ok (.iload_n 2, 1) := by decide +kernel
theorem dL_setOf_8 : decode cL_setOf 8 = .ok (.if_icmp .ge 34, 3) := by decide +kernel
theorem dL_setOf_11 : decode cL_setOf 11 = .ok (.iload_n 3, 1) := by decide +kernel
theorem dL_setOf_12 : decode cL_setOf 12 = .ok (.aload_n 0, 1) := by decide +kernel
theorem dL_setOf_13 : decode cL_setOf 13 = .ok (.iconst 5, 1) := by decide +kernel
theorem dL_setOf_14 : decode cL_setOf 14 = .ok (.iload_n 1, 1) := by decide +kernel
theorem dL_setOf_15 : decode cL_setOf 15 = .ok (.iload 4, 2) := by decide +kernel
theorem dL_setOf_17 : decode cL_setOf 17 = .ok (.iconst 0, 1) := by decide +kernel
theorem dL_setOf_18 : decode cL_setOf 18 = .ok (.iconst 0, 1) := by decide +kernel
theorem dL_setOf_19 : decode cL_setOf 19 = .ok (.invokestatic 166, 3) := by decide +kernel
theorem dL_setOf_22 : decode cL_setOf 22 = .ok (.iconst 1, 1) := by decide +kernel
theorem dL_setOf_23 : decode cL_setOf 23 = .ok (.if_icmp .ne 10, 3) := by decide +kernel
theorem dL_setOf_26 : decode cL_setOf 26 = .ok (.iconst 1, 1) := by decide +kernel
theorem dL_setOf_27 : decode cL_setOf 27 = .ok (.iload 4, 2) := by decide +kernel
theorem dL_setOf_29 : decode cL_setOf 29 = .ok (.ishl, 1) := by decide +kernel
theorem dL_setOf_30 : decode cL_setOf 30 = .ok (.goto 4, 3) := by decide +kernel
theorem dL_setOf_33 : decode cL_setOf 33 = .ok (.iconst 0, 1) := by decide +kernel
theorem dL_setOf_34 : decode cL_setOf 34 = .ok (.ior, 1) := by decide +kernel
theorem dL_setOf_35 : decode cL_setOf 35 = .ok (.istore_n 3, 1) := by decide +kernel
theorem dL_setOf_36 : decode cL_setOf 36 = .ok (.iinc 4 1, 3) := by decide +kernel
theorem dL_setOf_39 : decode cL_setOf 39 = .ok (.goto (-34), 3) := by decide +kernel
theorem dL_setOf_42 : decode cL_setOf 42 = .ok (.iload_n 3, 1) := by decide +kernel
theorem dL_setOf_43 : decode cL_setOf 43 = .ok (.ireturn, 1) := by decide +kernel
def wW_k_L_setOf (ty : Nat → ClassId) (X : Nat → Nat) (z9_0 : Int32) (z9_1 : Int32) (z9_2 : Int32) (z9_3 : Int32) (z9_4 : Nat → Int32) (z9_5 : Int32) (z9_6 : Int32) (z9_7 : Int32) (z9_8 : Int32) (z9_9 : Int32) (z9_10 : Int32) (z9_11 : Nat → Int64) (z9_12 : Nat → Int32) (z9_13 : Int32) (z9_14 : Int32) (z9_15 : Int32) (z9_16 : Int32) (z9_17 : Int32) (z9_18 : Int32) (z9_19 : Int32) (z9_20 : Int32) (z9_21 : Int32) (z9_22 : Int32) (z9_23 : Int32) (z9_24 : Nat → Int32) : va_W := [((X 0), .inr (12, [.ref (X 1), .ref (X 8), .ref (X 20), .ref (X 39), .ref (X 41), .ref (X 43), .ref (X 45)])), ((X 1), .inr (8, [.ref (X 2), .int z9_0, .ref (X 3), .int z9_1, .ref (X 4), .ref (X 5), .int z9_2, .ref (X 6), .ref (X 7), .int z9_3])), ((X 2), .inl (ty 0, 6, .inl z9_4)), ((X 8), .inr (5, [.ref (X 1), .ref (X 9), .ref (X 10), .ref (X 12), .ref (X 14), .int z9_5, .ref (X 15), .ref (X 16), .ref (X 17), .int z9_6, .ref (X 18), .ref (X 19), .int z9_7, .int z9_8, .int z9_9, .int z9_10])), ((X 10), .inr (3, [.ref (X 11)])), ((X 11), .inl (ty 1, 6, .inr (.inl z9_11))), ((X 19), .inl (ty 0, 384, .inl z9_12)), ((X 20), .inr (11, [.ref (X 1), .ref (X 8), .ref (X 21), .ref (X 28), .ref (X 35), .int z9_13, .ref (X 36), .ref (X 37), .ref (X 38), .int z9_14, .int z9_15, .int z9_16, .int z9_17, .int z9_18, .int z9_19, .int z9_20, .int z9_21])), ((X 45), .inr (2, [.ref (X 46), .ref (X 47), .int z9_22, .int z9_23])), ((X 46), .inl (ty 0, 64, .inl z9_24))]
def vs_k_L_setOf : List Cond := .code yL_setOf cL_setOf 5 (some .int) :: ([.methodLink RL 166 yL_ask, .static yL_ask, .initialized RL] ++ (vs_k_L_ask_5))
set_option maxRecDepth 20000 in
theorem gv_k_L_setOf_0 : GoodIn vs_k_L_setOf (va_wsS RL 166 yL_ask vs_k_L_ask_5) := goodIn_app (goodIn_sub (by decide +kernel) (by decide +kernel)) (goodIn_sub (fun _ h => List.mem_cons_of_mem _ (List.mem_append_right _ (h))) (by decide +kernel))
theorem om_k_L_setOf_0 (v4_5 : Int32) (a2 : Int32) (hn6 : a2.toInt ≤ 6) (hn_5 : 0 ≤ v4_5.toInt) (c_1 : ¬ (a2 ≤ v4_5)) : (v4_5 : Int32).toInt < 6 := by
  have f_0 := hn6
  have f_1 := hn_5
  have f_2 := Int32.lt_iff_toInt_lt.mp (Int32.not_le.mp c_1)
  have r_v4_5 := wi_rng v4_5
  omega
theorem om_k_L_setOf_1 (v4_5 : Int32) (a2 : Int32) (hn6 : a2.toInt ≤ 6) (hn_5 : 0 ≤ v4_5.toInt) (c_1 : ¬ (a2 ≤ v4_5)) : (v4_5 : Int32).toInt < 6 := by
  have f_0 := hn6
  have f_1 := hn_5
  have f_2 := Int32.lt_iff_toInt_lt.mp (Int32.not_le.mp c_1)
  have r_v4_5 := wi_rng v4_5
  omega
theorem om_k_L_setOf_2 (v4_5 : Int32) (a2 : Int32) (hn6 : a2.toInt ≤ 6) (hn_5 : 0 ≤ v4_5.toInt) (c_1 : ¬ (a2 ≤ v4_5)) : (v4_5 : Int32).toInt < 6 := by
  have f_0 := hn6
  have f_1 := hn_5
  have f_2 := Int32.lt_iff_toInt_lt.mp (Int32.not_le.mp c_1)
  have r_v4_5 := wi_rng v4_5
  omega
set_option maxHeartbeats 4000000 in
set_option maxRecDepth 100000 in
theorem k_L_setOf (l : Launch) (hl9 : l.stackTraces = false) (D : va_G) (ty : Nat → ClassId) (td mi sz : Nat) (X : Nat → Nat) (pn : Int32) (rn : Int32) (tn : Int32) (en : Int32) (pl : Nat → Int32) (hn : Int32) (kn : Int32) (on : Int32) (cu : Int32) (pu : Int32) (gw : Int32) (su : Nat → Int64) (ob : Nat → Int32) (an : Int32) (ch : Int32) (cg : Int32) (fb : Int32) (mh : Int32) (ml : Int32) (ih : Int32) (lb : Int32) (ic : Int32) (nn : Int32) (kp : Int32) (se : Nat → Int32) (a1 : Int32) (a2 : Int32) (hn6 : a2.toInt ≤ 6) (TT : r_k_L_setOf) (hTT : TT = m_k_L_setOf pn pl on su ob nn kp se a1 a2) : Met l yL_setOf vs_k_L_setOf { frames := 11, cells := 18, slots := 108, locals := 199 } (va_Pc [.ref (X 0), .int a1, .int a2] (wq_P D ty td mi (wW_k_L_setOf ty X pn rn tn en pl hn kn on cu pu gw su ob an ch cg fb mh ml ih lb ic nn kp se) sz)) (va_Qi (fun (r : Int32) (u : va_W) => (r = TT ∧ (u = (wW_k_L_setOf ty X pn rn tn en pl hn kn on cu pu gw su ob an ch cg fb mh ml ih lb ic nn kp se)))) (wq_B D (va_A (wW_k_L_setOf ty X pn rn tn en pl hn kn on cu pu gw su ob an ch cg fb mh ml ih lb ic nn kp se) sz)) (va_A (wW_k_L_setOf ty X pn rn tn en pl hn kn on cu pu gw su ob an ch cg fb mh ml ih lb ic nn kp se) sz)) 18 108 (va_A (wW_k_L_setOf ty X pn rn tn en pl hn kn on cu pu gw su ob an ch cg fb mh ml ih lb ic nn kp se) sz) := by
  refine Met.ofW (cc := cL_setOf) (maxL := 5) (ret := (some .int)) (by decide) rfl ?_
  intro p e s m args below meth c s₁ B hml hv
  obtain ⟨rfl, hsz, hP, hK, hD0, hE⟩ := hv
  have hx := B.exec
  have hb := B.bytes
  have hr := B.returns
  have hts := atoms_spec (ws := vs_k_L_setOf) B.pre
  have hown : s.vm.findClass RL = some m.cls := findClass_of_methodNamed B.named
  have hlocks := B.notSynchronized
  subst hsz
  have hD := hD0.self (sz := s.heap.size)
  generalize hAe : va_A (wW_k_L_setOf ty X pn rn tn en pl hn kn on cu pu gw su ob an ch cg fb mh ml ih lb ic nn kp se) s.heap.size = A at hD hE ⊢
  have hA : ∀ q : Nat, s.heap.size ≤ q → A q := fun q h => by rw [← hAe]; exact Or.inr h
  have hS : va_S A s.heap s.heap [] := va_S.rf
  have hP : va_P D vwCl (wW_k_L_setOf ty X pn rn tn en pl hn kn on cu pu gw su ob an ch cg fb mh ml ih lb ic nn kp se) s.heap := hP
  have hl := lv_entry ([.ref (X 0), .int a1, .int a2]) (n := 5) (Nat.le_of_ble_eq_true rfl)
  rw [lg_entry_eq]
  generalize (lg_sl ([.ref (X 0), .int a1, .int a2]) ++ List.replicate (5 - (lg_sl ([.ref (X 0), .int a1, .int a2])).length) Slot.unset).toArray = ls at hl ⊢
  have hl : lv_has ls 5 [(0, .ref (X 0)), (1, .int a1), (2, .int a2)] := hl
  have END : ∀ (r : Int32), TT = r → ∀ (H : Heap) (locs : List Loc), va_P D vwCl (wW_k_L_setOf ty X pn rn tn en pl hn kn on cu pu gw su ob an ch cg fb mh ml ih lb ic nn kp se) H → va_D A (wW_k_L_setOf ty X pn rn tn en pl hn kn on cu pu gw su ob an ch cg fb mh ml ih lb ic nn kp se) → va_S A s.heap H locs → ∀ (ls : Array Slot) (pc : Nat), decode cL_setOf pc = .ok (.ireturn, 1) → W p l e (headSpec vs_k_L_setOf { frames := 11, cells := 18, slots := 108, locals := 199 }).room s m ([.ref (X 0), .int a1, .int a2] : List Value).toArray below meth c H locs 18 108 (MQ below (va_Qi (fun (r : Int32) (u : va_W) => (r = TT ∧ (u = (wW_k_L_setOf ty X pn rn tn en pl hn kn on cu pu gw su ob an ch cg fb mh ml ih lb ic nn kp se)))) (wq_B D A) A) ([.ref (X 0), .int a1, .int a2] : List Value).toArray s 18 108 A) (F0 m pc ls [.int r]) := by
    intro r hT H locs hP hD hS ls pc hd
    have hM : TT = r := hT
    exact W.iret (v := r) hx hb hr (fun t ht hW => ⟨⟨r, (wW_k_L_setOf ty X pn rn tn en pl hn kn on cu pu gw su ob an ch cg fb mh ml ih lb ic nn kp se), rfl, ⟨(by rw [hM]), rfl⟩, wq_B.of ht hP hD⟩, hS.F ht⟩) hS.2.2 hd
  have hT := hTT
  rw [m_k_L_setOf] at hT
  refine lv_iconst (v := 0) hx hb dL_setOf_0 (by decide) ?_
  refine lv_istore_n (lv' := [(3, .int 0), (0, .ref (X 0)), (1, .int a1), (2, .int a2)]) hx hb dL_setOf_1 rfl hl (by decide) rfl (fun ls hl => ?_)
  refine lv_iconst (v := 0) hx hb dL_setOf_2 (by decide) ?_
  refine lv_istore (lv' := [(4, .int 0), (3, .int 0), (0, .ref (X 0)), (1, .int a1), (2, .int a2)]) hx hb dL_setOf_3 hl (by decide) rfl (fun ls hl => ?_)
  refine W.widen (k := 0 + 0) (n := 0 + 0) (Nat.le_refl _) (Nat.le_refl _) ?_
  have L_5 : ∀ (n_5 : Nat) (v3_5 : Int32) (v4_5 : Int32) (kB_5 sB_5 : Nat), (2147483648 - v4_5.toInt).toNat < n_5 → kB_5 + 3 * (6 - v4_5.toInt.toNat) ≤ 18 → sB_5 + 18 * (6 - v4_5.toInt.toNat) ≤ 108 → TT = m_k_L_setOf_5 pn pl on su ob nn kp se a1 a2 n_5 v3_5 v4_5 → 0 ≤ v4_5.toInt → ∀ (H : Heap) (locs : List Loc), va_P D vwCl (wW_k_L_setOf ty X pn rn tn en pl hn kn on cu pu gw su ob an ch cg fb mh ml ih lb ic nn kp se) H → va_D A (wW_k_L_setOf ty X pn rn tn en pl hn kn on cu pu gw su ob an ch cg fb mh ml ih lb ic nn kp se) → va_S A s.heap H locs → ∀ ls : Array Slot, lv_has ls 5 [(0, .ref (X 0)), (1, .int a1), (2, .int a2), (3, .int v3_5), (4, .int v4_5)] → W p l e (headSpec vs_k_L_setOf { frames := 11, cells := 18, slots := 108, locals := 199 }).room s m ([.ref (X 0), .int a1, .int a2] : List Value).toArray below meth c H locs (kB_5 + 0) (sB_5 + 0) (MQ below (va_Qi (fun (r : Int32) (u : va_W) => (r = TT ∧ (u = (wW_k_L_setOf ty X pn rn tn en pl hn kn on cu pu gw su ob an ch cg fb mh ml ih lb ic nn kp se)))) (wq_B D A) A) ([.ref (X 0), .int a1, .int a2] : List Value).toArray s 18 108 A) (F0 m 5 ls []) := by
    intro n_5
    induction n_5 with
    | zero => intro v3_5 v4_5 kB_5 sB_5 hu; exact absurd hu (Nat.not_lt_zero _)
    | succ n_5 ih_5 =>
      intro v3_5 v4_5 kB_5 sB_5 hu_5 hbc_5 hbs_5 hT hn_5 H locs hP hD hS ls hl
      rw [m_k_L_setOf_5_succ, m_k_L_setOf_5s] at hT
      refine lv_iload hx hb dL_setOf_5 (lv_at hl 4 rfl) ?_
      refine lv_iload_n hx hb dL_setOf_7 rfl (lv_at hl 2 rfl) ?_
      refine lv_icmp_ge (tgt := 42) hx hb dL_setOf_8 (by decide) (fun c_1 => ?_) (fun c_1 => ?_)
      · rw [if_pos c_1] at hT
        refine W.widen (k := 18) (n := 108) (wk_e hbc_5) (wk_e hbs_5) ?_
        refine lv_iload_n hx hb dL_setOf_42 rfl (lv_at hl 3 rfl) ?_
        exact END v3_5 hT _ _ hP hD hS _ _ dL_setOf_43
      · rw [if_neg c_1] at hT
        refine lv_iload_n hx hb dL_setOf_11 rfl (lv_at hl 3 rfl) ?_
        refine lv_aload_n hx hb dL_setOf_12 rfl (lv_at hl 0 rfl) ?_
        refine lv_iconst (v := 5) hx hb dL_setOf_13 (by decide) ?_
        refine lv_iload_n hx hb dL_setOf_14 rfl (lv_at hl 1 rfl) ?_
        refine lv_iload hx hb dL_setOf_15 (lv_at hl 4 rfl) ?_
        refine lv_iconst (v := 0) hx hb dL_setOf_17 (by decide) ?_
        refine lv_iconst (v := 0) hx hb dL_setOf_18 (by decide) ?_
        have hkc_5 := wk_in hbc_5 hn_5 (om_k_L_setOf_0 v4_5 a2 hn6 hn_5 c_1)
        have hks_5 := wk_in hbs_5 hn_5 (om_k_L_setOf_0 v4_5 a2 hn6 hn_5 c_1)
        obtain ⟨t_19, ht_19⟩ : ∃ t, t = m_k_L_ask_5 pn pl on su ob nn kp se a1 v4_5 0 0 := ⟨_, rfl⟩
        rw [lE_eq ht_19] at hT
        refine wq_xiW (wc := (wW_k_L_ask_5 ty X pn rn tn en pl hn kn on cu pu gw su ob an ch cg fb mh ml ih lb ic nn kp se)) (vx_runSX (As := [.ref (X 0), .int 5, .int a1, .int v4_5, .int 0, .int 0]) (rest := [.int v3_5]) ⟨hx, hb, hml, hown, hts⟩ (k_L_ask_5 l hl9 D ty td mi H.size X pn rn tn en pl hn kn on cu pu gw su ob an ch cg fb mh ml ih lb ic nn kp se a1 v4_5 0 0 t_19 ht_19) (vx_cwSW 6 hts gv_k_L_setOf_0 rfl rfl rfl (by decide +kernel) ⟨(Nat.le_of_ble_eq_true rfl), (Nat.le_of_ble_eq_true rfl)⟩) (wm_preS hP hD hK hE hS hA [true, true, true, true, true, true, true, true, true, true] rfl) rfl rfl hl.1 rfl (lv_room (Nat.le_of_ble_eq_true rfl)) dL_setOf_19 ⟨(wk_r hkc_5 (Nat.le_of_ble_eq_true rfl) (Nat.le_of_ble_eq_true rfl)), (wk_r hks_5 (Nat.le_of_ble_eq_true rfl) (Nat.le_of_ble_eq_true rfl))⟩) hS hA hP hD [true, true, true, true, true, true, true, true, true, true] rfl (fun _ _ h => by rcases h with ⟨-, rfl⟩; rfl) (fun _ _ h => h.elim) (fun E9 u H locs q9 ce hw hP hD hS hce hcv hcl => hw.elim) (fun r u H locs hw hP hD hS => ?_)
        obtain ⟨hr0, rfl⟩ := hw
        subst r
        have hP : va_P D vwCl (wW_k_L_setOf ty X pn rn tn en pl hn kn on cu pu gw su ob an ch cg fb mh ml ih lb ic nn kp se) H := hP
        have hD : va_D A (wW_k_L_setOf ty X pn rn tn en pl hn kn on cu pu gw su ob an ch cg fb mh ml ih lb ic nn kp se) := hD
        refine W.widen (k := (kB_5 + 3)) (n := (sB_5 + 18)) (wk_w (Nat.le_of_ble_eq_true rfl)) (wk_w (Nat.le_of_ble_eq_true rfl)) ?_
        refine lv_iconst (v := 1) hx hb dL_setOf_22 (by decide) ?_
        have J_34 : ∀ (s0_34 : Int32), TT = m_k_L_setOf_34 (m_k_L_setOf_5 pn pl on su ob nn kp se a1 a2 n_5) v3_5 v4_5 s0_34 → ∀ (H : Heap) (locs : List Loc), va_P D vwCl (wW_k_L_setOf ty X pn rn tn en pl hn kn on cu pu gw su ob an ch cg fb mh ml ih lb ic nn kp se) H → va_D A (wW_k_L_setOf ty X pn rn tn en pl hn kn on cu pu gw su ob an ch cg fb mh ml ih lb ic nn kp se) → va_S A s.heap H locs → ∀ ls : Array Slot, lv_has ls 5 [(0, .ref (X 0)), (1, .int a1), (2, .int a2), (4, .int v4_5)] → W p l e (headSpec vs_k_L_setOf { frames := 11, cells := 18, slots := 108, locals := 199 }).room s m ([.ref (X 0), .int a1, .int a2] : List Value).toArray below meth c H locs (kB_5 + 3) (sB_5 + 18) (MQ below (va_Qi (fun (r : Int32) (u : va_W) => (r = TT ∧ (u = (wW_k_L_setOf ty X pn rn tn en pl hn kn on cu pu gw su ob an ch cg fb mh ml ih lb ic nn kp se)))) (wq_B D A) A) ([.ref (X 0), .int a1, .int a2] : List Value).toArray s 18 108 A) (F0 m 34 ls [.int s0_34, .int v3_5]) := by
          intro s0_34 hT  H locs hP hD hS ls hl
          rw [m_k_L_setOf_34] at hT
          refine lv_ior hx hb dL_setOf_34 ?_
          refine lv_istore_n (lv' := [(3, .int (v3_5 ||| s0_34)), (0, .ref (X 0)), (1, .int a1), (2, .int a2), (4, .int v4_5)]) hx hb dL_setOf_35 rfl hl (by decide) rfl (fun ls hl => ?_)
          refine lv_iinc (v := v4_5 + 1) (lv' := [(4, .int (v4_5 + 1)), (3, .int (v3_5 ||| s0_34)), (0, .ref (X 0)), (1, .int a1), (2, .int a2)]) hx hb dL_setOf_36 hl (k := 4) rfl (by rfl) (by decide) rfl (fun ls hl => ?_)
          refine lv_goto (tgt := 5) hx hb dL_setOf_39 (by decide) ?_
          have hkc_5 := wk_in hbc_5 hn_5 (om_k_L_setOf_1 v4_5 a2 hn6 hn_5 c_1)
          have hks_5 := wk_in hbs_5 hn_5 (om_k_L_setOf_1 v4_5 a2 hn6 hn_5 c_1)
          refine W.widen (k := kB_5 + 3 + 0) (n := sB_5 + 18 + 0) (wk_w0 (Nat.le_of_ble_eq_true rfl)) (wk_w0 (Nat.le_of_ble_eq_true rfl)) ?_
          exact ih_5 (v3_5 ||| s0_34) (v4_5 + 1) (kB_5 + 3) (sB_5 + 18) (wi_up hu_5 (Int32.not_le.mp c_1)) (wk_n hbc_5 hn_5 (om_k_L_setOf_2 v4_5 a2 hn6 hn_5 c_1) (wi_add1 (Int32.not_le.mp c_1))) (wk_n hbs_5 hn_5 (om_k_L_setOf_2 v4_5 a2 hn6 hn_5 c_1) (wi_add1 (Int32.not_le.mp c_1))) hT (wi_inc hn_5 (Int32.not_le.mp c_1)) _ _ hP hD hS _ (lv_sub hl [2, 3, 4, 1, 0] rfl)
        refine lv_icmp_ne (tgt := 33) hx hb dL_setOf_23 (by decide) (fun c_4 => ?_) (fun c_4 => ?_)
        · rw [if_neg c_4] at hT
          refine lv_iconst (v := 0) hx hb dL_setOf_33 (by decide) ?_
          exact J_34 0 hT _ _ hP hD hS _ (lv_sub hl [0, 1, 2, 4] rfl)
        · rw [if_pos c_4] at hT
          refine lv_iconst (v := 1) hx hb dL_setOf_26 (by decide) ?_
          refine lv_iload hx hb dL_setOf_27 (lv_at hl 4 rfl) ?_
          refine lv_ishl hx hb dL_setOf_29 ?_
          refine lv_goto (tgt := 34) hx hb dL_setOf_30 (by decide) ?_
          exact J_34 ((1 : Int32) <<< (v4_5 &&& 31)) hT _ _ hP hD hS _ (lv_sub hl [0, 1, 2, 4] rfl)
  exact L_5 wF 0 0 0 0 (wF_up 0) (wk_0 _ _) (wk_0 _ _) hT (by decide) _ _ hP hD hS _ (lv_sub hl [2, 3, 4, 1, 0] rfl)
