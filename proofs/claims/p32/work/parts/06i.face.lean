def wW_k_L_isAnswer (ty : Nat → ClassId) (g0 : Nat) (z9_0 : Nat) (z9_1 : Nat → Option Nat) : va_W := [(g0, .inl (ty 6, z9_0, .inr (.inr (.inr (.inr z9_1)))))]
def vs_k_L_isAnswer : List Cond := .code yL_isAnswer cL_isAnswer 8 (some .boolean) :: ([.methodLink RL 144 yL_isClosed, .static yL_isClosed, .initialized RL, .methodLink RL 148 yL_isEnough, .static yL_isEnough] ++ (vs_k_L_isClosed ++ (vs_k_L_isEnough)))
set_option maxRecDepth 20000 in
theorem gv_k_L_isAnswer_0 : GoodIn vs_k_L_isAnswer (va_wsS RL 144 yL_isClosed vs_k_L_isClosed) := goodIn_app (goodIn_sub (by decide +kernel) (by decide +kernel)) (goodIn_sub (fun _ h => List.mem_cons_of_mem _ (List.mem_append_right _ (List.mem_append_left _ h))) (by decide +kernel))
set_option maxRecDepth 20000 in
theorem gv_k_L_isAnswer_1 : GoodIn vs_k_L_isAnswer (va_wsS RL 148 yL_isEnough vs_k_L_isEnough) := goodIn_app (goodIn_sub (by decide +kernel) (by decide +kernel)) (goodIn_sub (fun _ h => List.mem_cons_of_mem _ (List.mem_append_right _ (List.mem_append_right _ (h)))) (by decide +kernel))
set_option maxHeartbeats 4000000 in
set_option maxRecDepth 100000 in
theorem k_L_isAnswer (l : Launch) (D : va_G) (ty : Nat → ClassId) (td mi sz : Nat) (pp : pT) (g0 : Nat) (gf : Nat → Option Nat) (a1 : Int32) (a2 : Int32) (a3 : Int32) (a4 : Int32) (hok : pOK pp) (hrr : ∀ i : Int32, 0 ≤ i.toInt → i.toInt < a1.toInt → ∃ a, gf i.toNatClampNeg = some a ∧ a ∈ pZA pp) (TT : r_k_L_isAnswer) (hTT : TT = m_k_L_isAnswer pp gf a1 a2 a3 a4) : Met l yL_isAnswer vs_k_L_isAnswer { frames := 2, cells := 0, slots := 0, locals := 49 } (va_Pc [.ref g0, .int a1, .int a2, .int a3, .int a4] (wq_P D ty td mi ((wW_k_L_isAnswer ty g0 a1.toNatClampNeg gf) ++ pw ty pp) sz)) (va_Qi (fun (r : Int32) (u : va_W) => (r = TT ∧ (TT = 0 ∨ TT = 1) ∧ (u = ((wW_k_L_isAnswer ty g0 a1.toNatClampNeg gf) ++ pw ty pp)))) (wq_B D (va_A ((wW_k_L_isAnswer ty g0 a1.toNatClampNeg gf) ++ pw ty pp) sz)) (va_A ((wW_k_L_isAnswer ty g0 a1.toNatClampNeg gf) ++ pw ty pp) sz)) 0 0 (va_A ((wW_k_L_isAnswer ty g0 a1.toNatClampNeg gf) ++ pw ty pp) sz) := by
  refine Met.ofW (cc := cL_isAnswer) (maxL := 8) (ret := (some .boolean)) (by decide) rfl ?_
  intro p e s m args below meth c s₁ B hml hv
  obtain ⟨rfl, hsz, hP, hK, hD0, hE⟩ := hv
  have hx := B.exec
  have hb := B.bytes
  have hr := B.returns
  have hts := atoms_spec (ws := vs_k_L_isAnswer) B.pre
  have hown : s.vm.findClass RL = some m.cls := findClass_of_methodNamed B.named
  have hlocks := B.notSynchronized
  subst hsz
  have hD := hD0.self (sz := s.heap.size)
  generalize hAe : va_A ((wW_k_L_isAnswer ty g0 a1.toNatClampNeg gf) ++ pw ty pp) s.heap.size = A at hD hE ⊢
  have hA : ∀ q : Nat, s.heap.size ≤ q → A q := fun q h => by rw [← hAe]; exact Or.inr h
  have hS : va_S A s.heap s.heap [] := va_S.rf
  have hP : va_P D vwCl ((wW_k_L_isAnswer ty g0 a1.toNatClampNeg gf) ++ pw ty pp) s.heap := hP
  have hl := lv_entry ([.ref g0, .int a1, .int a2, .int a3, .int a4]) (n := 8) (Nat.le_of_ble_eq_true rfl)
  rw [lg_entry_eq]
  generalize (lg_sl ([.ref g0, .int a1, .int a2, .int a3, .int a4]) ++ List.replicate (8 - (lg_sl ([.ref g0, .int a1, .int a2, .int a3, .int a4])).length) Slot.unset).toArray = ls at hl ⊢
  have hl : lv_has ls 8 [(0, .ref g0), (1, .int a1), (2, .int a2), (3, .int a3), (4, .int a4)] := hl
  have END : ∀ (r : Int32), TT = r → (r = 0 ∨ r = 1) → ∀ (H : Heap) (locs : List Loc), va_P D vwCl ((wW_k_L_isAnswer ty g0 a1.toNatClampNeg gf) ++ pw ty pp) H → va_D A ((wW_k_L_isAnswer ty g0 a1.toNatClampNeg gf) ++ pw ty pp) → va_S A s.heap H locs → ∀ (ls : Array Slot) (pc : Nat), decode cL_isAnswer pc = .ok (.ireturn, 1) → W p l e (headSpec vs_k_L_isAnswer { frames := 2, cells := 0, slots := 0, locals := 49 }).room s m ([.ref g0, .int a1, .int a2, .int a3, .int a4] : List Value).toArray below meth c H locs 0 0 (MQ below (va_Qi (fun (r : Int32) (u : va_W) => (r = TT ∧ (TT = 0 ∨ TT = 1) ∧ (u = ((wW_k_L_isAnswer ty g0 a1.toNatClampNeg gf) ++ pw ty pp)))) (wq_B D A) A) ([.ref g0, .int a1, .int a2, .int a3, .int a4] : List Value).toArray s 0 0 A) (F0 m pc ls [.int r]) := by
    intro r hT hb01 H locs hP hD hS ls pc hd
    have hM : TT = r := hT
    exact W.zret (v := r) hx hb hr (wz_nar hb01) (fun t ht hW => ⟨⟨r, ((wW_k_L_isAnswer ty g0 a1.toNatClampNeg gf) ++ pw ty pp), rfl, ⟨(by rw [hM]), (by rw [hM]; exact hb01), rfl⟩, wq_B.of ht hP hD⟩, hS.F ht⟩) hS.2.2 hd
  have hT := hTT
  rw [m_k_L_isAnswer] at hT
  refine lv_iload hx hb dL_isAnswer_0 (lv_at hl 4 rfl) ?_
  refine lv_iload_n hx hb dL_isAnswer_2 rfl (lv_at hl 2 rfl) ?_
  refine lv_iand hx hb dL_isAnswer_3 ?_
  refine lv_iload_n hx hb dL_isAnswer_4 rfl (lv_at hl 2 rfl) ?_
  refine lv_icmp_ne (tgt := 18) hx hb dL_isAnswer_5 (by decide) (fun c_1 => ?_) (fun c_1 => ?_)
  · rw [if_neg c_1] at hT
    refine lv_iconst (v := 0) hx hb dL_isAnswer_18 (by decide) ?_
    exact END 0 hT (by decide) _ _ hP hD hS _ _ dL_isAnswer_19
  · rw [if_pos c_1] at hT
    refine lv_aload_n hx hb dL_isAnswer_8 rfl (lv_at hl 0 rfl) ?_
    refine lv_iload_n hx hb dL_isAnswer_9 rfl (lv_at hl 1 rfl) ?_
    refine lv_iload hx hb dL_isAnswer_10 (lv_at hl 4 rfl) ?_
    obtain ⟨t_12, ht_12⟩ : ∃ t, t = m_k_L_isClosed pp gf a1 a4 := ⟨_, rfl⟩
    rw [lE_eq ht_12] at hT
    refine wq_iPW (wc := (wW_k_L_isClosed ty g0 a1.toNatClampNeg gf)) (pl := pw ty pp) (ux := (wW_k_L_isClosed ty g0 a1.toNatClampNeg gf)) (va_runS (As := [.ref g0, .int a1, .int a4]) (rest := []) ⟨hx, hb, hml, hown, hts⟩ (k_L_isClosed l D ty td mi s.heap.size pp g0 gf a1 a4 hok hrr t_12 ht_12) (va_cwS 3 hts gv_k_L_isAnswer_0 rfl rfl rfl (by decide +kernel) ⟨(Nat.le_of_ble_eq_true rfl), (Nat.le_of_ble_eq_true rfl)⟩) (wm_preSP hP hD hK hE hS hA [true] rfl) rfl rfl hl.1 rfl (lv_room (Nat.le_of_ble_eq_true rfl)) dL_isAnswer_12 ⟨(Nat.le_of_ble_eq_true rfl), (Nat.le_of_ble_eq_true rfl)⟩) hS hA hP hD [true] rfl rfl (fun _ _ h => h.2.2) (fun r H locs hw hP hD hS => ?_)
    obtain ⟨hr0, c_4, -⟩ := hw
    subst r
    have hP : va_P D vwCl ((wW_k_L_isAnswer ty g0 a1.toNatClampNeg gf) ++ pw ty pp) H := hP
    have hD : va_D A ((wW_k_L_isAnswer ty g0 a1.toNatClampNeg gf) ++ pw ty pp) := hD
    refine W.widen (k := 0) (n := 0) (Nat.le_of_ble_eq_true rfl) (Nat.le_of_ble_eq_true rfl) ?_
    refine lv_if_ne (tgt := 20) hx hb dL_isAnswer_15 (by decide) (fun c_5 => ?_) (fun c_5 => ?_)
    · rw [if_neg c_5] at hT
      refine lv_iconst (v := 1) hx hb dL_isAnswer_20 (by decide) ?_
      refine lv_istore (lv' := [(5, .int 1), (0, .ref g0), (1, .int a1), (2, .int a2), (3, .int a3), (4, .int a4)]) hx hb dL_isAnswer_21 hl (by decide) rfl (fun ls hl => ?_)
      refine lv_iconst (v := 0) hx hb dL_isAnswer_23 (by decide) ?_
      refine lv_istore (lv' := [(6, .int 0), (5, .int 1), (0, .ref g0), (1, .int a1), (2, .int a2), (3, .int a3), (4, .int a4)]) hx hb dL_isAnswer_24 hl (by decide) rfl (fun ls hl => ?_)
      have L_26 : ∀ (n_26 : Nat) (v5_26 : Int32) (v6_26 : Int32), (2147483648 - v6_26.toInt).toNat < n_26 → TT = m_k_L_isAnswer_26 pp gf a1 a2 a3 a4 n_26 v5_26 v6_26 → 0 ≤ v6_26.toInt → v5_26 = 0 ∨ v5_26 = 1 → ∀ (H : Heap) (locs : List Loc), va_P D vwCl ((wW_k_L_isAnswer ty g0 a1.toNatClampNeg gf) ++ pw ty pp) H → va_D A ((wW_k_L_isAnswer ty g0 a1.toNatClampNeg gf) ++ pw ty pp) → va_S A s.heap H locs → ∀ ls : Array Slot, lv_has ls 8 [(0, .ref g0), (1, .int a1), (2, .int a2), (3, .int a3), (4, .int a4), (5, .int v5_26), (6, .int v6_26)] → W p l e (headSpec vs_k_L_isAnswer { frames := 2, cells := 0, slots := 0, locals := 49 }).room s m ([.ref g0, .int a1, .int a2, .int a3, .int a4] : List Value).toArray below meth c H locs 0 0 (MQ below (va_Qi (fun (r : Int32) (u : va_W) => (r = TT ∧ (TT = 0 ∨ TT = 1) ∧ (u = ((wW_k_L_isAnswer ty g0 a1.toNatClampNeg gf) ++ pw ty pp)))) (wq_B D A) A) ([.ref g0, .int a1, .int a2, .int a3, .int a4] : List Value).toArray s 0 0 A) (F0 m 26 ls []) := by
        intro n_26
        induction n_26 with
        | zero => intro v5_26 v6_26 hu; exact absurd hu (Nat.not_lt_zero _)
        | succ n_26 ih_26 =>
          intro v5_26 v6_26 hu_26 hT hn_26 hb_v5_26 H locs hP hD hS ls hl
          rw [m_k_L_isAnswer_26_succ, m_k_L_isAnswer_26s] at hT
          refine lv_iload hx hb dL_isAnswer_26 (lv_at hl 6 rfl) ?_
          refine lv_iload hx hb dL_isAnswer_28 (lv_at hl 4 rfl) ?_
          refine lv_icmp_ge (tgt := 105) hx hb dL_isAnswer_30 (by decide) (fun c_6 => ?_) (fun c_6 => ?_)
          · rw [if_pos c_6] at hT
            refine lv_iload hx hb dL_isAnswer_105 (lv_at hl 5 rfl) ?_
            exact END v5_26 hT hb_v5_26 _ _ hP hD hS _ _ dL_isAnswer_107
          · rw [if_neg c_6] at hT
            refine lv_iload hx hb dL_isAnswer_33 (lv_at hl 5 rfl) ?_
            refine lv_if_eq (tgt := 105) hx hb dL_isAnswer_35 (by decide) (fun c_7 => ?_) (fun c_7 => ?_)
            · rw [if_pos c_7] at hT
              refine lv_iload hx hb dL_isAnswer_105 (lv_at hl 5 rfl) ?_
              exact END v5_26 hT hb_v5_26 _ _ hP hD hS _ _ dL_isAnswer_107
            · rw [if_neg c_7] at hT
              refine lv_iload hx hb dL_isAnswer_38 (lv_at hl 6 rfl) ?_
              refine lv_iload hx hb dL_isAnswer_40 (lv_at hl 4 rfl) ?_
              refine lv_iconst (v := (-1)) hx hb dL_isAnswer_42 (by decide) ?_
              refine lv_ixor hx hb dL_isAnswer_43 ?_
              refine lv_iand hx hb dL_isAnswer_44 ?_
              have J_73 : ∀ (s0_73 : Int32), TT = m_k_L_isAnswer_73 pp gf a1 a4 (m_k_L_isAnswer_26 pp gf a1 a2 a3 a4 n_26) v6_26 s0_73 → s0_73 = 0 ∨ s0_73 = 1 → ∀ (H : Heap) (locs : List Loc), va_P D vwCl ((wW_k_L_isAnswer ty g0 a1.toNatClampNeg gf) ++ pw ty pp) H → va_D A ((wW_k_L_isAnswer ty g0 a1.toNatClampNeg gf) ++ pw ty pp) → va_S A s.heap H locs → ∀ ls : Array Slot, lv_has ls 8 [(0, .ref g0), (1, .int a1), (2, .int a2), (3, .int a3), (4, .int a4), (6, .int v6_26)] → W p l e (headSpec vs_k_L_isAnswer { frames := 2, cells := 0, slots := 0, locals := 49 }).room s m ([.ref g0, .int a1, .int a2, .int a3, .int a4] : List Value).toArray below meth c H locs 0 0 (MQ below (va_Qi (fun (r : Int32) (u : va_W) => (r = TT ∧ (TT = 0 ∨ TT = 1) ∧ (u = ((wW_k_L_isAnswer ty g0 a1.toNatClampNeg gf) ++ pw ty pp)))) (wq_B D A) A) ([.ref g0, .int a1, .int a2, .int a3, .int a4] : List Value).toArray s 0 0 A) (F0 m 73 ls [.int s0_73]) := by
                intro s0_73 hT hb_s0_73 H locs hP hD hS ls hl
                rw [m_k_L_isAnswer_73] at hT
                refine lv_istore (lv' := [(7, .int s0_73), (0, .ref g0), (1, .int a1), (2, .int a2), (3, .int a3), (4, .int a4), (6, .int v6_26)]) hx hb dL_isAnswer_73 hl (by decide) rfl (fun ls hl => ?_)
                refine lv_iload hx hb dL_isAnswer_75 (lv_at hl 0 rfl) ?_
                have J_97 : ∀ (s0_97 : Int32), TT = m_k_L_isAnswer_97 (m_k_L_isAnswer_26 pp gf a1 a2 a3 a4 n_26) v6_26 s0_97 → s0_97 = 0 ∨ s0_97 = 1 → ∀ (H : Heap) (locs : List Loc), va_P D vwCl ((wW_k_L_isAnswer ty g0 a1.toNatClampNeg gf) ++ pw ty pp) H → va_D A ((wW_k_L_isAnswer ty g0 a1.toNatClampNeg gf) ++ pw ty pp) → va_S A s.heap H locs → ∀ ls : Array Slot, lv_has ls 8 [(0, .ref g0), (1, .int a1), (2, .int a2), (3, .int a3), (4, .int a4), (6, .int v6_26)] → W p l e (headSpec vs_k_L_isAnswer { frames := 2, cells := 0, slots := 0, locals := 49 }).room s m ([.ref g0, .int a1, .int a2, .int a3, .int a4] : List Value).toArray below meth c H locs 0 0 (MQ below (va_Qi (fun (r : Int32) (u : va_W) => (r = TT ∧ (TT = 0 ∨ TT = 1) ∧ (u = ((wW_k_L_isAnswer ty g0 a1.toNatClampNeg gf) ++ pw ty pp)))) (wq_B D A) A) ([.ref g0, .int a1, .int a2, .int a3, .int a4] : List Value).toArray s 0 0 A) (F0 m 97 ls [.int s0_97]) := by
                  intro s0_97 hT hb_s0_97 H locs hP hD hS ls hl
                  rw [m_k_L_isAnswer_97] at hT
                  refine lv_istore (lv' := [(5, .int s0_97), (0, .ref g0), (1, .int a1), (2, .int a2), (3, .int a3), (4, .int a4), (6, .int v6_26)]) hx hb dL_isAnswer_97 hl (by decide) rfl (fun ls hl => ?_)
                  refine lv_iinc (v := v6_26 + 1) (lv' := [(6, .int (v6_26 + 1)), (5, .int s0_97), (0, .ref g0), (1, .int a1), (2, .int a2), (3, .int a3), (4, .int a4)]) hx hb dL_isAnswer_99 hl (k := 6) rfl (by rfl) (by decide) rfl (fun ls hl => ?_)
                  refine lv_goto (tgt := 26) hx hb dL_isAnswer_102 (by decide) ?_
                  exact ih_26 s0_97 (v6_26 + 1) (wi_up hu_26 (Int32.not_le.mp c_6)) hT (wi_inc hn_26 (Int32.not_le.mp c_6)) hb_s0_97 _ _ hP hD hS _ (lv_sub hl [2, 3, 4, 5, 6, 1, 0] rfl)
                have J_92 : ∀ (_ : Unit), TT = m_k_L_isAnswer_92 (m_k_L_isAnswer_26 pp gf a1 a2 a3 a4 n_26) v6_26 → ∀ (H : Heap) (locs : List Loc), va_P D vwCl ((wW_k_L_isAnswer ty g0 a1.toNatClampNeg gf) ++ pw ty pp) H → va_D A ((wW_k_L_isAnswer ty g0 a1.toNatClampNeg gf) ++ pw ty pp) → va_S A s.heap H locs → ∀ ls : Array Slot, lv_has ls 8 [(0, .ref g0), (1, .int a1), (2, .int a2), (3, .int a3), (4, .int a4), (6, .int v6_26)] → W p l e (headSpec vs_k_L_isAnswer { frames := 2, cells := 0, slots := 0, locals := 49 }).room s m ([.ref g0, .int a1, .int a2, .int a3, .int a4] : List Value).toArray below meth c H locs 0 0 (MQ below (va_Qi (fun (r : Int32) (u : va_W) => (r = TT ∧ (TT = 0 ∨ TT = 1) ∧ (u = ((wW_k_L_isAnswer ty g0 a1.toNatClampNeg gf) ++ pw ty pp)))) (wq_B D A) A) ([.ref g0, .int a1, .int a2, .int a3, .int a4] : List Value).toArray s 0 0 A) (F0 m 92 ls []) := by
                  intro _ hT  H locs hP hD hS ls hl
                  rw [m_k_L_isAnswer_92] at hT
                  refine lv_iconst (v := 1) hx hb dL_isAnswer_92 (by decide) ?_
                  refine lv_goto (tgt := 97) hx hb dL_isAnswer_93 (by decide) ?_
                  exact J_97 1 hT (by decide) _ _ hP hD hS _ (lv_sub hl [0, 1, 2, 3, 4, 5] rfl)
                refine lv_if_eq (tgt := 92) hx hb dL_isAnswer_77 (by decide) (fun c_8 => ?_) (fun c_8 => ?_)
                · rw [if_pos c_8] at hT
                  exact J_92 () hT _ _ hP hD hS _ (lv_sub hl [1, 2, 3, 4, 5, 6] rfl)
                · rw [if_neg c_8] at hT
                  refine lv_aload_n hx hb dL_isAnswer_80 rfl (lv_at hl 1 rfl) ?_
                  refine lv_iload_n hx hb dL_isAnswer_81 rfl (lv_at hl 2 rfl) ?_
                  refine lv_iload hx hb dL_isAnswer_82 (lv_at hl 5 rfl) ?_
                  refine lv_iload hx hb dL_isAnswer_84 (lv_at hl 6 rfl) ?_
                  obtain ⟨t_86, ht_86⟩ : ∃ t, t = m_k_L_isEnough pp gf a1 a4 v6_26 := ⟨_, rfl⟩
                  rw [lE_eq ht_86] at hT
                  refine wq_iPW (wc := (wW_k_L_isEnough ty g0 a1.toNatClampNeg gf)) (pl := pw ty pp) (ux := (wW_k_L_isEnough ty g0 a1.toNatClampNeg gf)) (va_runS (As := [.ref g0, .int a1, .int a4, .int v6_26]) (rest := []) ⟨hx, hb, hml, hown, hts⟩ (k_L_isEnough l D ty td mi H.size pp g0 gf a1 a4 v6_26 hok hrr t_86 ht_86) (va_cwS 4 hts gv_k_L_isAnswer_1 rfl rfl rfl (by decide +kernel) ⟨(Nat.le_of_ble_eq_true rfl), (Nat.le_of_ble_eq_true rfl)⟩) (wm_preSP hP hD hK hE hS hA [true] rfl) rfl rfl hl.1 rfl (lv_room (Nat.le_of_ble_eq_true rfl)) dL_isAnswer_86 ⟨(Nat.le_of_ble_eq_true rfl), (Nat.le_of_ble_eq_true rfl)⟩) hS hA hP hD [true] rfl rfl (fun _ _ h => h.2.2) (fun r H locs hw hP hD hS => ?_)
                  obtain ⟨hr0, c_11, -⟩ := hw
                  subst r
                  have hP : va_P D vwCl ((wW_k_L_isAnswer ty g0 a1.toNatClampNeg gf) ++ pw ty pp) H := hP
                  have hD : va_D A ((wW_k_L_isAnswer ty g0 a1.toNatClampNeg gf) ++ pw ty pp) := hD
                  refine W.widen (k := 0) (n := 0) (Nat.le_of_ble_eq_true rfl) (Nat.le_of_ble_eq_true rfl) ?_
                  refine lv_if_ne (tgt := 96) hx hb dL_isAnswer_89 (by decide) (fun c_12 => ?_) (fun c_12 => ?_)
                  · rw [if_neg c_12] at hT
                    refine lv_iconst (v := 0) hx hb dL_isAnswer_96 (by decide) ?_
                    exact J_97 0 hT (by decide) _ _ hP hD hS _ (lv_sub hl [1, 2, 3, 4, 5, 6] rfl)
                  · rw [if_pos c_12] at hT
                    exact J_92 () hT _ _ hP hD hS _ (lv_sub hl [1, 2, 3, 4, 5, 6] rfl)
              have J_72 : ∀ (_ : Unit), TT = m_k_L_isAnswer_72 pp gf a1 a4 (m_k_L_isAnswer_26 pp gf a1 a2 a3 a4 n_26) v6_26 → ∀ (H : Heap) (locs : List Loc), va_P D vwCl ((wW_k_L_isAnswer ty g0 a1.toNatClampNeg gf) ++ pw ty pp) H → va_D A ((wW_k_L_isAnswer ty g0 a1.toNatClampNeg gf) ++ pw ty pp) → va_S A s.heap H locs → ∀ ls : Array Slot, lv_has ls 8 [(0, .ref g0), (1, .int a1), (2, .int a2), (3, .int a3), (4, .int a4), (6, .int v6_26)] → W p l e (headSpec vs_k_L_isAnswer { frames := 2, cells := 0, slots := 0, locals := 49 }).room s m ([.ref g0, .int a1, .int a2, .int a3, .int a4] : List Value).toArray below meth c H locs 0 0 (MQ below (va_Qi (fun (r : Int32) (u : va_W) => (r = TT ∧ (TT = 0 ∨ TT = 1) ∧ (u = ((wW_k_L_isAnswer ty g0 a1.toNatClampNeg gf) ++ pw ty pp)))) (wq_B D A) A) ([.ref g0, .int a1, .int a2, .int a3, .int a4] : List Value).toArray s 0 0 A) (F0 m 72 ls []) := by
                intro _ hT  H locs hP hD hS ls hl
                rw [m_k_L_isAnswer_72] at hT
                refine lv_iconst (v := 0) hx hb dL_isAnswer_72 (by decide) ?_
                exact J_73 0 hT (by decide) _ _ hP hD hS _ (lv_sub hl [0, 1, 2, 3, 4, 5] rfl)
              refine lv_if_ne (tgt := 72) hx hb dL_isAnswer_45 (by decide) (fun c_13 => ?_) (fun c_13 => ?_)
              · rw [if_neg c_13] at hT
                exact J_72 () hT _ _ hP hD hS _ (lv_sub hl [0, 1, 2, 3, 4, 6] rfl)
              · rw [if_pos c_13] at hT
                refine lv_iload hx hb dL_isAnswer_48 (lv_at hl 6 rfl) ?_
                refine lv_iload_n hx hb dL_isAnswer_50 rfl (lv_at hl 2 rfl) ?_
                refine lv_iand hx hb dL_isAnswer_51 ?_
                refine lv_iload_n hx hb dL_isAnswer_52 rfl (lv_at hl 2 rfl) ?_
                refine lv_icmp_ne (tgt := 72) hx hb dL_isAnswer_53 (by decide) (fun c_14 => ?_) (fun c_14 => ?_)
                · rw [if_neg c_14] at hT
                  exact J_72 () hT _ _ hP hD hS _ (lv_sub hl [0, 1, 2, 3, 4, 6] rfl)
                · rw [if_pos c_14] at hT
                  refine lv_iload hx hb dL_isAnswer_56 (lv_at hl 4 rfl) ?_
                  refine lv_iload_n hx hb dL_isAnswer_58 rfl (lv_at hl 3 rfl) ?_
                  refine lv_iand hx hb dL_isAnswer_59 ?_
                  refine lv_iload hx hb dL_isAnswer_60 (lv_at hl 6 rfl) ?_
                  refine lv_iconst (v := (-1)) hx hb dL_isAnswer_62 (by decide) ?_
                  refine lv_ixor hx hb dL_isAnswer_63 ?_
                  refine lv_iand hx hb dL_isAnswer_64 ?_
                  refine lv_if_ne (tgt := 72) hx hb dL_isAnswer_65 (by decide) (fun c_15 => ?_) (fun c_15 => ?_)
                  · rw [if_neg c_15] at hT
                    exact J_72 () hT _ _ hP hD hS _ (lv_sub hl [0, 1, 2, 3, 4, 6] rfl)
                  · rw [if_pos c_15] at hT
                    refine lv_iconst (v := 1) hx hb dL_isAnswer_68 (by decide) ?_
                    refine lv_goto (tgt := 73) hx hb dL_isAnswer_69 (by decide) ?_
                    exact J_73 1 hT (by decide) _ _ hP hD hS _ (lv_sub hl [0, 1, 2, 3, 4, 6] rfl)
      exact L_26 wF 1 0 (wF_up 0) hT (by decide) (by decide) _ _ hP hD hS _ (lv_sub hl [2, 3, 4, 5, 6, 1, 0] rfl)
    · rw [if_pos c_5] at hT
      refine lv_iconst (v := 0) hx hb dL_isAnswer_18 (by decide) ?_
      exact END 0 hT (by decide) _ _ hP hD hS _ _ dL_isAnswer_19
theorem dL_costOf_0 : decode cL_costOf 0 = .ok (.iconst 0, 1) := by decide +kernel
theorem dL_costOf_1 : decode cL_costOf 1 = .ok (.istore 4, 2) := by decide +kernel
theorem dL_costOf_3 : decode cL_costOf 3 = .ok (.iconst 0, 1) := by decide +kernel
theorem dL_costOf_4 : decode cL_costOf 4 = .ok (.istore 5, 2) := by decide +kernel
theorem dL_costOf_6 : decode cL_costOf 6 = .ok (.iload 5, 2) := by decide +kernel
theorem dL_costOf_8 : decode cL_costOf 8 = .ok (.iload_n 1, 1) := by decide +kernel
theorem dL_costOf_9 : decode cL_costOf 9 = .ok (.if_icmp .ge 56, 3) := by decide +kernel
theorem dL_costOf_12 : decode cL_costOf 12 = .ok (.iload 4, 2) := by decide +kernel
theorem dL_costOf_14 : decode cL_costOf 14 = .ok (.aload_n 0, 1) := by decide +kernel
theorem dL_costOf_15 : decode cL_costOf 15 = .ok (.iload 5, 2) := by decide +kernel
theorem dL_costOf_17 : decode cL_costOf 17 = .ok (.aaload, 1) := by decide +kernel
theorem dL_costOf_18 : decode cL_costOf 18 = .ok (.iconst 0, 1) := by decide +kernel
theorem dL_costOf_19 : decode cL_costOf 19 = .ok (.iaload, 1) := by decide +kernel
theorem dL_costOf_20 : decode cL_costOf 20 = .ok (.bipush 119, 2) := by decide +kernel
theorem dL_costOf_22 : decode cL_costOf 22 = .ok (.if_icmp .ne 33, 3) := by decide +kernel
theorem dL_costOf_25 : decode cL_costOf 25 = .ok (.aload_n 0, 1) := by decide +kernel
theorem dL_costOf_26 : decode cL_costOf 26 = .ok (.iload 5, 2) := by decide +kernel
theorem dL_costOf_28 : decode cL_costOf 28 = .ok (.aaload, 1) := by decide +kernel
theorem dL_costOf_29 : decode cL_costOf 29 = .ok (.iconst 3, 1) := by decide +kernel
theorem dL_costOf_30 : decode cL_costOf 30 = .ok (.iaload, 1) := by decide +kernel
theorem dL_costOf_31 : decode cL_costOf 31 = .ok (.iload_n 3, 1) := by decide +kernel
theorem dL_costOf_32 : decode cL_costOf 32 = .ok (.if_icmp .ne 23, 3) := by decide +kernel
theorem dL_costOf_35 : decode cL_costOf 35 = .ok (.aload_n 0, 1) := by decide +kernel
theorem dL_costOf_36 : decode cL_costOf 36 = .ok (.iload 5, 2) := by decide +kernel
theorem dL_costOf_38 : decode cL_costOf 38 = .ok (.aaload, 1) := by decide +kernel
theorem dL_costOf_39 : decode cL_costOf 39 = .ok (.iload_n 2, 1) := by decide +kernel
theorem dL_costOf_40 : decode cL_costOf 40 = .ok (.invokestatic 140, 3) := by decide +kernel
theorem dL_costOf_43 : decode cL_costOf 43 = .ok (.ifCond .eq 12, 3) := by decide +kernel
theorem dL_costOf_46 : decode cL_costOf 46 = .ok (.aload_n 0, 1) := by decide +kernel
theorem dL_costOf_47 : decode cL_costOf 47 = .ok (.iload 5, 2) := by decide +kernel
theorem dL_costOf_49 : decode cL_costOf 49 = .ok (.aaload, 1) := by decide +kernel
theorem dL_costOf_50 : decode cL_costOf 50 = .ok (.iconst 2, 1) := by decide +kernel
theorem dL_costOf_51 : decode cL_costOf 51 = .ok (.iaload, 1) := by decide +kernel
theorem dL_costOf_52 : decode cL_costOf 52 = .ok (.goto 4, 3) := by decide +kernel
theorem dL_costOf_55 : decode cL_costOf 55 = .ok (.iconst 0, 1) := by decide +kernel
theorem dL_costOf_56 : decode cL_costOf 56 = .ok (.iadd, 1) := by decide +kernel
theorem dL_costOf_57 : decode cL_costOf 57 = .ok (.istore 4, 2) := by decide +kernel
theorem dL_costOf_59 : decode cL_costOf 59 = .ok (.iinc 5 1, 3) := by decide +kernel
theorem dL_costOf_62 : decode cL_costOf 62 = .ok (.goto (-56), 3) := by decide +kernel
theorem dL_costOf_65 : decode cL_costOf 65 = .ok (.iload 4, 2) := by decide +kernel
theorem dL_costOf_67 : decode cL_costOf 67 = .ok (.ireturn, 1) := by decide +kernel
def wW_k_L_costOf (ty : Nat → ClassId) (g0 : Nat) (z9_0 : Nat) (z9_1 : Nat → Option Nat) : va_W := [(g0, .inl (ty 6, z9_0, .inr (.inr (.inr (.inr z9_1)))))]
def vs_k_L_costOf : List Cond := .code yL_costOf cL_costOf 6 (some .int) :: ([.methodLink RL 140 yL_isHeld, .static yL_isHeld, .initialized RL] ++ (vs_k_L_isHeld))
set_option maxRecDepth 20000 in
theorem gv_k_L_costOf_0 : GoodIn vs_k_L_costOf (va_wsS RL 140 yL_isHeld vs_k_L_isHeld) := goodIn_app (goodIn_sub (by decide +kernel) (by decide +kernel)) (goodIn_sub (fun _ h => List.mem_cons_of_mem _ (List.mem_append_right _ (h))) (by decide +kernel))
set_option maxHeartbeats 4000000 in
set_option maxRecDepth 100000 in
theorem k_L_costOf (l : Launch) (D : va_G) (ty : Nat → ClassId) (td mi sz : Nat) (pp : pT) (g0 : Nat) (gf : Nat → Option Nat) (a1 : Int32) (a2 : Int32) (a3 : Int32) (hok : pOK pp) (hrr : ∀ i : Int32, 0 ≤ i.toInt → i.toInt < a1.toInt → ∃ a, gf i.toNatClampNeg = some a ∧ a ∈ pZA pp) (TT : r_k_L_costOf) (hTT : TT = m_k_L_costOf pp gf a1 a2 a3) : Met l yL_costOf vs_k_L_costOf { frames := 1, cells := 0, slots := 0, locals := 22 } (va_Pc [.ref g0, .int a1, .int a2, .int a3] (wq_P D ty td mi ((wW_k_L_costOf ty g0 a1.toNatClampNeg gf) ++ pw ty pp) sz)) (va_Qi (fun (r : Int32) (u : va_W) => (r = TT ∧ (u = ((wW_k_L_costOf ty g0 a1.toNatClampNeg gf) ++ pw ty pp)))) (wq_B D (va_A ((wW_k_L_costOf ty g0 a1.toNatClampNeg gf) ++ pw ty pp) sz)) (va_A ((wW_k_L_costOf ty g0 a1.toNatClampNeg gf) ++ pw ty pp) sz)) 0 0 (va_A ((wW_k_L_costOf ty g0 a1.toNatClampNeg gf) ++ pw ty pp) sz) := by
  refine Met.ofW (cc := cL_costOf) (maxL := 6) (ret := (some .int)) (by decide) rfl ?_
  intro p e s m args below meth c s₁ B hml hv
  obtain ⟨rfl, hsz, hP, hK, hD0, hE⟩ := hv
  have hx := B.exec
  have hb := B.bytes
  have hr := B.returns
  have hts := atoms_spec (ws := vs_k_L_costOf) B.pre
  have hown : s.vm.findClass RL = some m.cls := findClass_of_methodNamed B.named
  have hlocks := B.notSynchronized
  subst hsz
  have hD := hD0.self (sz := s.heap.size)
  generalize hAe : va_A ((wW_k_L_costOf ty g0 a1.toNatClampNeg gf) ++ pw ty pp) s.heap.size = A at hD hE ⊢
  have hA : ∀ q : Nat, s.heap.size ≤ q → A q := fun q h => by rw [← hAe]; exact Or.inr h
  have hS : va_S A s.heap s.heap [] := va_S.rf
  have hP : va_P D vwCl ((wW_k_L_costOf ty g0 a1.toNatClampNeg gf) ++ pw ty pp) s.heap := hP
  have hl := lv_entry ([.ref g0, .int a1, .int a2, .int a3]) (n := 6) (Nat.le_of_ble_eq_true rfl)
  rw [lg_entry_eq]
  generalize (lg_sl ([.ref g0, .int a1, .int a2, .int a3]) ++ List.replicate (6 - (lg_sl ([.ref g0, .int a1, .int a2, .int a3])).length) Slot.unset).toArray = ls at hl ⊢
  have hl : lv_has ls 6 [(0, .ref g0), (1, .int a1), (2, .int a2), (3, .int a3)] := hl
  have END : ∀ (r : Int32), TT = r → ∀ (H : Heap) (locs : List Loc), va_P D vwCl ((wW_k_L_costOf ty g0 a1.toNatClampNeg gf) ++ pw ty pp) H → va_D A ((wW_k_L_costOf ty g0 a1.toNatClampNeg gf) ++ pw ty pp) → va_S A s.heap H locs → ∀ (ls : Array Slot) (pc : Nat), decode cL_costOf pc = .ok (.ireturn, 1) → W p l e (headSpec vs_k_L_costOf { frames := 1, cells := 0, slots := 0, locals := 22 }).room s m ([.ref g0, .int a1, .int a2, .int a3] : List Value).toArray below meth c H locs 0 0 (MQ below (va_Qi (fun (r : Int32) (u : va_W) => (r = TT ∧ (u = ((wW_k_L_costOf ty g0 a1.toNatClampNeg gf) ++ pw ty pp)))) (wq_B D A) A) ([.ref g0, .int a1, .int a2, .int a3] : List Value).toArray s 0 0 A) (F0 m pc ls [.int r]) := by
    intro r hT H locs hP hD hS ls pc hd
    have hM : TT = r := hT
    exact W.iret (v := r) hx hb hr (fun t ht hW => ⟨⟨r, ((wW_k_L_costOf ty g0 a1.toNatClampNeg gf) ++ pw ty pp), rfl, ⟨(by rw [hM]), rfl⟩, wq_B.of ht hP hD⟩, hS.F ht⟩) hS.2.2 hd
  have hT := hTT
  rw [m_k_L_costOf] at hT
  refine lv_iconst (v := 0) hx hb dL_costOf_0 (by decide) ?_
  refine lv_istore (lv' := [(4, .int 0), (0, .ref g0), (1, .int a1), (2, .int a2), (3, .int a3)]) hx hb dL_costOf_1 hl (by decide) rfl (fun ls hl => ?_)
  refine lv_iconst (v := 0) hx hb dL_costOf_3 (by decide) ?_
  refine lv_istore (lv' := [(5, .int 0), (4, .int 0), (0, .ref g0), (1, .int a1), (2, .int a2), (3, .int a3)]) hx hb dL_costOf_4 hl (by decide) rfl (fun ls hl => ?_)
  have L_6 : ∀ (n_6 : Nat) (v4_6 : Int32) (v5_6 : Int32), (2147483648 - v5_6.toInt).toNat < n_6 → TT = m_k_L_costOf_6 pp gf a1 a2 a3 n_6 v4_6 v5_6 → 0 ≤ v5_6.toInt → ∀ (H : Heap) (locs : List Loc), va_P D vwCl ((wW_k_L_costOf ty g0 a1.toNatClampNeg gf) ++ pw ty pp) H → va_D A ((wW_k_L_costOf ty g0 a1.toNatClampNeg gf) ++ pw ty pp) → va_S A s.heap H locs → ∀ ls : Array Slot, lv_has ls 6 [(0, .ref g0), (1, .int a1), (2, .int a2), (3, .int a3), (4, .int v4_6), (5, .int v5_6)] → W p l e (headSpec vs_k_L_costOf { frames := 1, cells := 0, slots := 0, locals := 22 }).room s m ([.ref g0, .int a1, .int a2, .int a3] : List Value).toArray below meth c H locs 0 0 (MQ below (va_Qi (fun (r : Int32) (u : va_W) => (r = TT ∧ (u = ((wW_k_L_costOf ty g0 a1.toNatClampNeg gf) ++ pw ty pp)))) (wq_B D A) A) ([.ref g0, .int a1, .int a2, .int a3] : List Value).toArray s 0 0 A) (F0 m 6 ls []) := by
    intro n_6
    induction n_6 with
    | zero => intro v4_6 v5_6 hu; exact absurd hu (Nat.not_lt_zero _)
    | succ n_6 ih_6 =>
      intro v4_6 v5_6 hu_6 hT hn_6 H locs hP hD hS ls hl
      rw [m_k_L_costOf_6_succ, m_k_L_costOf_6s] at hT
      refine lv_iload hx hb dL_costOf_6 (lv_at hl 5 rfl) ?_
      refine lv_iload_n hx hb dL_costOf_8 rfl (lv_at hl 1 rfl) ?_
      refine lv_icmp_ge (tgt := 65) hx hb dL_costOf_9 (by decide) (fun c_1 => ?_) (fun c_1 => ?_)
      · rw [if_pos c_1] at hT
        refine lv_iload hx hb dL_costOf_65 (lv_at hl 4 rfl) ?_
        exact END v4_6 hT _ _ hP hD hS _ _ dL_costOf_67
      · rw [if_neg c_1] at hT
        refine lv_iload hx hb dL_costOf_12 (lv_at hl 4 rfl) ?_
        refine lv_aload_n hx hb dL_costOf_14 rfl (lv_at hl 0 rfl) ?_
        refine lv_iload hx hb dL_costOf_15 (lv_at hl 5 rfl) ?_
        refine wq_aldA (D := D) hx hb hK hP 0 6 rfl rfl (wi_inN hn_6 (Int32.lt_iff_toInt_lt.mp (Int32.not_le.mp c_1))) dL_costOf_17 ?_
        obtain ⟨o_17, ho_17, hmo_17⟩ := hrr v5_6 hn_6 (Int32.lt_iff_toInt_lt.mp (Int32.not_le.mp c_1))
        rw [ho_17, oE_some] at hT
        rw [ho_17]
        refine W.eq (g2 := F0 m 18 ls [.ref o_17, .int v4_6]) rfl ?_
        refine lv_iconst (v := 0) hx hb dL_costOf_18 (by decide) ?_
        obtain ⟨k_2, hk_2⟩ := List.getElem?_of_mem (pw_row (ty := ty) (p := pp) (L := [(g0, .inl (ty 6, a1.toNatClampNeg, .inr (.inr (.inr (.inr gf)))))]) hmo_17)
        refine va_iald (D := D) hx hb hK hP k_2 0 hk_2 rfl (vp_in_iff.mpr (by decide)) dL_costOf_19 ?_
        refine lv_bipush (v := 119) hx hb dL_costOf_20 (by decide) ?_
        have J_56 : ∀ (s0_56 : Int32), TT = m_k_L_costOf_56 (m_k_L_costOf_6 pp gf a1 a2 a3 n_6) v4_6 v5_6 s0_56 → ∀ (H : Heap) (locs : List Loc), va_P D vwCl ((wW_k_L_costOf ty g0 a1.toNatClampNeg gf) ++ pw ty pp) H → va_D A ((wW_k_L_costOf ty g0 a1.toNatClampNeg gf) ++ pw ty pp) → va_S A s.heap H locs → ∀ ls : Array Slot, lv_has ls 6 [(0, .ref g0), (1, .int a1), (2, .int a2), (3, .int a3), (5, .int v5_6)] → W p l e (headSpec vs_k_L_costOf { frames := 1, cells := 0, slots := 0, locals := 22 }).room s m ([.ref g0, .int a1, .int a2, .int a3] : List Value).toArray below meth c H locs 0 0 (MQ below (va_Qi (fun (r : Int32) (u : va_W) => (r = TT ∧ (u = ((wW_k_L_costOf ty g0 a1.toNatClampNeg gf) ++ pw ty pp)))) (wq_B D A) A) ([.ref g0, .int a1, .int a2, .int a3] : List Value).toArray s 0 0 A) (F0 m 56 ls [.int s0_56, .int v4_6]) := by
          intro s0_56 hT  H locs hP hD hS ls hl
          rw [m_k_L_costOf_56] at hT
          refine lv_iadd hx hb dL_costOf_56 ?_
          refine lv_istore (lv' := [(4, .int (v4_6 + s0_56)), (0, .ref g0), (1, .int a1), (2, .int a2), (3, .int a3), (5, .int v5_6)]) hx hb dL_costOf_57 hl (by decide) rfl (fun ls hl => ?_)
          refine lv_iinc (v := v5_6 + 1) (lv' := [(5, .int (v5_6 + 1)), (4, .int (v4_6 + s0_56)), (0, .ref g0), (1, .int a1), (2, .int a2), (3, .int a3)]) hx hb dL_costOf_59 hl (k := 5) rfl (by rfl) (by decide) rfl (fun ls hl => ?_)
          refine lv_goto (tgt := 6) hx hb dL_costOf_62 (by decide) ?_
          exact ih_6 (v4_6 + s0_56) (v5_6 + 1) (wi_up hu_6 (Int32.not_le.mp c_1)) hT (wi_inc hn_6 (Int32.not_le.mp c_1)) _ _ hP hD hS _ (lv_sub hl [2, 3, 4, 5, 1, 0] rfl)
        have J_55 : ∀ (_ : Unit), TT = m_k_L_costOf_55 (m_k_L_costOf_6 pp gf a1 a2 a3 n_6) v4_6 v5_6 → ∀ (H : Heap) (locs : List Loc), va_P D vwCl ((wW_k_L_costOf ty g0 a1.toNatClampNeg gf) ++ pw ty pp) H → va_D A ((wW_k_L_costOf ty g0 a1.toNatClampNeg gf) ++ pw ty pp) → va_S A s.heap H locs → ∀ ls : Array Slot, lv_has ls 6 [(0, .ref g0), (1, .int a1), (2, .int a2), (3, .int a3), (5, .int v5_6)] → W p l e (headSpec vs_k_L_costOf { frames := 1, cells := 0, slots := 0, locals := 22 }).room s m ([.ref g0, .int a1, .int a2, .int a3] : List Value).toArray below meth c H locs 0 0 (MQ below (va_Qi (fun (r : Int32) (u : va_W) => (r = TT ∧ (u = ((wW_k_L_costOf ty g0 a1.toNatClampNeg gf) ++ pw ty pp)))) (wq_B D A) A) ([.ref g0, .int a1, .int a2, .int a3] : List Value).toArray s 0 0 A) (F0 m 55 ls [.int v4_6]) := by
          intro _ hT  H locs hP hD hS ls hl
          rw [m_k_L_costOf_55] at hT
          refine lv_iconst (v := 0) hx hb dL_costOf_55 (by decide) ?_
          exact J_56 0 hT _ _ hP hD hS _ (lv_sub hl [0, 1, 2, 3, 4] rfl)
        refine lv_icmp_ne (tgt := 55) hx hb dL_costOf_22 (by decide) (fun c_3 => ?_) (fun c_3 => ?_)
        · rw [if_neg c_3] at hT
          exact J_55 () hT _ _ hP hD hS _ (lv_sub hl [0, 1, 2, 3, 5] rfl)
        · rw [if_pos c_3] at hT
          refine lv_aload_n hx hb dL_costOf_25 rfl (lv_at hl 0 rfl) ?_
          refine lv_iload hx hb dL_costOf_26 (lv_at hl 5 rfl) ?_
          refine wq_aldA (D := D) hx hb hK hP 0 6 rfl rfl (wi_inN hn_6 (Int32.lt_iff_toInt_lt.mp (Int32.not_le.mp c_1))) dL_costOf_28 ?_
          rw [ho_17]
          refine W.eq (g2 := F0 m 29 ls [.ref o_17, .int v4_6]) rfl ?_
          refine lv_iconst (v := 3) hx hb dL_costOf_29 (by decide) ?_
          obtain ⟨k_4, hk_4⟩ := List.getElem?_of_mem (pw_row (ty := ty) (p := pp) (L := [(g0, .inl (ty 6, a1.toNatClampNeg, .inr (.inr (.inr (.inr gf)))))]) hmo_17)
          refine va_iald (D := D) hx hb hK hP k_4 0 hk_4 rfl (vp_in_iff.mpr (by decide)) dL_costOf_30 ?_
          refine lv_iload_n hx hb dL_costOf_31 rfl (lv_at hl 3 rfl) ?_
          refine lv_icmp_ne (tgt := 55) hx hb dL_costOf_32 (by decide) (fun c_5 => ?_) (fun c_5 => ?_)
          · rw [if_neg c_5] at hT
            exact J_55 () hT _ _ hP hD hS _ (lv_sub hl [0, 1, 2, 3, 5] rfl)
          · rw [if_pos c_5] at hT
            refine lv_aload_n hx hb dL_costOf_35 rfl (lv_at hl 0 rfl) ?_
            refine lv_iload hx hb dL_costOf_36 (lv_at hl 5 rfl) ?_
            refine wq_aldA (D := D) hx hb hK hP 0 6 rfl rfl (wi_inN hn_6 (Int32.lt_iff_toInt_lt.mp (Int32.not_le.mp c_1))) dL_costOf_38 ?_
            rw [ho_17]
            refine W.eq (g2 := F0 m 39 ls [.ref o_17, .int v4_6]) rfl ?_
            refine lv_iload_n hx hb dL_costOf_39 rfl (lv_at hl 2 rfl) ?_
            obtain ⟨t_40, ht_40⟩ : ∃ t, t = m_k_L_isHeld pp o_17 a2 := ⟨_, rfl⟩
            rw [lE_eq ht_40] at hT
            refine wq_iPW (wc := []) (pl := pw ty pp) (ux := []) (va_runS (As := [.ref o_17, .int a2]) (rest := [.int v4_6]) ⟨hx, hb, hml, hown, hts⟩ (k_L_isHeld l D ty td mi H.size pp o_17 a2 hok hmo_17 t_40 ht_40) (va_cwS 2 hts gv_k_L_costOf_0 rfl rfl rfl (by decide +kernel) ⟨(Nat.le_of_ble_eq_true rfl), (Nat.le_of_ble_eq_true rfl)⟩) (wm_preSP hP hD hK hE hS hA [] rfl) rfl rfl hl.1 rfl (lv_room (Nat.le_of_ble_eq_true rfl)) dL_costOf_40 ⟨(Nat.le_of_ble_eq_true rfl), (Nat.le_of_ble_eq_true rfl)⟩) hS hA hP hD [] rfl rfl (fun _ _ h => h.2.2) (fun r H locs hw hP hD hS => ?_)
            obtain ⟨hr0, c_8, -⟩ := hw
            subst r
            have hP : va_P D vwCl ((wW_k_L_costOf ty g0 a1.toNatClampNeg gf) ++ pw ty pp) H := hP
            have hD : va_D A ((wW_k_L_costOf ty g0 a1.toNatClampNeg gf) ++ pw ty pp) := hD
            refine W.widen (k := 0) (n := 0) (Nat.le_of_ble_eq_true rfl) (Nat.le_of_ble_eq_true rfl) ?_
            refine lv_if_eq (tgt := 55) hx hb dL_costOf_43 (by decide) (fun c_9 => ?_) (fun c_9 => ?_)
            · rw [if_pos c_9] at hT
              exact J_55 () hT _ _ hP hD hS _ (lv_sub hl [0, 1, 2, 3, 5] rfl)
            · rw [if_neg c_9] at hT
              refine lv_aload_n hx hb dL_costOf_46 rfl (lv_at hl 0 rfl) ?_
              refine lv_iload hx hb dL_costOf_47 (lv_at hl 5 rfl) ?_
              refine wq_aldA (D := D) hx hb hK hP 0 6 rfl rfl (wi_inN hn_6 (Int32.lt_iff_toInt_lt.mp (Int32.not_le.mp c_1))) dL_costOf_49 ?_
              rw [ho_17]
              refine W.eq (g2 := F0 m 50 ls [.ref o_17, .int v4_6]) rfl ?_
              refine lv_iconst (v := 2) hx hb dL_costOf_50 (by decide) ?_
              obtain ⟨k_10, hk_10⟩ := List.getElem?_of_mem (pw_row (ty := ty) (p := pp) (L := [(g0, .inl (ty 6, a1.toNatClampNeg, .inr (.inr (.inr (.inr gf)))))]) hmo_17)
              refine va_iald (D := D) hx hb hK hP k_10 0 hk_10 rfl (vp_in_iff.mpr (by decide)) dL_costOf_51 ?_
              refine lv_goto (tgt := 56) hx hb dL_costOf_52 (by decide) ?_
              exact J_56 ((pI pp o_17) (2 : Int32).toNatClampNeg) hT _ _ hP hD hS _ (lv_sub hl [0, 1, 2, 3, 5] rfl)
  exact L_6 wF 0 0 (wF_up 0) hT (by decide) _ _ hP hD hS _ (lv_sub hl [2, 3, 4, 5, 1, 0] rfl)
theorem dJ6_lowestOneBit_0f7a4_0 : decode cJ6_lowestOneBit_0f7a4 0 = .ok (.iload_n 0, 1) := by decide +kernel
theorem dJ6_lowestOneBit_0f7a4_1 : decode cJ6_lowestOneBit_0f7a4 1 = .ok (.iload_n 0, 1) := by decide +kernel
theorem dJ6_lowestOneBit_0f7a4_2 : decode cJ6_lowestOneBit_0f7a4 2 = .ok (.ineg, 1) := by decide +kernel
theorem dJ6_lowestOneBit_0f7a4_3 : decode cJ6_lowestOneBit_0f7a4 3 = .ok (.iand, 1) := by decide +kernel
theorem dJ6_lowestOneBit_0f7a4_4 : decode cJ6_lowestOneBit_0f7a4 4 = .ok (.ireturn, 1) := by decide +kernel
def vs_k_J6_lowestOneBit_0f7a4 : List Cond := .code yJ6_lowestOneBit_0f7a4 cJ6_lowestOneBit_0f7a4 1 (some .int) :: ([])
set_option maxHeartbeats 4000000 in
set_option maxRecDepth 100000 in
theorem k_J6_lowestOneBit_0f7a4 (l : Launch) (D : va_G) (ty : Nat → ClassId) (td mi sz : Nat) (a1 : Int32) (TT : r_k_J6_lowestOneBit_0f7a4) (hTT : TT = m_k_J6_lowestOneBit_0f7a4 a1) : Met l yJ6_lowestOneBit_0f7a4 vs_k_J6_lowestOneBit_0f7a4 { frames := 0, cells := 0, slots := 0, locals := 0 } (va_Pc [.int a1] (wq_P D ty td mi [] sz)) (va_Qi (fun (r : Int32) (u : va_W) => (r = TT ∧ (u = []))) (wq_B D (va_A [] sz)) (va_A [] sz)) 0 0 (va_A [] sz) := by
  refine Met.ofW (cc := cJ6_lowestOneBit_0f7a4) (maxL := 1) (ret := (some .int)) (by decide) rfl ?_
  intro p e s m args below meth c s₁ B hml hv
  obtain ⟨rfl, hsz, hP, hK, hD0, hE⟩ := hv
  have hx := B.exec
  have hb := B.bytes
  have hr := B.returns
  have hts := atoms_spec (ws := vs_k_J6_lowestOneBit_0f7a4) B.pre
  have hown : s.vm.findClass RJ6 = some m.cls := findClass_of_methodNamed B.named
  have hlocks := B.notSynchronized
  subst hsz
  have hD := hD0.self (sz := s.heap.size)
  generalize hAe : va_A [] s.heap.size = A at hD hE ⊢
  have hA : ∀ q : Nat, s.heap.size ≤ q → A q := fun q h => by rw [← hAe]; exact Or.inr h
  have hS : va_S A s.heap s.heap [] := va_S.rf
  have hP : va_P D vwCl [] s.heap := hP
  have hl := lv_entry ([.int a1]) (n := 1) (Nat.le_of_ble_eq_true rfl)
  rw [lg_entry_eq]
  generalize (lg_sl ([.int a1]) ++ List.replicate (1 - (lg_sl ([.int a1])).length) Slot.unset).toArray = ls at hl ⊢
  have hl : lv_has ls 1 [(0, .int a1)] := hl
  have END : ∀ (r : Int32), TT = r → ∀ (H : Heap) (locs : List Loc), va_P D vwCl [] H → va_D A [] → va_S A s.heap H locs → ∀ (ls : Array Slot) (pc : Nat), decode cJ6_lowestOneBit_0f7a4 pc = .ok (.ireturn, 1) → W p l e (headSpec vs_k_J6_lowestOneBit_0f7a4 { frames := 0, cells := 0, slots := 0, locals := 0 }).room s m ([.int a1] : List Value).toArray below meth c H locs 0 0 (MQ below (va_Qi (fun (r : Int32) (u : va_W) => (r = TT ∧ (u = []))) (wq_B D A) A) ([.int a1] : List Value).toArray s 0 0 A) (F0 m pc ls [.int r]) := by
    intro r hT H locs hP hD hS ls pc hd
    have hM : TT = r := hT
    exact W.iret (v := r) hx hb hr (fun t ht hW => ⟨⟨r, [], rfl, ⟨(by rw [hM]), rfl⟩, wq_B.of ht hP hD⟩, hS.F ht⟩) hS.2.2 hd
  have hT := hTT
  rw [m_k_J6_lowestOneBit_0f7a4] at hT
  refine lv_iload_n hx hb dJ6_lowestOneBit_0f7a4_0 rfl (lv_at hl 0 rfl) ?_
  refine lv_iload_n hx hb dJ6_lowestOneBit_0f7a4_1 rfl (lv_at hl 0 rfl) ?_
  refine lv_ineg hx hb dJ6_lowestOneBit_0f7a4_2 ?_
  refine lv_iand hx hb dJ6_lowestOneBit_0f7a4_3 ?_
  exact END (a1 &&& (-a1)) hT _ _ hP hD hS _ _ dJ6_lowestOneBit_0f7a4_4
theorem dL_isAhead_0 : decode cL_isAhead 0 = .ok (.iconst 3, 1) := by decide +kernel
theorem dL_isAhead_1 : decode cL_isAhead 1 = .ok (.istore 4, 2) := by decide +kernel
theorem dL_isAhead_3 : decode cL_isAhead 3 = .ok (.iload 4, 2) := by decide +kernel
theorem dL_isAhead_5 : decode cL_isAhead 5 = .ok (.ifCond .le 44, 3) := by decide +kernel
theorem dL_isAhead_8 : decode cL_isAhead 8 = .ok (.aload_n 0, 1) := by decide +kernel
theorem dL_isAhead_9 : decode cL_isAhead 9 = .ok (.iload_n 1, 1) := by decide +kernel
theorem dL_isAhead_10 : decode cL_isAhead 10 = .ok (.iload_n 2, 1) := by decide +kernel
theorem dL_isAhead_11 : decode cL_isAhead 11 = .ok (.iload 4, 2) := by decide +kernel
theorem dL_isAhead_13 : decode cL_isAhead 13 = .ok (.invokestatic 152, 3) := by decide +kernel
theorem dL_isAhead_16 : decode cL_isAhead 16 = .ok (.aload_n 0, 1) := by decide +kernel
theorem dL_isAhead_17 : decode cL_isAhead 17 = .ok (.iload_n 1, 1) := by decide +kernel
theorem dL_isAhead_18 : decode cL_isAhead 18 = .ok (.iload_n 3, 1) := by decide +kernel
theorem dL_isAhead_19 : decode cL_isAhead 19 = .ok (.iload 4, 2) := by decide +kernel
theorem dL_isAhead_21 : decode cL_isAhead 21 = .ok (.invokestatic 152, 3) := by decide +kernel
theorem dL_isAhead_24 : decode cL_isAhead 24 = .ok (.isub, 1) := by decide +kernel
theorem dL_isAhead_25 : decode cL_isAhead 25 = .ok (.istore 5, 2) := by decide +kernel
theorem dL_isAhead_27 : decode cL_isAhead 27 = .ok (.iload 5, 2) := by decide +kernel
theorem dL_isAhead_29 : decode cL_isAhead 29 = .ok (.ifCond .eq 14, 3) := by decide +kernel
theorem dL_isAhead_32 : decode cL_isAhead 32 = .ok (.iload 5, 2) := by decide +kernel
theorem dL_isAhead_34 : decode cL_isAhead 34 = .ok (.ifCond .ge 7, 3) := by decide +kernel
theorem dL_isAhead_37 : decode cL_isAhead 37 = .ok (.iconst 1, 1) := by decide +kernel
theorem dL_isAhead_38 : decode cL_isAhead 38 = .ok (.goto 4, 3) := by decide +kernel
theorem dL_isAhead_41 : decode cL_isAhead 41 = .ok (.iconst 0, 1) := by decide +kernel
theorem dL_isAhead_42 : decode cL_isAhead 42 = .ok (.ireturn, 1) := by decide +kernel
theorem dL_isAhead_43 : decode cL_isAhead 43 = .ok (.iinc 4 (-1), 3) := by decide +kernel
theorem dL_isAhead_46 : decode cL_isAhead 46 = .ok (.goto (-43), 3) := by decide +kernel
theorem dL_isAhead_49 : decode cL_isAhead 49 = .ok (.iload_n 2, 1) := by decide +kernel
theorem dL_isAhead_50 : decode cL_isAhead 50 = .ok (.iload_n 2, 1) := by decide +kernel
theorem dL_isAhead_51 : decode cL_isAhead 51 = .ok (.iload_n 3, 1) := by decide +kernel
theorem dL_isAhead_52 : decode cL_isAhead 52 = .ok (.ixor, 1) := by decide +kernel
theorem dL_isAhead_53 : decode cL_isAhead 53 = .ok (.invokestatic 156, 3) := by decide +kernel
theorem dL_isAhead_56 : decode cL_isAhead 56 = .ok (.iand, 1) := by decide +kernel
theorem dL_isAhead_57 : decode cL_isAhead 57 = .ok (.ifCond .eq 7, 3) := by decide +kernel
theorem dL_isAhead_60 : decode cL_isAhead 60 = .ok (.iconst 1, 1) := by decide +kernel
theorem dL_isAhead_61 : decode cL_isAhead 61 = .ok (.goto 4, 3) := by decide +kernel
theorem dL_isAhead_64 : decode cL_isAhead 64 = .ok (.iconst 0, 1) := by decide +kernel
theorem dL_isAhead_65 : decode cL_isAhead 65 = .ok (.ireturn, 1) := by decide +kernel
def wW_k_L_isAhead (ty : Nat → ClassId) (g0 : Nat) (z9_0 : Nat) (z9_1 : Nat → Option Nat) : va_W := [(g0, .inl (ty 6, z9_0, .inr (.inr (.inr (.inr z9_1)))))]
def vs_k_L_isAhead : List Cond := .code yL_isAhead cL_isAhead 6 (some .boolean) :: ([.methodLink RL 156 yJ6_lowestOneBit_0f7a4, .static yJ6_lowestOneBit_0f7a4, .initialized RJ6, .methodLink RL 152 yL_costOf, .static yL_costOf, .initialized RL] ++ (vs_k_J6_lowestOneBit_0f7a4 ++ (vs_k_L_costOf)))
set_option maxRecDepth 20000 in
theorem gv_k_L_isAhead_0 : GoodIn vs_k_L_isAhead (va_wsS RL 156 yJ6_lowestOneBit_0f7a4 vs_k_J6_lowestOneBit_0f7a4) := goodIn_app (goodIn_sub (by decide +kernel) (by decide +kernel)) (goodIn_sub (fun _ h => List.mem_cons_of_mem _ (List.mem_append_right _ (List.mem_append_left _ h))) (by decide +kernel))
set_option maxRecDepth 20000 in
theorem gv_k_L_isAhead_1 : GoodIn vs_k_L_isAhead (va_wsS RL 152 yL_costOf vs_k_L_costOf) := goodIn_app (goodIn_sub (by decide +kernel) (by decide +kernel)) (goodIn_sub (fun _ h => List.mem_cons_of_mem _ (List.mem_append_right _ (List.mem_append_right _ (h)))) (by decide +kernel))
set_option maxRecDepth 20000 in
theorem gv_k_L_isAhead_2 : GoodIn vs_k_L_isAhead (va_wsS RL 152 yL_costOf vs_k_L_costOf) := goodIn_app (goodIn_sub (by decide +kernel) (by decide +kernel)) (goodIn_sub (fun _ h => List.mem_cons_of_mem _ (List.mem_append_right _ (List.mem_append_right _ (h)))) (by decide +kernel))
set_option maxHeartbeats 4000000 in
set_option maxRecDepth 100000 in
theorem k_L_isAhead (l : Launch) (D : va_G) (ty : Nat → ClassId) (td mi sz : Nat) (pp : pT) (g0 : Nat) (gf : Nat → Option Nat) (a1 : Int32) (a2 : Int32) (a3 : Int32) (hok : pOK pp) (hrr : ∀ i : Int32, 0 ≤ i.toInt → i.toInt < a1.toInt → ∃ a, gf i.toNatClampNeg = some a ∧ a ∈ pZA pp) (TT : r_k_L_isAhead) (hTT : TT = m_k_L_isAhead pp gf a1 a2 a3) : Met l yL_isAhead vs_k_L_isAhead { frames := 2, cells := 0, slots := 0, locals := 47 } (va_Pc [.ref g0, .int a1, .int a2, .int a3] (wq_P D ty td mi ((wW_k_L_isAhead ty g0 a1.toNatClampNeg gf) ++ pw ty pp) sz)) (va_Qi (fun (r : Int32) (u : va_W) => (r = TT ∧ (TT = 0 ∨ TT = 1) ∧ (u = ((wW_k_L_isAhead ty g0 a1.toNatClampNeg gf) ++ pw ty pp)))) (wq_B D (va_A ((wW_k_L_isAhead ty g0 a1.toNatClampNeg gf) ++ pw ty pp) sz)) (va_A ((wW_k_L_isAhead ty g0 a1.toNatClampNeg gf) ++ pw ty pp) sz)) 0 0 (va_A ((wW_k_L_isAhead ty g0 a1.toNatClampNeg gf) ++ pw ty pp) sz) := by
  refine Met.ofW (cc := cL_isAhead) (maxL := 6) (ret := (some .boolean)) (by decide) rfl ?_
  intro p e s m args below meth c s₁ B hml hv
  obtain ⟨rfl, hsz, hP, hK, hD0, hE⟩ := hv
  have hx := B.exec
  have hb := B.bytes
  have hr := B.returns
  have hts := atoms_spec (ws := vs_k_L_isAhead) B.pre
  have hown : s.vm.findClass RL = some m.cls := findClass_of_methodNamed B.named
  have hlocks := B.notSynchronized
  subst hsz
  have hD := hD0.self (sz := s.heap.size)
  generalize hAe : va_A ((wW_k_L_isAhead ty g0 a1.toNatClampNeg gf) ++ pw ty pp) s.heap.size = A at hD hE ⊢
  have hA : ∀ q : Nat, s.heap.size ≤ q → A q := fun q h => by rw [← hAe]; exact Or.inr h
  have hS : va_S A s.heap s.heap [] := va_S.rf
  have hP : va_P D vwCl ((wW_k_L_isAhead ty g0 a1.toNatClampNeg gf) ++ pw ty pp) s.heap := hP
  have hl := lv_entry ([.ref g0, .int a1, .int a2, .int a3]) (n := 6) (Nat.le_of_ble_eq_true rfl)
  rw [lg_entry_eq]
  generalize (lg_sl ([.ref g0, .int a1, .int a2, .int a3]) ++ List.replicate (6 - (lg_sl ([.ref g0, .int a1, .int a2, .int a3])).length) Slot.unset).toArray = ls at hl ⊢
  have hl : lv_has ls 6 [(0, .ref g0), (1, .int a1), (2, .int a2), (3, .int a3)] := hl
  have END : ∀ (r : Int32), TT = r → (r = 0 ∨ r = 1) → ∀ (H : Heap) (locs : List Loc), va_P D vwCl ((wW_k_L_isAhead ty g0 a1.toNatClampNeg gf) ++ pw ty pp) H → va_D A ((wW_k_L_isAhead ty g0 a1.toNatClampNeg gf) ++ pw ty pp) → va_S A s.heap H locs → ∀ (ls : Array Slot) (pc : Nat), decode cL_isAhead pc = .ok (.ireturn, 1) → W p l e (headSpec vs_k_L_isAhead { frames := 2, cells := 0, slots := 0, locals := 47 }).room s m ([.ref g0, .int a1, .int a2, .int a3] : List Value).toArray below meth c H locs 0 0 (MQ below (va_Qi (fun (r : Int32) (u : va_W) => (r = TT ∧ (TT = 0 ∨ TT = 1) ∧ (u = ((wW_k_L_isAhead ty g0 a1.toNatClampNeg gf) ++ pw ty pp)))) (wq_B D A) A) ([.ref g0, .int a1, .int a2, .int a3] : List Value).toArray s 0 0 A) (F0 m pc ls [.int r]) := by
    intro r hT hb01 H locs hP hD hS ls pc hd
    have hM : TT = r := hT
    exact W.zret (v := r) hx hb hr (wz_nar hb01) (fun t ht hW => ⟨⟨r, ((wW_k_L_isAhead ty g0 a1.toNatClampNeg gf) ++ pw ty pp), rfl, ⟨(by rw [hM]), (by rw [hM]; exact hb01), rfl⟩, wq_B.of ht hP hD⟩, hS.F ht⟩) hS.2.2 hd
  have hT := hTT
  rw [m_k_L_isAhead] at hT
  refine lv_iconst (v := 3) hx hb dL_isAhead_0 (by decide) ?_
  refine lv_istore (lv' := [(4, .int 3), (0, .ref g0), (1, .int a1), (2, .int a2), (3, .int a3)]) hx hb dL_isAhead_1 hl (by decide) rfl (fun ls hl => ?_)
  have L_3 : ∀ (n_3 : Nat) (v4_3 : Int32), (v4_3.toInt + 2147483648).toNat < n_3 → TT = m_k_L_isAhead_3 pp gf a1 a2 a3 n_3 v4_3 → ∀ (H : Heap) (locs : List Loc), va_P D vwCl ((wW_k_L_isAhead ty g0 a1.toNatClampNeg gf) ++ pw ty pp) H → va_D A ((wW_k_L_isAhead ty g0 a1.toNatClampNeg gf) ++ pw ty pp) → va_S A s.heap H locs → ∀ ls : Array Slot, lv_has ls 6 [(0, .ref g0), (1, .int a1), (2, .int a2), (3, .int a3), (4, .int v4_3)] → W p l e (headSpec vs_k_L_isAhead { frames := 2, cells := 0, slots := 0, locals := 47 }).room s m ([.ref g0, .int a1, .int a2, .int a3] : List Value).toArray below meth c H locs 0 0 (MQ below (va_Qi (fun (r : Int32) (u : va_W) => (r = TT ∧ (TT = 0 ∨ TT = 1) ∧ (u = ((wW_k_L_isAhead ty g0 a1.toNatClampNeg gf) ++ pw ty pp)))) (wq_B D A) A) ([.ref g0, .int a1, .int a2, .int a3] : List Value).toArray s 0 0 A) (F0 m 3 ls []) := by
    intro n_3
    induction n_3 with
    | zero => intro v4_3 hu; exact absurd hu (Nat.not_lt_zero _)
    | succ n_3 ih_3 =>
      intro v4_3 hu_3 hT  H locs hP hD hS ls hl
      rw [m_k_L_isAhead_3_succ, m_k_L_isAhead_3s] at hT
      refine lv_iload hx hb dL_isAhead_3 (lv_at hl 4 rfl) ?_
      refine lv_if_le (tgt := 49) hx hb dL_isAhead_5 (by decide) (fun c_1 => ?_) (fun c_1 => ?_)
      · rw [if_pos c_1] at hT
        refine lv_iload_n hx hb dL_isAhead_49 rfl (lv_at hl 2 rfl) ?_
        refine lv_iload_n hx hb dL_isAhead_50 rfl (lv_at hl 2 rfl) ?_
        refine lv_iload_n hx hb dL_isAhead_51 rfl (lv_at hl 3 rfl) ?_
        refine lv_ixor hx hb dL_isAhead_52 ?_
        obtain ⟨t_53, ht_53⟩ : ∃ t, t = m_k_J6_lowestOneBit_0f7a4 (a2 ^^^ a3) := ⟨_, rfl⟩
        rw [lE_eq ht_53] at hT
        refine wq_iQW (wc := []) (pl := pw ty pp) (va_runS (As := [.int (a2 ^^^ a3)]) (rest := [.int a2]) ⟨hx, hb, hml, hown, hts⟩ (k_J6_lowestOneBit_0f7a4 l D ty td mi H.size (a2 ^^^ a3) t_53 ht_53) (va_cwS 1 hts gv_k_L_isAhead_0 rfl rfl rfl (by decide +kernel) ⟨(Nat.le_of_ble_eq_true rfl), (Nat.le_of_ble_eq_true rfl)⟩) (wm_preS (vP_left hP) (vD_left hD) hK hE hS hA [] rfl) rfl rfl hl.1 rfl (lv_room (Nat.le_of_ble_eq_true rfl)) dL_isAhead_53 ⟨(Nat.le_of_ble_eq_true rfl), (Nat.le_of_ble_eq_true rfl)⟩) hS hA hP hD [] rfl (fun _ _ h => by rcases h with ⟨-, rfl⟩; rfl) (fun r u H locs hw hP hD hS => ?_)
        obtain ⟨hr0, rfl⟩ := hw
        subst r
        have hP : va_P D vwCl ((wW_k_L_isAhead ty g0 a1.toNatClampNeg gf) ++ pw ty pp) H := hP
        have hD : va_D A ((wW_k_L_isAhead ty g0 a1.toNatClampNeg gf) ++ pw ty pp) := hD
        refine W.widen (k := 0) (n := 0) (Nat.le_of_ble_eq_true rfl) (Nat.le_of_ble_eq_true rfl) ?_
        refine lv_iand hx hb dL_isAhead_56 ?_
        refine lv_if_eq (tgt := 64) hx hb dL_isAhead_57 (by decide) (fun c_4 => ?_) (fun c_4 => ?_)
        · rw [if_pos c_4] at hT
          refine lv_iconst (v := 0) hx hb dL_isAhead_64 (by decide) ?_
          exact END 0 hT (by decide) _ _ hP hD hS _ _ dL_isAhead_65
        · rw [if_neg c_4] at hT
          refine lv_iconst (v := 1) hx hb dL_isAhead_60 (by decide) ?_
          refine lv_goto (tgt := 65) hx hb dL_isAhead_61 (by decide) ?_
          exact END 1 hT (by decide) _ _ hP hD hS _ _ dL_isAhead_65
      · rw [if_neg c_1] at hT
        refine lv_aload_n hx hb dL_isAhead_8 rfl (lv_at hl 0 rfl) ?_
        refine lv_iload_n hx hb dL_isAhead_9 rfl (lv_at hl 1 rfl) ?_
        refine lv_iload_n hx hb dL_isAhead_10 rfl (lv_at hl 2 rfl) ?_
        refine lv_iload hx hb dL_isAhead_11 (lv_at hl 4 rfl) ?_
        obtain ⟨t_13, ht_13⟩ : ∃ t, t = m_k_L_costOf pp gf a1 a2 v4_3 := ⟨_, rfl⟩
        rw [lE_eq ht_13] at hT
        refine wq_iPW (wc := (wW_k_L_costOf ty g0 a1.toNatClampNeg gf)) (pl := pw ty pp) (ux := (wW_k_L_costOf ty g0 a1.toNatClampNeg gf)) (va_runS (As := [.ref g0, .int a1, .int a2, .int v4_3]) (rest := []) ⟨hx, hb, hml, hown, hts⟩ (k_L_costOf l D ty td mi H.size pp g0 gf a1 a2 v4_3 hok hrr t_13 ht_13) (va_cwS 4 hts gv_k_L_isAhead_1 rfl rfl rfl (by decide +kernel) ⟨(Nat.le_of_ble_eq_true rfl), (Nat.le_of_ble_eq_true rfl)⟩) (wm_preSP hP hD hK hE hS hA [true] rfl) rfl rfl hl.1 rfl (lv_room (Nat.le_of_ble_eq_true rfl)) dL_isAhead_13 ⟨(Nat.le_of_ble_eq_true rfl), (Nat.le_of_ble_eq_true rfl)⟩) hS hA hP hD [true] rfl rfl (fun _ _ h => h.2) (fun r H locs hw hP hD hS => ?_)
        obtain ⟨hr0, -⟩ := hw
        subst r
        have hP : va_P D vwCl ((wW_k_L_isAhead ty g0 a1.toNatClampNeg gf) ++ pw ty pp) H := hP
        have hD : va_D A ((wW_k_L_isAhead ty g0 a1.toNatClampNeg gf) ++ pw ty pp) := hD
        refine W.widen (k := 0) (n := 0) (Nat.le_of_ble_eq_true rfl) (Nat.le_of_ble_eq_true rfl) ?_
        refine lv_aload_n hx hb dL_isAhead_16 rfl (lv_at hl 0 rfl) ?_
        refine lv_iload_n hx hb dL_isAhead_17 rfl (lv_at hl 1 rfl) ?_
        refine lv_iload_n hx hb dL_isAhead_18 rfl (lv_at hl 3 rfl) ?_
        refine lv_iload hx hb dL_isAhead_19 (lv_at hl 4 rfl) ?_
        obtain ⟨t_21, ht_21⟩ : ∃ t, t = m_k_L_costOf pp gf a1 a3 v4_3 := ⟨_, rfl⟩
        rw [lE_eq ht_21] at hT
        refine wq_iPW (wc := (wW_k_L_costOf ty g0 a1.toNatClampNeg gf)) (pl := pw ty pp) (ux := (wW_k_L_costOf ty g0 a1.toNatClampNeg gf)) (va_runS (As := [.ref g0, .int a1, .int a3, .int v4_3]) (rest := [.int t_13]) ⟨hx, hb, hml, hown, hts⟩ (k_L_costOf l D ty td mi H.size pp g0 gf a1 a3 v4_3 hok hrr t_21 ht_21) (va_cwS 4 hts gv_k_L_isAhead_2 rfl rfl rfl (by decide +kernel) ⟨(Nat.le_of_ble_eq_true rfl), (Nat.le_of_ble_eq_true rfl)⟩) (wm_preSP hP hD hK hE hS hA [true] rfl) rfl rfl hl.1 rfl (lv_room (Nat.le_of_ble_eq_true rfl)) dL_isAhead_21 ⟨(Nat.le_of_ble_eq_true rfl), (Nat.le_of_ble_eq_true rfl)⟩) hS hA hP hD [true] rfl rfl (fun _ _ h => h.2) (fun r H locs hw hP hD hS => ?_)
        obtain ⟨hr0, -⟩ := hw
        subst r
        have hP : va_P D vwCl ((wW_k_L_isAhead ty g0 a1.toNatClampNeg gf) ++ pw ty pp) H := hP
        have hD : va_D A ((wW_k_L_isAhead ty g0 a1.toNatClampNeg gf) ++ pw ty pp) := hD
        refine W.widen (k := 0) (n := 0) (Nat.le_of_ble_eq_true rfl) (Nat.le_of_ble_eq_true rfl) ?_
        refine lv_isub hx hb dL_isAhead_24 ?_
        refine lv_istore (lv' := [(5, .int (t_13 - t_21)), (0, .ref g0), (1, .int a1), (2, .int a2), (3, .int a3), (4, .int v4_3)]) hx hb dL_isAhead_25 hl (by decide) rfl (fun ls hl => ?_)
        refine lv_iload hx hb dL_isAhead_27 (lv_at hl 0 rfl) ?_
        refine lv_if_eq (tgt := 43) hx hb dL_isAhead_29 (by decide) (fun c_9 => ?_) (fun c_9 => ?_)
        · rw [if_pos c_9] at hT
          refine lv_iinc (v := v4_3 + (-1)) (lv' := [(4, .int (v4_3 + (-1))), (5, .int (t_13 - t_21)), (0, .ref g0), (1, .int a1), (2, .int a2), (3, .int a3)]) hx hb dL_isAhead_43 hl (k := 5) rfl (by rfl) (by decide) rfl (fun ls hl => ?_)
          refine lv_goto (tgt := 3) hx hb dL_isAhead_46 (by decide) ?_
          exact ih_3 (v4_3 + (-1)) (wi_dn hu_3 (wi_pos (Int32.not_le.mp c_1))) hT _ _ hP hD hS _ (lv_sub hl [2, 3, 4, 5, 0] rfl)
        · rw [if_neg c_9] at hT
          refine lv_iload hx hb dL_isAhead_32 (lv_at hl 0 rfl) ?_
          refine lv_if_ge (tgt := 41) hx hb dL_isAhead_34 (by decide) (fun c_10 => ?_) (fun c_10 => ?_)
          · rw [if_pos c_10] at hT
            refine lv_iconst (v := 0) hx hb dL_isAhead_41 (by decide) ?_
            exact END 0 hT (by decide) _ _ hP hD hS _ _ dL_isAhead_42
          · rw [if_neg c_10] at hT
            refine lv_iconst (v := 1) hx hb dL_isAhead_37 (by decide) ?_
            refine lv_goto (tgt := 42) hx hb dL_isAhead_38 (by decide) ?_
            exact END 1 hT (by decide) _ _ hP hD hS _ _ dL_isAhead_42
  exact L_3 wF 3 (wF_dn 3) hT _ _ hP hD hS _ (lv_sub hl [1, 2, 3, 4, 0] rfl)
theorem dL_isReason_0 : decode cL_isReason 0 = .ok (.iconst 0, 1) := by decide +kernel
theorem dL_isReason_1 : decode cL_isReason 1 = .ok (.istore 6, 2) := by decide +kernel
theorem dL_isReason_3 : decode cL_isReason 3 = .ok (.iload 6, 2) := by decide +kernel
theorem dL_isReason_5 : decode cL_isReason 5 = .ok (.iload_n 1, 1) := by decide +kernel
theorem dL_isReason_6 : decode cL_isReason 6 = .ok (.if_icmp .ge 97, 3) := by decide +kernel
theorem dL_isReason_9 : decode cL_isReason 9 = .ok (.aload_n 0, 1) := by decide +kernel
theorem dL_isReason_10 : decode cL_isReason 10 = .ok (.iload 6, 2) := by decide +kernel
theorem dL_isReason_12 : decode cL_isReason 12 = .ok (.aaload, 1) := by decide +kernel
theorem dL_isReason_13 : decode cL_isReason 13 = .ok (.iconst 1, 1) := by decide +kernel
theorem dL_isReason_14 : decode cL_isReason 14 = .ok (.iaload, 1) := by decide +kernel
theorem dL_isReason_15 : decode cL_isReason 15 = .ok (.iload_n 3, 1) := by decide +kernel
theorem dL_isReason_16 : decode cL_isReason 16 = .ok (.iand, 1) := by decide +kernel
theorem dL_isReason_17 : decode cL_isReason 17 = .ok (.istore 7, 2) := by decide +kernel
theorem dL_isReason_19 : decode cL_isReason 19 = .ok (.aload_n 0, 1) := by decide +kernel
theorem dL_isReason_20 : decode cL_isReason 20 = .ok (.iload 6, 2) := by decide +kernel
theorem dL_isReason_22 : decode cL_isReason 22 = .ok (.aaload, 1) := by decide +kernel
theorem dL_isReason_23 : decode cL_isReason 23 = .ok (.iconst 0, 1) := by decide +kernel
theorem dL_isReason_24 : decode cL_isReason 24 = .ok (.iaload, 1) := by decide +kernel
theorem dL_isReason_25 : decode cL_isReason 25 = .ok (.bipush 119, 2) := by decide +kernel
theorem dL_isReason_27 : decode cL_isReason 27 = .ok (.if_icmp .eq 49, 3) := by decide +kernel
theorem dL_isReason_30 : decode cL_isReason 30 = .ok (.aload_n 0, 1) := by decide +kernel
theorem dL_isReason_31 : decode cL_isReason 31 = .ok (.iload 6, 2) := by decide +kernel
theorem dL_isReason_33 : decode cL_isReason 33 = .ok (.aaload, 1) := by decide +kernel
theorem dL_isReason_34 : decode cL_isReason 34 = .ok (.iload_n 3, 1) := by decide +kernel
theorem dL_isReason_35 : decode cL_isReason 35 = .ok (.invokestatic 140, 3) := by decide +kernel
theorem dL_isReason_38 : decode cL_isReason 38 = .ok (.ifCond .eq 38, 3) := by decide +kernel
theorem dL_isReason_41 : decode cL_isReason 41 = .ok (.iload 7, 2) := by decide +kernel
theorem dL_isReason_43 : decode cL_isReason 43 = .ok (.iload 4, 2) := by decide +kernel
theorem dL_isReason_45 : decode cL_isReason 45 = .ok (.ishr, 1) := by decide +kernel
theorem dL_isReason_46 : decode cL_isReason 46 = .ok (.iconst 1, 1) := by decide +kernel
theorem dL_isReason_47 : decode cL_isReason 47 = .ok (.iand, 1) := by decide +kernel
theorem dL_isReason_48 : decode cL_isReason 48 = .ok (.iconst 1, 1) := by decide +kernel
theorem dL_isReason_49 : decode cL_isReason 49 = .ok (.if_icmp .ne 27, 3) := by decide +kernel
theorem dL_isReason_52 : decode cL_isReason 52 = .ok (.aload_n 0, 1) := by decide +kernel
theorem dL_isReason_53 : decode cL_isReason 53 = .ok (.iload 6, 2) := by decide +kernel
theorem dL_isReason_55 : decode cL_isReason 55 = .ok (.aaload, 1) := by decide +kernel
theorem dL_isReason_56 : decode cL_isReason 56 = .ok (.iconst 0, 1) := by decide +kernel
theorem dL_isReason_57 : decode cL_isReason 57 = .ok (.iaload, 1) := by decide +kernel
theorem dL_isReason_58 : decode cL_isReason 58 = .ok (.bipush 99, 2) := by decide +kernel
theorem dL_isReason_60 : decode cL_isReason 60 = .ok (.if_icmp .eq 12, 3) := by decide +kernel
theorem dL_isReason_63 : decode cL_isReason 63 = .ok (.iload 7, 2) := by decide +kernel
theorem dL_isReason_65 : decode cL_isReason 65 = .ok (.iconst 1, 1) := by decide +kernel
theorem dL_isReason_66 : decode cL_isReason 66 = .ok (.iload 4, 2) := by decide +kernel
theorem dL_isReason_68 : decode cL_isReason 68 = .ok (.ishl, 1) := by decide +kernel
theorem dL_isReason_69 : decode cL_isReason 69 = .ok (.if_icmp .ne 7, 3) := by decide +kernel
theorem dL_isReason_72 : decode cL_isReason 72 = .ok (.iconst 1, 1) := by decide +kernel
theorem dL_isReason_73 : decode cL_isReason 73 = .ok (.goto 4, 3) := by decide +kernel
theorem dL_isReason_76 : decode cL_isReason 76 = .ok (.iconst 0, 1) := by decide +kernel
theorem dL_isReason_77 : decode cL_isReason 77 = .ok (.istore 8, 2) := by decide +kernel
theorem dL_isReason_79 : decode cL_isReason 79 = .ok (.iload 8, 2) := by decide +kernel
theorem dL_isReason_81 : decode cL_isReason 81 = .ok (.ifCond .eq 16, 3) := by decide +kernel
theorem dL_isReason_84 : decode cL_isReason 84 = .ok (.iload 5, 2) := by decide +kernel
theorem dL_isReason_86 : decode cL_isReason 86 = .ok (.iload 6, 2) := by decide +kernel
theorem dL_isReason_88 : decode cL_isReason 88 = .ok (.if_icmp .ne 7, 3) := by decide +kernel
theorem dL_isReason_91 : decode cL_isReason 91 = .ok (.iconst 1, 1) := by decide +kernel
theorem dL_isReason_92 : decode cL_isReason 92 = .ok (.goto 4, 3) := by decide +kernel
theorem dL_isReason_95 : decode cL_isReason 95 = .ok (.iconst 0, 1) := by decide +kernel
theorem dL_isReason_96 : decode cL_isReason 96 = .ok (.ireturn, 1) := by decide +kernel
theorem dL_isReason_97 : decode cL_isReason 97 = .ok (.iinc 6 1, 3) := by decide +kernel
theorem dL_isReason_100 : decode cL_isReason 100 = .ok (.goto (-97), 3) := by decide +kernel
theorem dL_isReason_103 : decode cL_isReason 103 = .ok (.iload 5, 2) := by decide +kernel
theorem dL_isReason_105 : decode cL_isReason 105 = .ok (.bipush 100, 2) := by decide +kernel
theorem dL_isReason_107 : decode cL_isReason 107 = .ok (.if_icmp .lt 19, 3) := by decide +kernel
theorem dL_isReason_110 : decode cL_isReason 110 = .ok (.aload_n 2, 1) := by decide +kernel
theorem dL_isReason_111 : decode cL_isReason 111 = .ok (.iload 5, 2) := by decide +kernel
theorem dL_isReason_113 : decode cL_isReason 113 = .ok (.bipush 100, 2) := by decide +kernel
theorem dL_isReason_115 : decode cL_isReason 115 = .ok (.isub, 1) := by decide +kernel
theorem dL_isReason_116 : decode cL_isReason 116 = .ok (.iaload, 1) := by decide +kernel
theorem dL_isReason_117 : decode cL_isReason 117 = .ok (.iload 4, 2) := by decide +kernel
theorem dL_isReason_119 : decode cL_isReason 119 = .ok (.if_icmp .ne 7, 3) := by decide +kernel
theorem dL_isReason_122 : decode cL_isReason 122 = .ok (.iconst 1, 1) := by decide +kernel
theorem dL_isReason_123 : decode cL_isReason 123 = .ok (.goto 4, 3) := by decide +kernel
theorem dL_isReason_126 : decode cL_isReason 126 = .ok (.iconst 0, 1) := by decide +kernel
theorem dL_isReason_127 : decode cL_isReason 127 = .ok (.ireturn, 1) := by decide +kernel
def wW_k_L_isReason (ty : Nat → ClassId) (g0 : Nat) (e0 : Nat) (z9_0 : Nat) (z9_1 : Nat → Option Nat) (z9_2 : Nat → Int32) : va_W := [(g0, .inl (ty 6, z9_0, .inr (.inr (.inr (.inr z9_1))))), (e0, .inl (ty 0, 6, .inl z9_2))]
def vs_k_L_isReason : List Cond := .code yL_isReason cL_isReason 9 (some .boolean) :: ([.methodLink RL 140 yL_isHeld, .static yL_isHeld, .initialized RL] ++ (vs_k_L_isHeld))
set_option maxRecDepth 20000 in
theorem gv_k_L_isReason_0 : GoodIn vs_k_L_isReason (va_wsS RL 140 yL_isHeld vs_k_L_isHeld) := goodIn_app (goodIn_sub (by decide +kernel) (by decide +kernel)) (goodIn_sub (fun _ h => List.mem_cons_of_mem _ (List.mem_append_right _ (h))) (by decide +kernel))
theorem om_k_L_isReason_0 (a4 : Int32) (v6_3 : Int32) (a1 : Int32) (h106 : a4.toInt < 106) (hn_3 : 0 ≤ v6_3.toInt) (c_1 : a1 ≤ v6_3) (c_2 : ¬ (a4 < 100)) : vp_in (a4 - 100) 6 := by
  have f_0 := h106
  have f_1 := hn_3
  have f_2 := Int32.le_iff_toInt_le.mp (c_1)
  have f_3 := Int32.le_iff_toInt_le.mp (Int32.not_lt.mp c_2)
  have nl_100 : (100 : Int32).toInt = 100 := rfl
  have r_a4 := wi_rng a4
  have q_1 : (a4 - 100).toInt = (a4 : Int32).toInt - (100 : Int32).toInt := wi_sub (by omega) (by omega)
  exact wi_in (by omega) (by omega)
set_option maxHeartbeats 4000000 in
set_option maxRecDepth 100000 in
theorem k_L_isReason (l : Launch) (D : va_G) (ty : Nat → ClassId) (td mi sz : Nat) (pp : pT) (g0 : Nat) (gf : Nat → Option Nat) (e0 : Nat) (ef : Nat → Int32) (a1 : Int32) (a2 : Int32) (a3 : Int32) (a4 : Int32) (hok : pOK pp) (hrr : ∀ i : Int32, 0 ≤ i.toInt → i.toInt < a1.toInt → ∃ a, gf i.toNatClampNeg = some a ∧ a ∈ pZA pp) (h106 : a4.toInt < 106) (TT : r_k_L_isReason) (hTT : TT = m_k_L_isReason pp gf ef a1 a2 a3 a4) : Met l yL_isReason vs_k_L_isReason { frames := 1, cells := 0, slots := 0, locals := 22 } (va_Pc [.ref g0, .int a1, .ref e0, .int a2, .int a3, .int a4] (wq_P D ty td mi ((wW_k_L_isReason ty g0 e0 a1.toNatClampNeg gf ef) ++ pw ty pp) sz)) (va_Qi (fun (r : Int32) (u : va_W) => (r = TT ∧ (TT = 0 ∨ TT = 1) ∧ (u = ((wW_k_L_isReason ty g0 e0 a1.toNatClampNeg gf ef) ++ pw ty pp)))) (wq_B D (va_A ((wW_k_L_isReason ty g0 e0 a1.toNatClampNeg gf ef) ++ pw ty pp) sz)) (va_A ((wW_k_L_isReason ty g0 e0 a1.toNatClampNeg gf ef) ++ pw ty pp) sz)) 0 0 (va_A ((wW_k_L_isReason ty g0 e0 a1.toNatClampNeg gf ef) ++ pw ty pp) sz) := by
  refine Met.ofW (cc := cL_isReason) (maxL := 9) (ret := (some .boolean)) (by decide) rfl ?_
  intro p e s m args below meth c s₁ B hml hv
  obtain ⟨rfl, hsz, hP, hK, hD0, hE⟩ := hv
  have hx := B.exec
  have hb := B.bytes
  have hr := B.returns
  have hts := atoms_spec (ws := vs_k_L_isReason) B.pre
  have hown : s.vm.findClass RL = some m.cls := findClass_of_methodNamed B.named
  have hlocks := B.notSynchronized
  subst hsz
  have hD := hD0.self (sz := s.heap.size)
  generalize hAe : va_A ((wW_k_L_isReason ty g0 e0 a1.toNatClampNeg gf ef) ++ pw ty pp) s.heap.size = A at hD hE ⊢
  have hA : ∀ q : Nat, s.heap.size ≤ q → A q := fun q h => by rw [← hAe]; exact Or.inr h
  have hS : va_S A s.heap s.heap [] := va_S.rf
  have hP : va_P D vwCl ((wW_k_L_isReason ty g0 e0 a1.toNatClampNeg gf ef) ++ pw ty pp) s.heap := hP
  have hl := lv_entry ([.ref g0, .int a1, .ref e0, .int a2, .int a3, .int a4]) (n := 9) (Nat.le_of_ble_eq_true rfl)
  rw [lg_entry_eq]
  generalize (lg_sl ([.ref g0, .int a1, .ref e0, .int a2, .int a3, .int a4]) ++ List.replicate (9 - (lg_sl ([.ref g0, .int a1, .ref e0, .int a2, .int a3, .int a4])).length) Slot.unset).toArray = ls at hl ⊢
  have hl : lv_has ls 9 [(0, .ref g0), (1, .int a1), (2, .ref e0), (3, .int a2), (4, .int a3), (5, .int a4)] := hl
  have END : ∀ (r : Int32), TT = r → (r = 0 ∨ r = 1) → ∀ (H : Heap) (locs : List Loc), va_P D vwCl ((wW_k_L_isReason ty g0 e0 a1.toNatClampNeg gf ef) ++ pw ty pp) H → va_D A ((wW_k_L_isReason ty g0 e0 a1.toNatClampNeg gf ef) ++ pw ty pp) → va_S A s.heap H locs → ∀ (ls : Array Slot) (pc : Nat), decode cL_isReason pc = .ok (.ireturn, 1) → W p l e (headSpec vs_k_L_isReason { frames := 1, cells := 0, slots := 0, locals := 22 }).room s m ([.ref g0, .int a1, .ref e0, .int a2, .int a3, .int a4] : List Value).toArray below meth c H locs 0 0 (MQ below (va_Qi (fun (r : Int32) (u : va_W) => (r = TT ∧ (TT = 0 ∨ TT = 1) ∧ (u = ((wW_k_L_isReason ty g0 e0 a1.toNatClampNeg gf ef) ++ pw ty pp)))) (wq_B D A) A) ([.ref g0, .int a1, .ref e0, .int a2, .int a3, .int a4] : List Value).toArray s 0 0 A) (F0 m pc ls [.int r]) := by
    intro r hT hb01 H locs hP hD hS ls pc hd
    have hM : TT = r := hT
    exact W.zret (v := r) hx hb hr (wz_nar hb01) (fun t ht hW => ⟨⟨r, ((wW_k_L_isReason ty g0 e0 a1.toNatClampNeg gf ef) ++ pw ty pp), rfl, ⟨(by rw [hM]), (by rw [hM]; exact hb01), rfl⟩, wq_B.of ht hP hD⟩, hS.F ht⟩) hS.2.2 hd
  have hT := hTT
  rw [m_k_L_isReason] at hT
  refine lv_iconst (v := 0) hx hb dL_isReason_0 (by decide) ?_
  refine lv_istore (lv' := [(6, .int 0), (0, .ref g0), (1, .int a1), (2, .ref e0), (3, .int a2), (4, .int a3), (5, .int a4)]) hx hb dL_isReason_1 hl (by decide) rfl (fun ls hl => ?_)
  have L_3 : ∀ (n_3 : Nat) (v6_3 : Int32), (2147483648 - v6_3.toInt).toNat < n_3 → TT = m_k_L_isReason_3 pp gf ef a1 a2 a3 a4 n_3 v6_3 → 0 ≤ v6_3.toInt → ∀ (H : Heap) (locs : List Loc), va_P D vwCl ((wW_k_L_isReason ty g0 e0 a1.toNatClampNeg gf ef) ++ pw ty pp) H → va_D A ((wW_k_L_isReason ty g0 e0 a1.toNatClampNeg gf ef) ++ pw ty pp) → va_S A s.heap H locs → ∀ ls : Array Slot, lv_has ls 9 [(0, .ref g0), (1, .int a1), (2, .ref e0), (3, .int a2), (4, .int a3), (5, .int a4), (6, .int v6_3)] → W p l e (headSpec vs_k_L_isReason { frames := 1, cells := 0, slots := 0, locals := 22 }).room s m ([.ref g0, .int a1, .ref e0, .int a2, .int a3, .int a4] : List Value).toArray below meth c H locs 0 0 (MQ below (va_Qi (fun (r : Int32) (u : va_W) => (r = TT ∧ (TT = 0 ∨ TT = 1) ∧ (u = ((wW_k_L_isReason ty g0 e0 a1.toNatClampNeg gf ef) ++ pw ty pp)))) (wq_B D A) A) ([.ref g0, .int a1, .ref e0, .int a2, .int a3, .int a4] : List Value).toArray s 0 0 A) (F0 m 3 ls []) := by
    intro n_3
    induction n_3 with
    | zero => intro v6_3 hu; exact absurd hu (Nat.not_lt_zero _)
    | succ n_3 ih_3 =>
      intro v6_3 hu_3 hT hn_3 H locs hP hD hS ls hl
      rw [m_k_L_isReason_3_succ, m_k_L_isReason_3s] at hT
      refine lv_iload hx hb dL_isReason_3 (lv_at hl 6 rfl) ?_
      refine lv_iload_n hx hb dL_isReason_5 rfl (lv_at hl 1 rfl) ?_
      refine lv_icmp_ge (tgt := 103) hx hb dL_isReason_6 (by decide) (fun c_1 => ?_) (fun c_1 => ?_)
      · rw [if_pos c_1] at hT
        refine lv_iload hx hb dL_isReason_103 (lv_at hl 5 rfl) ?_
        refine lv_bipush (v := 100) hx hb dL_isReason_105 (by decide) ?_
        refine lv_icmp_lt (tgt := 126) hx hb dL_isReason_107 (by decide) (fun c_2 => ?_) (fun c_2 => ?_)
        · rw [if_pos c_2] at hT
          refine lv_iconst (v := 0) hx hb dL_isReason_126 (by decide) ?_
          exact END 0 hT (by decide) _ _ hP hD hS _ _ dL_isReason_127
        · rw [if_neg c_2] at hT
          refine lv_aload_n hx hb dL_isReason_110 rfl (lv_at hl 2 rfl) ?_
          refine lv_iload hx hb dL_isReason_111 (lv_at hl 5 rfl) ?_
          refine lv_bipush (v := 100) hx hb dL_isReason_113 (by decide) ?_
          refine lv_isub hx hb dL_isReason_115 ?_
          refine va_iald (D := D) hx hb hK hP 1 0 rfl rfl (om_k_L_isReason_0 a4 v6_3 a1 h106 hn_3 c_1 c_2) dL_isReason_116 ?_
          refine lv_iload hx hb dL_isReason_117 (lv_at hl 4 rfl) ?_
          refine lv_icmp_ne (tgt := 126) hx hb dL_isReason_119 (by decide) (fun c_3 => ?_) (fun c_3 => ?_)
          · rw [if_neg c_3] at hT
            refine lv_iconst (v := 0) hx hb dL_isReason_126 (by decide) ?_
            exact END 0 hT (by decide) _ _ hP hD hS _ _ dL_isReason_127
          · rw [if_pos c_3] at hT
            refine lv_iconst (v := 1) hx hb dL_isReason_122 (by decide) ?_
            refine lv_goto (tgt := 127) hx hb dL_isReason_123 (by decide) ?_
            exact END 1 hT (by decide) _ _ hP hD hS _ _ dL_isReason_127
      · rw [if_neg c_1] at hT
        refine lv_aload_n hx hb dL_isReason_9 rfl (lv_at hl 0 rfl) ?_
        refine lv_iload hx hb dL_isReason_10 (lv_at hl 6 rfl) ?_
        refine wq_aldA (D := D) hx hb hK hP 0 6 rfl rfl (wi_inN hn_3 (Int32.lt_iff_toInt_lt.mp (Int32.not_le.mp c_1))) dL_isReason_12 ?_
        obtain ⟨o_12, ho_12, hmo_12⟩ := hrr v6_3 hn_3 (Int32.lt_iff_toInt_lt.mp (Int32.not_le.mp c_1))
        rw [ho_12, oE_some] at hT
        rw [ho_12]
        refine W.eq (g2 := F0 m 13 ls [.ref o_12]) rfl ?_
        refine lv_iconst (v := 1) hx hb dL_isReason_13 (by decide) ?_
        obtain ⟨k_4, hk_4⟩ := List.getElem?_of_mem (pw_row (ty := ty) (p := pp) (L := [(g0, .inl (ty 6, a1.toNatClampNeg, .inr (.inr (.inr (.inr gf))))), (e0, .inl (ty 0, 6, .inl ef))]) hmo_12)
        refine va_iald (D := D) hx hb hK hP k_4 0 hk_4 rfl (vp_in_iff.mpr (by decide)) dL_isReason_14 ?_
        refine lv_iload_n hx hb dL_isReason_15 rfl (lv_at hl 3 rfl) ?_
        refine lv_iand hx hb dL_isReason_16 ?_
        refine lv_istore (lv' := [(7, .int (((pI pp o_12) (1 : Int32).toNatClampNeg) &&& a2)), (0, .ref g0), (1, .int a1), (2, .ref e0), (3, .int a2), (4, .int a3), (5, .int a4), (6, .int v6_3)]) hx hb dL_isReason_17 hl (by decide) rfl (fun ls hl => ?_)
        refine lv_aload_n hx hb dL_isReason_19 rfl (lv_at hl 1 rfl) ?_
        refine lv_iload hx hb dL_isReason_20 (lv_at hl 7 rfl) ?_
        refine wq_aldA (D := D) hx hb hK hP 0 6 rfl rfl (wi_inN hn_3 (Int32.lt_iff_toInt_lt.mp (Int32.not_le.mp c_1))) dL_isReason_22 ?_
        rw [ho_12]
        refine W.eq (g2 := F0 m 23 ls [.ref o_12]) rfl ?_
        refine lv_iconst (v := 0) hx hb dL_isReason_23 (by decide) ?_
        obtain ⟨k_5, hk_5⟩ := List.getElem?_of_mem (pw_row (ty := ty) (p := pp) (L := [(g0, .inl (ty 6, a1.toNatClampNeg, .inr (.inr (.inr (.inr gf))))), (e0, .inl (ty 0, 6, .inl ef))]) hmo_12)
        refine va_iald (D := D) hx hb hK hP k_5 0 hk_5 rfl (vp_in_iff.mpr (by decide)) dL_isReason_24 ?_
        refine lv_bipush (v := 119) hx hb dL_isReason_25 (by decide) ?_
        have J_77 : ∀ (s0_77 : Int32), TT = m_k_L_isReason_77 a4 (m_k_L_isReason_3 pp gf ef a1 a2 a3 a4 n_3) v6_3 s0_77 → s0_77 = 0 ∨ s0_77 = 1 → ∀ (H : Heap) (locs : List Loc), va_P D vwCl ((wW_k_L_isReason ty g0 e0 a1.toNatClampNeg gf ef) ++ pw ty pp) H → va_D A ((wW_k_L_isReason ty g0 e0 a1.toNatClampNeg gf ef) ++ pw ty pp) → va_S A s.heap H locs → ∀ ls : Array Slot, lv_has ls 9 [(0, .ref g0), (1, .int a1), (2, .ref e0), (3, .int a2), (4, .int a3), (5, .int a4), (6, .int v6_3)] → W p l e (headSpec vs_k_L_isReason { frames := 1, cells := 0, slots := 0, locals := 22 }).room s m ([.ref g0, .int a1, .ref e0, .int a2, .int a3, .int a4] : List Value).toArray below meth c H locs 0 0 (MQ below (va_Qi (fun (r : Int32) (u : va_W) => (r = TT ∧ (TT = 0 ∨ TT = 1) ∧ (u = ((wW_k_L_isReason ty g0 e0 a1.toNatClampNeg gf ef) ++ pw ty pp)))) (wq_B D A) A) ([.ref g0, .int a1, .ref e0, .int a2, .int a3, .int a4] : List Value).toArray s 0 0 A) (F0 m 77 ls [.int s0_77]) := by
          intro s0_77 hT hb_s0_77 H locs hP hD hS ls hl
          rw [m_k_L_isReason_77] at hT
          refine lv_istore (lv' := [(8, .int s0_77), (0, .ref g0), (1, .int a1), (2, .ref e0), (3, .int a2), (4, .int a3), (5, .int a4), (6, .int v6_3)]) hx hb dL_isReason_77 hl (by decide) rfl (fun ls hl => ?_)
          refine lv_iload hx hb dL_isReason_79 (lv_at hl 0 rfl) ?_
          refine lv_if_eq (tgt := 97) hx hb dL_isReason_81 (by decide) (fun c_6 => ?_) (fun c_6 => ?_)
          · rw [if_pos c_6] at hT
            refine lv_iinc (v := v6_3 + 1) (lv' := [(6, .int (v6_3 + 1)), (8, .int s0_77), (0, .ref g0), (1, .int a1), (2, .ref e0), (3, .int a2), (4, .int a3), (5, .int a4)]) hx hb dL_isReason_97 hl (k := 7) rfl (by rfl) (by decide) rfl (fun ls hl => ?_)
            refine lv_goto (tgt := 3) hx hb dL_isReason_100 (by decide) ?_
            exact ih_3 (v6_3 + 1) (wi_up hu_3 (Int32.not_le.mp c_1)) hT (wi_inc hn_3 (Int32.not_le.mp c_1)) _ _ hP hD hS _ (lv_sub hl [2, 3, 4, 5, 6, 7, 0] rfl)
          · rw [if_neg c_6] at hT
            refine lv_iload hx hb dL_isReason_84 (lv_at hl 6 rfl) ?_
            refine lv_iload hx hb dL_isReason_86 (lv_at hl 7 rfl) ?_
            refine lv_icmp_ne (tgt := 95) hx hb dL_isReason_88 (by decide) (fun c_7 => ?_) (fun c_7 => ?_)
            · rw [if_neg c_7] at hT
              refine lv_iconst (v := 0) hx hb dL_isReason_95 (by decide) ?_
              exact END 0 hT (by decide) _ _ hP hD hS _ _ dL_isReason_96
            · rw [if_pos c_7] at hT
              refine lv_iconst (v := 1) hx hb dL_isReason_91 (by decide) ?_
              refine lv_goto (tgt := 96) hx hb dL_isReason_92 (by decide) ?_
              exact END 1 hT (by decide) _ _ hP hD hS _ _ dL_isReason_96
        have J_76 : ∀ (_ : Unit), TT = m_k_L_isReason_76 a4 (m_k_L_isReason_3 pp gf ef a1 a2 a3 a4 n_3) v6_3 → ∀ (H : Heap) (locs : List Loc), va_P D vwCl ((wW_k_L_isReason ty g0 e0 a1.toNatClampNeg gf ef) ++ pw ty pp) H → va_D A ((wW_k_L_isReason ty g0 e0 a1.toNatClampNeg gf ef) ++ pw ty pp) → va_S A s.heap H locs → ∀ ls : Array Slot, lv_has ls 9 [(0, .ref g0), (1, .int a1), (2, .ref e0), (3, .int a2), (4, .int a3), (5, .int a4), (6, .int v6_3)] → W p l e (headSpec vs_k_L_isReason { frames := 1, cells := 0, slots := 0, locals := 22 }).room s m ([.ref g0, .int a1, .ref e0, .int a2, .int a3, .int a4] : List Value).toArray below meth c H locs 0 0 (MQ below (va_Qi (fun (r : Int32) (u : va_W) => (r = TT ∧ (TT = 0 ∨ TT = 1) ∧ (u = ((wW_k_L_isReason ty g0 e0 a1.toNatClampNeg gf ef) ++ pw ty pp)))) (wq_B D A) A) ([.ref g0, .int a1, .ref e0, .int a2, .int a3, .int a4] : List Value).toArray s 0 0 A) (F0 m 76 ls []) := by
          intro _ hT  H locs hP hD hS ls hl
          rw [m_k_L_isReason_76] at hT
          refine lv_iconst (v := 0) hx hb dL_isReason_76 (by decide) ?_
          exact J_77 0 hT (by decide) _ _ hP hD hS _ (lv_sub hl [0, 1, 2, 3, 4, 5, 6] rfl)
        refine lv_icmp_eq (tgt := 76) hx hb dL_isReason_27 (by decide) (fun c_8 => ?_) (fun c_8 => ?_)
        · rw [if_pos c_8] at hT
          exact J_76 () hT _ _ hP hD hS _ (lv_sub hl [1, 2, 3, 4, 5, 6, 7] rfl)
        · rw [if_neg c_8] at hT
          refine lv_aload_n hx hb dL_isReason_30 rfl (lv_at hl 1 rfl) ?_
          refine lv_iload hx hb dL_isReason_31 (lv_at hl 7 rfl) ?_
          refine wq_aldA (D := D) hx hb hK hP 0 6 rfl rfl (wi_inN hn_3 (Int32.lt_iff_toInt_lt.mp (Int32.not_le.mp c_1))) dL_isReason_33 ?_
          rw [ho_12]
          refine W.eq (g2 := F0 m 34 ls [.ref o_12]) rfl ?_
          refine lv_iload_n hx hb dL_isReason_34 rfl (lv_at hl 4 rfl) ?_
          obtain ⟨t_35, ht_35⟩ : ∃ t, t = m_k_L_isHeld pp o_12 a2 := ⟨_, rfl⟩
          rw [lE_eq ht_35] at hT
          refine wq_iPW (wc := []) (pl := pw ty pp) (ux := []) (va_runS (As := [.ref o_12, .int a2]) (rest := []) ⟨hx, hb, hml, hown, hts⟩ (k_L_isHeld l D ty td mi H.size pp o_12 a2 hok hmo_12 t_35 ht_35) (va_cwS 2 hts gv_k_L_isReason_0 rfl rfl rfl (by decide +kernel) ⟨(Nat.le_of_ble_eq_true rfl), (Nat.le_of_ble_eq_true rfl)⟩) (wm_preSP hP hD hK hE hS hA [] rfl) rfl rfl hl.1 rfl (lv_room (Nat.le_of_ble_eq_true rfl)) dL_isReason_35 ⟨(Nat.le_of_ble_eq_true rfl), (Nat.le_of_ble_eq_true rfl)⟩) hS hA hP hD [] rfl rfl (fun _ _ h => h.2.2) (fun r H locs hw hP hD hS => ?_)
          obtain ⟨hr0, c_11, -⟩ := hw
          subst r
          have hP : va_P D vwCl ((wW_k_L_isReason ty g0 e0 a1.toNatClampNeg gf ef) ++ pw ty pp) H := hP
          have hD : va_D A ((wW_k_L_isReason ty g0 e0 a1.toNatClampNeg gf ef) ++ pw ty pp) := hD
          refine W.widen (k := 0) (n := 0) (Nat.le_of_ble_eq_true rfl) (Nat.le_of_ble_eq_true rfl) ?_
          refine lv_if_eq (tgt := 76) hx hb dL_isReason_38 (by decide) (fun c_12 => ?_) (fun c_12 => ?_)
          · rw [if_pos c_12] at hT
            exact J_76 () hT _ _ hP hD hS _ (lv_sub hl [1, 2, 3, 4, 5, 6, 7] rfl)
          · rw [if_neg c_12] at hT
            refine lv_iload hx hb dL_isReason_41 (lv_at hl 0 rfl) ?_
            refine lv_iload hx hb dL_isReason_43 (lv_at hl 5 rfl) ?_
            refine lv_ishr hx hb dL_isReason_45 ?_
            refine lv_iconst (v := 1) hx hb dL_isReason_46 (by decide) ?_
            refine lv_iand hx hb dL_isReason_47 ?_
            refine lv_iconst (v := 1) hx hb dL_isReason_48 (by decide) ?_
            refine lv_icmp_ne (tgt := 76) hx hb dL_isReason_49 (by decide) (fun c_13 => ?_) (fun c_13 => ?_)
            · rw [if_neg c_13] at hT
              exact J_76 () hT _ _ hP hD hS _ (lv_sub hl [1, 2, 3, 4, 5, 6, 7] rfl)
            · rw [if_pos c_13] at hT
              refine lv_aload_n hx hb dL_isReason_52 rfl (lv_at hl 1 rfl) ?_
              refine lv_iload hx hb dL_isReason_53 (lv_at hl 7 rfl) ?_
              refine wq_aldA (D := D) hx hb hK hP 0 6 rfl rfl (wi_inN hn_3 (Int32.lt_iff_toInt_lt.mp (Int32.not_le.mp c_1))) dL_isReason_55 ?_
              rw [ho_12]
              refine W.eq (g2 := F0 m 56 ls [.ref o_12]) rfl ?_
              refine lv_iconst (v := 0) hx hb dL_isReason_56 (by decide) ?_
              obtain ⟨k_14, hk_14⟩ := List.getElem?_of_mem (pw_row (ty := ty) (p := pp) (L := [(g0, .inl (ty 6, a1.toNatClampNeg, .inr (.inr (.inr (.inr gf))))), (e0, .inl (ty 0, 6, .inl ef))]) hmo_12)
              refine va_iald (D := D) hx hb hK hP k_14 0 hk_14 rfl (vp_in_iff.mpr (by decide)) dL_isReason_57 ?_
              refine lv_bipush (v := 99) hx hb dL_isReason_58 (by decide) ?_
              have J_72 : ∀ (_ : Unit), TT = m_k_L_isReason_72 a4 (m_k_L_isReason_3 pp gf ef a1 a2 a3 a4 n_3) v6_3 → ∀ (H : Heap) (locs : List Loc), va_P D vwCl ((wW_k_L_isReason ty g0 e0 a1.toNatClampNeg gf ef) ++ pw ty pp) H → va_D A ((wW_k_L_isReason ty g0 e0 a1.toNatClampNeg gf ef) ++ pw ty pp) → va_S A s.heap H locs → ∀ ls : Array Slot, lv_has ls 9 [(0, .ref g0), (1, .int a1), (2, .ref e0), (3, .int a2), (4, .int a3), (5, .int a4), (6, .int v6_3)] → W p l e (headSpec vs_k_L_isReason { frames := 1, cells := 0, slots := 0, locals := 22 }).room s m ([.ref g0, .int a1, .ref e0, .int a2, .int a3, .int a4] : List Value).toArray below meth c H locs 0 0 (MQ below (va_Qi (fun (r : Int32) (u : va_W) => (r = TT ∧ (TT = 0 ∨ TT = 1) ∧ (u = ((wW_k_L_isReason ty g0 e0 a1.toNatClampNeg gf ef) ++ pw ty pp)))) (wq_B D A) A) ([.ref g0, .int a1, .ref e0, .int a2, .int a3, .int a4] : List Value).toArray s 0 0 A) (F0 m 72 ls []) := by
                intro _ hT  H locs hP hD hS ls hl
                rw [m_k_L_isReason_72] at hT
                refine lv_iconst (v := 1) hx hb dL_isReason_72 (by decide) ?_
                refine lv_goto (tgt := 77) hx hb dL_isReason_73 (by decide) ?_
                exact J_77 1 hT (by decide) _ _ hP hD hS _ (lv_sub hl [0, 1, 2, 3, 4, 5, 6] rfl)
              refine lv_icmp_eq (tgt := 72) hx hb dL_isReason_60 (by decide) (fun c_15 => ?_) (fun c_15 => ?_)
              · rw [if_pos c_15] at hT
                exact J_72 () hT _ _ hP hD hS _ (lv_sub hl [1, 2, 3, 4, 5, 6, 7] rfl)
              · rw [if_neg c_15] at hT
                refine lv_iload hx hb dL_isReason_63 (lv_at hl 0 rfl) ?_
                refine lv_iconst (v := 1) hx hb dL_isReason_65 (by decide) ?_
                refine lv_iload hx hb dL_isReason_66 (lv_at hl 5 rfl) ?_
                refine lv_ishl hx hb dL_isReason_68 ?_
                refine lv_icmp_ne (tgt := 76) hx hb dL_isReason_69 (by decide) (fun c_16 => ?_) (fun c_16 => ?_)
                · rw [if_neg c_16] at hT
                  exact J_76 () hT _ _ hP hD hS _ (lv_sub hl [1, 2, 3, 4, 5, 6, 7] rfl)
                · rw [if_pos c_16] at hT
                  exact J_72 () hT _ _ hP hD hS _ (lv_sub hl [1, 2, 3, 4, 5, 6, 7] rfl)
  exact L_3 wF 0 (wF_up 0) hT (by decide) _ _ hP hD hS _ (lv_sub hl [1, 2, 3, 4, 5, 6, 0] rfl)
theorem dL_cell_0 : decode cL_cell 0 = .ok (.ldc 7, 2) := by decide +kernel
theorem dL_cell_2 : decode cL_cell 2 = .ok (.iload_n 1, 1) := by decide +kernel
theorem dL_cell_3 : decode cL_cell 3 = .ok (.aload_n 0, 1) := by decide +kernel
theorem dL_cell_4 : decode cL_cell 4 = .ok (.arraylength, 1) := by decide +kernel
theorem dL_cell_5 : decode cL_cell 5 = .ok (.if_icmp .ge 9, 3) := by decide +kernel
theorem dL_cell_8 : decode cL_cell 8 = .ok (.aload_n 0, 1) := by decide +kernel
theorem dL_cell_9 : decode cL_cell 9 = .ok (.iload_n 1, 1) := by decide +kernel
theorem dL_cell_10 : decode cL_cell 10 = .ok (.iaload, 1) := by decide +kernel
theorem dL_cell_11 : decode cL_cell 11 = .ok (.goto 4, 3) := by decide +kernel
theorem dL_cell_14 : decode cL_cell 14 = .ok (.iconst 0, 1) := by decide +kernel
theorem dL_cell_15 : decode cL_cell 15 = .ok (.sipush 1009, 3) := by decide +kernel
theorem dL_cell_18 : decode cL_cell 18 = .ok (.iload_n 1, 1) := by decide +kernel
theorem dL_cell_19 : decode cL_cell 19 = .ok (.imul, 1) := by decide +kernel
theorem dL_cell_20 : decode cL_cell 20 = .ok (.iadd, 1) := by decide +kernel
theorem dL_cell_21 : decode cL_cell 21 = .ok (.imul, 1) := by decide +kernel
theorem dL_cell_22 : decode cL_cell 22 = .ok (.sipush 12345, 3) := by decide +kernel
theorem dL_cell_25 : decode cL_cell 25 = .ok (.iadd, 1) := by decide +kernel
theorem dL_cell_26 : decode cL_cell 26 = .ok (.istore_n 2, 1) := by decide +kernel
theorem dL_cell_27 : decode cL_cell 27 = .ok (.iload_n 2, 1) := by decide +kernel
theorem dL_cell_28 : decode cL_cell 28 = .ok (.iload_n 2, 1) := by decide +kernel
theorem dL_cell_29 : decode cL_cell 29 = .ok (.bipush 13, 2) := by decide +kernel
theorem dL_cell_31 : decode cL_cell 31 = .ok (.iushr, 1) := by decide +kernel
theorem dL_cell_32 : decode cL_cell 32 = .ok (.ixor, 1) := by decide +kernel
theorem dL_cell_33 : decode cL_cell 33 = .ok (.ldc 8, 2) := by decide +kernel
theorem dL_cell_35 : decode cL_cell 35 = .ok (.imul, 1) := by decide +kernel
theorem dL_cell_36 : decode cL_cell 36 = .ok (.istore_n 2, 1) := by decide +kernel
theorem dL_cell_37 : decode cL_cell 37 = .ok (.iload_n 2, 1) := by decide +kernel
theorem dL_cell_38 : decode cL_cell 38 = .ok (.iload_n 2, 1) := by decide +kernel
theorem dL_cell_39 : decode cL_cell 39 = .ok (.bipush 16, 2) := by decide +kernel
theorem dL_cell_41 : decode cL_cell 41 = .ok (.iushr, 1) := by decide +kernel
theorem dL_cell_42 : decode cL_cell 42 = .ok (.ixor, 1) := by decide +kernel
theorem dL_cell_43 : decode cL_cell 43 = .ok (.ireturn, 1) := by decide +kernel
def vs_k_L_cell : List Cond := .code yL_cell cL_cell 3 (some .int) :: ([.constant RL 7 69069, .constant RL 8 1103515245])
set_option maxHeartbeats 4000000 in
set_option maxRecDepth 100000 in
theorem k_L_cell (l : Launch) (D : va_G) (ty : Nat → ClassId) (td mi sz : Nat) (L : Nat) (xs : Nat → Int32) (b : Nat) (a1 : Int32) (h0a : 0 ≤ a1.toInt) (hL : L ≤ 260) (TT : r_k_L_cell) (hTT : TT = m_k_L_cell L xs a1) : Met l yL_cell vs_k_L_cell { frames := 0, cells := 0, slots := 0, locals := 0 } (va_Pc [.ref b, .int a1] (wq_PS D ty td mi [] sz b L xs)) (va_Qi (fun (r : Int32) (u : va_W) => (r = TT ∧ (u = []))) (wq_B D (va_A [] sz)) (va_A [] sz)) 0 0 (va_A [] sz) := by
  refine Met.ofW (cc := cL_cell) (maxL := 3) (ret := (some .int)) (by decide) rfl ?_
  intro p e s m args below meth c s₁ B hml hv
  obtain ⟨rfl, ⟨hsz, hP, hK, hD0, hE⟩, hX, hbl, hbA⟩ := hv
  have hx := B.exec
  have hb := B.bytes
  have hr := B.returns
  have hts := atoms_spec (ws := vs_k_L_cell) B.pre
  have hown : s.vm.findClass RL = some m.cls := findClass_of_methodNamed B.named
  have hlocks := B.notSynchronized
  subst hsz
  have hD := hD0.self (sz := s.heap.size)
  generalize hAe : va_A [] s.heap.size = A at hD hE hbA ⊢
  have hA : ∀ q : Nat, s.heap.size ≤ q → A q := fun q h => by rw [← hAe]; exact Or.inr h
  have hS : va_S A s.heap s.heap [] := va_S.rf
  have hP : va_P D vwCl [] s.heap := hP
  have hl := lv_entry ([.ref b, .int a1]) (n := 3) (Nat.le_of_ble_eq_true rfl)
  rw [lg_entry_eq]
  generalize (lg_sl ([.ref b, .int a1]) ++ List.replicate (3 - (lg_sl ([.ref b, .int a1])).length) Slot.unset).toArray = ls at hl ⊢
  have hl : lv_has ls 3 [(0, .ref b), (1, .int a1)] := hl
  have END : ∀ (r : Int32), TT = r → ∀ (H : Heap) (locs : List Loc), va_P D vwCl [] H → va_D A [] → va_S A s.heap H locs → ∀ (ls : Array Slot) (pc : Nat), decode cL_cell pc = .ok (.ireturn, 1) → W p l e (headSpec vs_k_L_cell { frames := 0, cells := 0, slots := 0, locals := 0 }).room s m ([.ref b, .int a1] : List Value).toArray below meth c H locs 0 0 (MQ below (va_Qi (fun (r : Int32) (u : va_W) => (r = TT ∧ (u = []))) (wq_B D A) A) ([.ref b, .int a1] : List Value).toArray s 0 0 A) (F0 m pc ls [.int r]) := by
    intro r hT H locs hP hD hS ls pc hd
    have hM : TT = r := hT
    exact W.iret (v := r) hx hb hr (fun t ht hW => ⟨⟨r, [], rfl, ⟨(by rw [hM]), rfl⟩, wq_B.of ht hP hD⟩, hS.F ht⟩) hS.2.2 hd
  have hT := hTT
  rw [m_k_L_cell] at hT
  refine lv_ldc (v := 69069) hx hb hown (hts (.constant RL 7 69069) (by decide +kernel)) dL_cell_0 ?_
  refine lv_iload_n hx hb dL_cell_2 rfl (lv_at hl 1 rfl) ?_
  refine lv_aload_n hx hb dL_cell_3 rfl (lv_at hl 0 rfl) ?_
  refine va_slen hx hb hX hbl hbA hS dL_cell_4 ?_
  have J_15 : ∀ (s0_15 : Int32), TT = m_k_L_cell_15 a1 s0_15 → ∀ (H : Heap) (locs : List Loc), va_P D vwCl [] H → va_D A [] → va_S A s.heap H locs → ∀ ls : Array Slot, lv_has ls 3 [(1, .int a1)] → W p l e (headSpec vs_k_L_cell { frames := 0, cells := 0, slots := 0, locals := 0 }).room s m ([.ref b, .int a1] : List Value).toArray below meth c H locs 0 0 (MQ below (va_Qi (fun (r : Int32) (u : va_W) => (r = TT ∧ (u = []))) (wq_B D A) A) ([.ref b, .int a1] : List Value).toArray s 0 0 A) (F0 m 15 ls [.int s0_15, .int 69069]) := by
    intro s0_15 hT  H locs hP hD hS ls hl
    rw [m_k_L_cell_15] at hT
    refine lv_sipush (v := 1009) hx hb dL_cell_15 (by decide) ?_
    refine lv_iload_n hx hb dL_cell_18 rfl (lv_at hl 0 rfl) ?_
    refine lv_imul hx hb dL_cell_19 ?_
    refine lv_iadd hx hb dL_cell_20 ?_
    refine lv_imul hx hb dL_cell_21 ?_
    refine lv_sipush (v := 12345) hx hb dL_cell_22 (by decide) ?_
    refine lv_iadd hx hb dL_cell_25 ?_
    refine lv_istore_n (lv' := [(2, .int ((69069 * (s0_15 + (1009 * a1))) + 12345)), (1, .int a1)]) hx hb dL_cell_26 rfl hl (by decide) rfl (fun ls hl => ?_)
    refine lv_iload_n hx hb dL_cell_27 rfl (lv_at hl 0 rfl) ?_
    refine lv_iload_n hx hb dL_cell_28 rfl (lv_at hl 0 rfl) ?_
    refine lv_bipush (v := 13) hx hb dL_cell_29 (by decide) ?_
    refine lv_iushr hx hb dL_cell_31 rfl ?_
    refine lv_ixor hx hb dL_cell_32 ?_
    refine lv_ldc (v := 1103515245) hx hb hown (hts (.constant RL 8 1103515245) (by decide +kernel)) dL_cell_33 ?_
    refine lv_imul hx hb dL_cell_35 ?_
    refine lv_istore_n (lv' := [(2, .int ((((69069 * (s0_15 + (1009 * a1))) + 12345) ^^^ ((((69069 * (s0_15 + (1009 * a1))) + 12345).toUInt32 >>> ((13 : Int32).toUInt32 &&& Int32.toUInt32 31)).toInt32)) * 1103515245)), (1, .int a1)]) hx hb dL_cell_36 rfl hl (by decide) rfl (fun ls hl => ?_)
    refine lv_iload_n hx hb dL_cell_37 rfl (lv_at hl 0 rfl) ?_
    refine lv_iload_n hx hb dL_cell_38 rfl (lv_at hl 0 rfl) ?_
    refine lv_bipush (v := 16) hx hb dL_cell_39 (by decide) ?_
    refine lv_iushr hx hb dL_cell_41 rfl ?_
    refine lv_ixor hx hb dL_cell_42 ?_
    exact END (((((69069 * (s0_15 + (1009 * a1))) + 12345) ^^^ ((((69069 * (s0_15 + (1009 * a1))) + 12345).toUInt32 >>> ((13 : Int32).toUInt32 &&& Int32.toUInt32 31)).toInt32)) * 1103515245) ^^^ ((((((69069 * (s0_15 + (1009 * a1))) + 12345) ^^^ ((((69069 * (s0_15 + (1009 * a1))) + 12345).toUInt32 >>> ((13 : Int32).toUInt32 &&& Int32.toUInt32 31)).toInt32)) * 1103515245).toUInt32 >>> ((16 : Int32).toUInt32 &&& Int32.toUInt32 31)).toInt32)) hT _ _ hP hD hS _ _ dL_cell_43
  refine lv_icmp_ge (tgt := 14) hx hb dL_cell_5 (by decide) (fun c_1 => ?_) (fun c_1 => ?_)
  · rw [if_pos c_1] at hT
    refine lv_iconst (v := 0) hx hb dL_cell_14 (by decide) ?_
    exact J_15 0 hT _ _ hP hD hS _ (lv_sub hl [1] rfl)
  · rw [if_neg c_1] at hT
    refine lv_aload_n hx hb dL_cell_8 rfl (lv_at hl 0 rfl) ?_
    refine lv_iload_n hx hb dL_cell_9 rfl (lv_at hl 1 rfl) ?_
    refine va_sld hx hb hX hbl hbA hS (wi_inL hL h0a (Int32.not_le.mp c_1)) dL_cell_10 ?_
    refine lv_goto (tgt := 15) hx hb dL_cell_11 (by decide) ?_
    exact J_15 (xs a1.toNatClampNeg) hT _ _ hP hD hS _ (lv_sub hl [1] rfl)
theorem dL_pick_0 : decode cL_pick 0 = .ok (.aload_n 0, 1) := by decide +kernel
theorem dL_pick_1 : decode cL_pick 1 = .ok (.iload_n 1, 1) := by decide +kernel
theorem dL_pick_2 : decode cL_pick 2 = .ok (.invokestatic 9, 3) := by decide +kernel
theorem dL_pick_5 : decode cL_pick 5 = .ok (.bipush 8, 2) := by decide +kernel
theorem dL_pick_7 : decode cL_pick 7 = .ok (.iushr, 1) := by decide +kernel
theorem dL_pick_8 : decode cL_pick 8 = .ok (.iload_n 2, 1) := by decide +kernel
theorem dL_pick_9 : decode cL_pick 9 = .ok (.irem, 1) := by decide +kernel
theorem dL_pick_10 : decode cL_pick 10 = .ok (.ireturn, 1) := by decide +kernel
def vs_k_L_pick : List Cond := .code yL_pick cL_pick 3 (some .int) :: ([.methodLink RL 9 yL_cell, .static yL_cell, .initialized RL] ++ (vs_k_L_cell))
set_option maxRecDepth 20000 in
theorem gv_k_L_pick_0 : GoodIn vs_k_L_pick (va_wsS RL 9 yL_cell vs_k_L_cell) := goodIn_app (goodIn_sub (by decide +kernel) (by decide +kernel)) (goodIn_sub (fun _ h => List.mem_cons_of_mem _ (List.mem_append_right _ (h))) (by decide +kernel))
set_option maxHeartbeats 4000000 in
set_option maxRecDepth 100000 in
theorem k_L_pick (l : Launch) (D : va_G) (ty : Nat → ClassId) (td mi sz : Nat) (L : Nat) (xs : Nat → Int32) (b : Nat) (a1 : Int32) (a2 : Int32) (h0a : 0 ≤ a1.toInt) (h0b : 0 < a2.toInt) (hL : L ≤ 260) (TT : r_k_L_pick) (hTT : TT = m_k_L_pick L xs a1 a2) : Met l yL_pick vs_k_L_pick { frames := 1, cells := 0, slots := 0, locals := 22 } (va_Pc [.ref b, .int a1, .int a2] (wq_PS D ty td mi [] sz b L xs)) (va_Qi (fun (r : Int32) (u : va_W) => (r = TT ∧ (u = []))) (wq_B D (va_A [] sz)) (va_A [] sz)) 0 0 (va_A [] sz) := by
  refine Met.ofW (cc := cL_pick) (maxL := 3) (ret := (some .int)) (by decide) rfl ?_
  intro p e s m args below meth c s₁ B hml hv
  obtain ⟨rfl, ⟨hsz, hP, hK, hD0, hE⟩, hX, hbl, hbA⟩ := hv
  have hx := B.exec
  have hb := B.bytes
  have hr := B.returns
  have hts := atoms_spec (ws := vs_k_L_pick) B.pre
  have hown : s.vm.findClass RL = some m.cls := findClass_of_methodNamed B.named
  have hlocks := B.notSynchronized
  subst hsz
  have hD := hD0.self (sz := s.heap.size)
  generalize hAe : va_A [] s.heap.size = A at hD hE hbA ⊢
  have hA : ∀ q : Nat, s.heap.size ≤ q → A q := fun q h => by rw [← hAe]; exact Or.inr h
  have hS : va_S A s.heap s.heap [] := va_S.rf
  have hP : va_P D vwCl [] s.heap := hP
  have hl := lv_entry ([.ref b, .int a1, .int a2]) (n := 3) (Nat.le_of_ble_eq_true rfl)
  rw [lg_entry_eq]
  generalize (lg_sl ([.ref b, .int a1, .int a2]) ++ List.replicate (3 - (lg_sl ([.ref b, .int a1, .int a2])).length) Slot.unset).toArray = ls at hl ⊢
  have hl : lv_has ls 3 [(0, .ref b), (1, .int a1), (2, .int a2)] := hl
  have END : ∀ (r : Int32), TT = r → ∀ (H : Heap) (locs : List Loc), va_P D vwCl [] H → va_D A [] → va_S A s.heap H locs → ∀ (ls : Array Slot) (pc : Nat), decode cL_pick pc = .ok (.ireturn, 1) → W p l e (headSpec vs_k_L_pick { frames := 1, cells := 0, slots := 0, locals := 22 }).room s m ([.ref b, .int a1, .int a2] : List Value).toArray below meth c H locs 0 0 (MQ below (va_Qi (fun (r : Int32) (u : va_W) => (r = TT ∧ (u = []))) (wq_B D A) A) ([.ref b, .int a1, .int a2] : List Value).toArray s 0 0 A) (F0 m pc ls [.int r]) := by
    intro r hT H locs hP hD hS ls pc hd
    have hM : TT = r := hT
    exact W.iret (v := r) hx hb hr (fun t ht hW => ⟨⟨r, [], rfl, ⟨(by rw [hM]), rfl⟩, wq_B.of ht hP hD⟩, hS.F ht⟩) hS.2.2 hd
  have hT := hTT
  rw [m_k_L_pick] at hT
  refine lv_aload_n hx hb dL_pick_0 rfl (lv_at hl 0 rfl) ?_
  refine lv_iload_n hx hb dL_pick_1 rfl (lv_at hl 1 rfl) ?_
  obtain ⟨t_2, ht_2⟩ : ∃ t, t = m_k_L_cell L xs a1 := ⟨_, rfl⟩
  rw [lE_eq ht_2] at hT
  refine wq_iW (wc := []) (va_runS (As := [.ref b, .int a1]) (rest := []) ⟨hx, hb, hml, hown, hts⟩ (k_L_cell l D ty td mi s.heap.size L xs b a1 h0a hL t_2 ht_2) (va_cwS 2 hts gv_k_L_pick_0 rfl rfl rfl (by decide +kernel) ⟨(Nat.le_of_ble_eq_true rfl), (Nat.le_of_ble_eq_true rfl)⟩) (wq_preSS (wm_preS hP hD hK hE hS hA [] rfl) hX hbl hbA hS (wm_free hD hS hA [] rfl)) rfl rfl hl.1 rfl (lv_room (Nat.le_of_ble_eq_true rfl)) dL_pick_2 ⟨(Nat.le_of_ble_eq_true rfl), (Nat.le_of_ble_eq_true rfl)⟩) hS hA hP hD [] rfl (fun _ _ h => by rcases h with ⟨-, rfl⟩; rfl) (fun r u H locs hw hP hD hS => ?_)
  obtain ⟨hr0, rfl⟩ := hw
  subst r
  have hP : va_P D vwCl [] H := hP
  have hD : va_D A [] := hD
  refine W.widen (k := 0) (n := 0) (Nat.le_of_ble_eq_true rfl) (Nat.le_of_ble_eq_true rfl) ?_
  refine lv_bipush (v := 8) hx hb dL_pick_5 (by decide) ?_
  refine lv_iushr hx hb dL_pick_7 rfl ?_
  refine lv_iload_n hx hb dL_pick_8 rfl (lv_at hl 2 rfl) ?_
  refine lv_irem hx hb dL_pick_9 (wi_ne h0b) ?_
  exact END (((t_2.toUInt32 >>> ((8 : Int32).toUInt32 &&& Int32.toUInt32 31)).toInt32) - ((t_2.toUInt32 >>> ((8 : Int32).toUInt32 &&& Int32.toUInt32 31)).toInt32) / a2 * a2) hT _ _ hP hD hS _ _ dL_pick_10

theorem dL_plain_0 : decode cL_plain 0 = .ok (.iload_n 1, 1) := by decide +kernel
theorem dL_plain_1 : decode cL_plain 1 = .ok (.tableswitch 205 0 12 #[67, 73, 79, 90, 99, 110, 132, 144, 156, 163, 172, 180, 200], 67) := by decide +kernel
theorem dL_plain_68 : decode cL_plain 68 = .ok (.aload_n 0, 1) := by decide +kernel
theorem dL_plain_69 : decode cL_plain 69 = .ok (.iload_n 2, 1) := by decide +kernel
theorem dL_plain_70 : decode cL_plain 70 = .ok (.invokevirtual 15, 3) := by decide +kernel
theorem dL_plain_73 : decode cL_plain 73 = .ok (.ireturn, 1) := by decide +kernel
theorem dL_plain_74 : decode cL_plain 74 = .ok (.aload_n 0, 1) := by decide +kernel
theorem dL_plain_75 : decode cL_plain 75 = .ok (.iload_n 2, 1) := by decide +kernel
theorem dL_plain_76 : decode cL_plain 76 = .ok (.invokevirtual 21, 3) := by decide +kernel
theorem dL_plain_79 : decode cL_plain 79 = .ok (.ireturn, 1) := by decide +kernel
theorem dL_plain_80 : decode cL_plain 80 = .ok (.aload_n 0, 1) := by decide +kernel
theorem dL_plain_81 : decode cL_plain 81 = .ok (.iload_n 2, 1) := by decide +kernel
theorem dL_plain_82 : decode cL_plain 82 = .ok (.iload_n 3, 1) := by decide +kernel
theorem dL_plain_83 : decode cL_plain 83 = .ok (.iload 4, 2) := by decide +kernel
theorem dL_plain_85 : decode cL_plain 85 = .ok (.iload 5, 2) := by decide +kernel
theorem dL_plain_87 : decode cL_plain 87 = .ok (.invokevirtual 24, 3) := by decide +kernel
theorem dL_plain_90 : decode cL_plain 90 = .ok (.ireturn, 1) := by decide +kernel
theorem dL_plain_91 : decode cL_plain 91 = .ok (.aload_n 0, 1) := by decide +kernel
theorem dL_plain_92 : decode cL_plain 92 = .ok (.iload_n 2, 1) := by decide +kernel
theorem dL_plain_93 : decode cL_plain 93 = .ok (.iload_n 3, 1) := by decide +kernel
theorem dL_plain_94 : decode cL_plain 94 = .ok (.iload 4, 2) := by decide +kernel
theorem dL_plain_96 : decode cL_plain 96 = .ok (.invokevirtual 28, 3) := by decide +kernel
theorem dL_plain_99 : decode cL_plain 99 = .ok (.ireturn, 1) := by decide +kernel
theorem dL_plain_100 : decode cL_plain 100 = .ok (.aload_n 0, 1) := by decide +kernel
theorem dL_plain_101 : decode cL_plain 101 = .ok (.iload_n 2, 1) := by decide +kernel
theorem dL_plain_102 : decode cL_plain 102 = .ok (.iload_n 3, 1) := by decide +kernel
theorem dL_plain_103 : decode cL_plain 103 = .ok (.iload 4, 2) := by decide +kernel
theorem dL_plain_105 : decode cL_plain 105 = .ok (.iload 5, 2) := by decide +kernel
theorem dL_plain_107 : decode cL_plain 107 = .ok (.invokevirtual 32, 3) := by decide +kernel
theorem dL_plain_110 : decode cL_plain 110 = .ok (.ireturn, 1) := by decide +kernel
theorem dL_plain_111 : decode cL_plain 111 = .ok (.aload_n 0, 1) := by decide +kernel
theorem dL_plain_112 : decode cL_plain 112 = .ok (.iload_n 2, 1) := by decide +kernel
theorem dL_plain_113 : decode cL_plain 113 = .ok (.iload_n 3, 1) := by decide +kernel
theorem dL_plain_114 : decode cL_plain 114 = .ok (.iconst 1, 1) := by decide +kernel
theorem dL_plain_115 : decode cL_plain 115 = .ok (.if_icmp .ne 7, 3) := by decide +kernel
theorem dL_plain_118 : decode cL_plain 118 = .ok (.iconst 1, 1) := by decide +kernel
theorem dL_plain_119 : decode cL_plain 119 = .ok (.goto 4, 3) := by decide +kernel
theorem dL_plain_122 : decode cL_plain 122 = .ok (.iconst 0, 1) := by decide +kernel
theorem dL_plain_123 : decode cL_plain 123 = .ok (.iload 4, 2) := by decide +kernel
theorem dL_plain_125 : decode cL_plain 125 = .ok (.iload 5, 2) := by decide +kernel
theorem dL_plain_127 : decode cL_plain 127 = .ok (.iload 6, 2) := by decide +kernel
theorem dL_plain_129 : decode cL_plain 129 = .ok (.invokevirtual 35, 3) := by decide +kernel
theorem dL_plain_132 : decode cL_plain 132 = .ok (.ireturn, 1) := by decide +kernel
theorem dL_plain_133 : decode cL_plain 133 = .ok (.aload_n 0, 1) := by decide +kernel
theorem dL_plain_134 : decode cL_plain 134 = .ok (.iload_n 2, 1) := by decide +kernel
theorem dL_plain_135 : decode cL_plain 135 = .ok (.iload_n 3, 1) := by decide +kernel
theorem dL_plain_136 : decode cL_plain 136 = .ok (.i2c, 1) := by decide +kernel
theorem dL_plain_137 : decode cL_plain 137 = .ok (.iload 4, 2) := by decide +kernel
theorem dL_plain_139 : decode cL_plain 139 = .ok (.iload 5, 2) := by decide +kernel
theorem dL_plain_141 : decode cL_plain 141 = .ok (.invokevirtual 39, 3) := by decide +kernel
theorem dL_plain_144 : decode cL_plain 144 = .ok (.ireturn, 1) := by decide +kernel
theorem dL_plain_145 : decode cL_plain 145 = .ok (.aload_n 0, 1) := by decide +kernel
theorem dL_plain_146 : decode cL_plain 146 = .ok (.iload_n 2, 1) := by decide +kernel
theorem dL_plain_147 : decode cL_plain 147 = .ok (.iload_n 3, 1) := by decide +kernel
theorem dL_plain_148 : decode cL_plain 148 = .ok (.i2c, 1) := by decide +kernel
theorem dL_plain_149 : decode cL_plain 149 = .ok (.iload 4, 2) := by decide +kernel
theorem dL_plain_151 : decode cL_plain 151 = .ok (.iload 5, 2) := by decide +kernel
theorem dL_plain_153 : decode cL_plain 153 = .ok (.invokevirtual 43, 3) := by decide +kernel
theorem dL_plain_156 : decode cL_plain 156 = .ok (.ireturn, 1) := by decide +kernel
theorem dL_plain_157 : decode cL_plain 157 = .ok (.aload_n 0, 1) := by decide +kernel
theorem dL_plain_158 : decode cL_plain 158 = .ok (.iload_n 2, 1) := by decide +kernel
theorem dL_plain_159 : decode cL_plain 159 = .ok (.iload_n 3, 1) := by decide +kernel
theorem dL_plain_160 : decode cL_plain 160 = .ok (.invokevirtual 46, 3) := by decide +kernel
theorem dL_plain_163 : decode cL_plain 163 = .ok (.ireturn, 1) := by decide +kernel
theorem dL_plain_164 : decode cL_plain 164 = .ok (.aload_n 0, 1) := by decide +kernel
theorem dL_plain_165 : decode cL_plain 165 = .ok (.iload_n 2, 1) := by decide +kernel
theorem dL_plain_166 : decode cL_plain 166 = .ok (.iload_n 3, 1) := by decide +kernel
theorem dL_plain_167 : decode cL_plain 167 = .ok (.iload 4, 2) := by decide +kernel
theorem dL_plain_169 : decode cL_plain 169 = .ok (.invokevirtual 50, 3) := by decide +kernel
theorem dL_plain_172 : decode cL_plain 172 = .ok (.ireturn, 1) := by decide +kernel
theorem dL_plain_173 : decode cL_plain 173 = .ok (.aload_n 0, 1) := by decide +kernel
theorem dL_plain_174 : decode cL_plain 174 = .ok (.iload_n 2, 1) := by decide +kernel
theorem dL_plain_175 : decode cL_plain 175 = .ok (.iload_n 3, 1) := by decide +kernel
theorem dL_plain_176 : decode cL_plain 176 = .ok (.i2c, 1) := by decide +kernel
theorem dL_plain_177 : decode cL_plain 177 = .ok (.invokevirtual 53, 3) := by decide +kernel
theorem dL_plain_180 : decode cL_plain 180 = .ok (.ireturn, 1) := by decide +kernel
theorem dL_plain_181 : decode cL_plain 181 = .ok (.aload_n 0, 1) := by decide +kernel
theorem dL_plain_182 : decode cL_plain 182 = .ok (.iload_n 2, 1) := by decide +kernel
theorem dL_plain_183 : decode cL_plain 183 = .ok (.iload_n 3, 1) := by decide +kernel
theorem dL_plain_184 : decode cL_plain 184 = .ok (.iload 4, 2) := by decide +kernel
theorem dL_plain_186 : decode cL_plain 186 = .ok (.iload 5, 2) := by decide +kernel
theorem dL_plain_188 : decode cL_plain 188 = .ok (.iconst 1, 1) := by decide +kernel
theorem dL_plain_189 : decode cL_plain 189 = .ok (.if_icmp .ne 7, 3) := by decide +kernel
theorem dL_plain_192 : decode cL_plain 192 = .ok (.iconst 1, 1) := by decide +kernel
theorem dL_plain_193 : decode cL_plain 193 = .ok (.goto 4, 3) := by decide +kernel
theorem dL_plain_196 : decode cL_plain 196 = .ok (.iconst 0, 1) := by decide +kernel
theorem dL_plain_197 : decode cL_plain 197 = .ok (.invokevirtual 57, 3) := by decide +kernel
theorem dL_plain_200 : decode cL_plain 200 = .ok (.ireturn, 1) := by decide +kernel
theorem dL_plain_201 : decode cL_plain 201 = .ok (.aload_n 0, 1) := by decide +kernel
theorem dL_plain_202 : decode cL_plain 202 = .ok (.invokevirtual 61, 3) := by decide +kernel
theorem dL_plain_205 : decode cL_plain 205 = .ok (.ireturn, 1) := by decide +kernel
theorem dL_plain_206 : decode cL_plain 206 = .ok (.aload_n 0, 1) := by decide +kernel
theorem dL_plain_207 : decode cL_plain 207 = .ok (.invokevirtual 65, 3) := by decide +kernel
theorem dL_plain_210 : decode cL_plain 210 = .ok (.ireturn, 1) := by decide +kernel
def wW_k_L_plain_0 (ty : Nat → ClassId) (X : Nat → Nat) (z9_0 : Int32) (z9_1 : Int32) (z9_2 : Int32) (z9_3 : Int32) (z9_4 : Nat → Int32) (z9_5 : Int32) (z9_6 : Int32) (z9_7 : Int32) (z9_8 : Int32) (z9_9 : Int32) (z9_10 : Int32) (z9_11 : Int32) (z9_12 : Int32) (z9_13 : Int32) (z9_14 : Int32) (z9_15 : Int32) (z9_16 : Int32) (z9_17 : Int32) (z9_18 : Int32) (z9_19 : Int32) (z9_20 : Int32) (z9_21 : Int32) : va_W := [((X 0), .inr (12, [.ref (X 1), .ref (X 8), .ref (X 20), .ref (X 39), .ref (X 41), .ref (X 43), .ref (X 45)])), ((X 1), .inr (8, [.ref (X 2), .int z9_0, .ref (X 3), .int z9_1, .ref (X 4), .ref (X 5), .int z9_2, .ref (X 6), .ref (X 7), .int z9_3])), ((X 2), .inl (ty 0, 6, .inl z9_4)), ((X 8), .inr (5, [.ref (X 1), .ref (X 9), .ref (X 10), .ref (X 12), .ref (X 14), .int z9_5, .ref (X 15), .ref (X 16), .ref (X 17), .int z9_6, .ref (X 18), .ref (X 19), .int z9_7, .int z9_8, .int z9_9, .int z9_10])), ((X 20), .inr (11, [.ref (X 1), .ref (X 8), .ref (X 21), .ref (X 28), .ref (X 35), .int z9_11, .ref (X 36), .ref (X 37), .ref (X 38), .int z9_12, .int z9_13, .int z9_14, .int z9_15, .int z9_16, .int z9_17, .int z9_18, .int z9_19])), ((X 45), .inr (2, [.ref (X 46), .ref (X 47), .int z9_20, .int z9_21]))]
def vs_k_L_plain_0 : List Cond := .code yL_plain cL_plain 7 (some .int) :: ([.methodLink RL 15 yX10_addPredicate, .instanceMethod yX10_addPredicate, .selects RX10 yX10_addPredicate yX10_addPredicate, .initialized RX10] ++ (vs_k_X10_addPredicate))
set_option maxRecDepth 20000 in
theorem gv_k_L_plain_0_0 : GoodIn vs_k_L_plain_0 (wsV RL 15 RX10 yX10_addPredicate vs_k_X10_addPredicate) := goodIn_app (goodIn_sub (by decide +kernel) (by decide +kernel)) (goodIn_sub (fun _ h => List.mem_cons_of_mem _ (List.mem_append_right _ (h))) (by decide +kernel))
set_option maxHeartbeats 4000000 in
set_option maxRecDepth 100000 in
theorem k_L_plain_0 (l : Launch) (hl9 : l.stackTraces = false) (D : va_G) (ty : Nat → ClassId) (td mi sz : Nat) (X : Nat → Nat) (pn : Int32) (rn : Int32) (tn : Int32) (en : Int32) (pl : Nat → Int32) (hn : Int32) (kn : Int32) (on : Int32) (cu : Int32) (pu : Int32) (gw : Int32) (an : Int32) (ch : Int32) (cg : Int32) (fb : Int32) (mh : Int32) (ml : Int32) (ih : Int32) (lb : Int32) (ic : Int32) (nn : Int32) (kp : Int32) (a1 : Int32) (a2 : Int32) (a3 : Int32) (a4 : Int32) (a5 : Int32) (TT : r_k_L_plain_0) (hTT : TT = m_k_L_plain_0 pn pl cu ic kp a1) : vx_Met l yL_plain vs_k_L_plain_0 { frames := 7, cells := 1, slots := 6, locals := 103 } (va_Pc [.ref (X 0), .int 0, .int a1, .int a2, .int a3, .int a4, .int a5] (wq_P D ty td mi (wW_k_L_plain_0 ty X pn rn tn en pl hn kn on cu pu gw an ch cg fb mh ml ih lb ic nn kp) sz)) (va_Qi (fun (r : Int32) (u : va_W) => (TT.1 = 0 ∧ r = TT.2.1 ∧ (u = (wW_k_L_plain_0 ty X TT.2.2.1 rn tn en TT.2.2.2.1 hn kn on TT.2.2.2.2.2.2 pu gw an ch cg fb mh ml ih lb TT.2.2.2.2.1 nn TT.2.2.2.2.2.1)))) (wq_B D (va_A (wW_k_L_plain_0 ty X pn rn tn en pl hn kn on cu pu gw an ch cg fb mh ml ih lb ic nn kp) sz)) (va_A (wW_k_L_plain_0 ty X pn rn tn en pl hn kn on cu pu gw an ch cg fb mh ml ih lb ic nn kp) sz)) (vx_X (fun u : String × va_W => (TT.1 = 2 ∧ u = ("java/lang/IllegalArgumentException", (wW_k_L_plain_0 ty X TT.2.2.1 rn tn en TT.2.2.2.1 hn kn on TT.2.2.2.2.2.2 pu gw an ch cg fb mh ml ih lb TT.2.2.2.2.1 nn TT.2.2.2.2.2.1))) ∨ (TT.1 = 3 ∧ u = ("java/lang/IllegalStateException", (wW_k_L_plain_0 ty X TT.2.2.1 rn tn en TT.2.2.2.1 hn kn on TT.2.2.2.2.2.2 pu gw an ch cg fb mh ml ih lb TT.2.2.2.2.1 nn TT.2.2.2.2.2.1)))) (wq_BX D (va_A (wW_k_L_plain_0 ty X pn rn tn en pl hn kn on cu pu gw an ch cg fb mh ml ih lb ic nn kp) sz)) (va_A (wW_k_L_plain_0 ty X pn rn tn en pl hn kn on cu pu gw an ch cg fb mh ml ih lb ic nn kp) sz)) 1 6 (va_A (wW_k_L_plain_0 ty X pn rn tn en pl hn kn on cu pu gw an ch cg fb mh ml ih lb ic nn kp) sz) := by
  refine vx_ofW (cc := cL_plain) (maxL := 7) (ret := (some .int)) (by decide) rfl ?_
  intro p e s m args below meth c s₁ B hml hEx hv
  obtain ⟨rfl, hsz, hP, hK, hD0, hE⟩ := hv
  have hx := B.exec
  have hb := B.bytes
  have hr := B.returns
  have hts := atoms_spec (ws := vs_k_L_plain_0) B.pre
  have hown : s.vm.findClass RL = some m.cls := findClass_of_methodNamed B.named
  have hlocks := B.notSynchronized
  subst hsz
  have hD := hD0.self (sz := s.heap.size)
  generalize hAe : va_A (wW_k_L_plain_0 ty X pn rn tn en pl hn kn on cu pu gw an ch cg fb mh ml ih lb ic nn kp) s.heap.size = A at hD hE ⊢
  have hA : ∀ q : Nat, s.heap.size ≤ q → A q := fun q h => by rw [← hAe]; exact Or.inr h
  have hS : va_S A s.heap s.heap [] := va_S.rf
  have hP : va_P D vwCl (wW_k_L_plain_0 ty X pn rn tn en pl hn kn on cu pu gw an ch cg fb mh ml ih lb ic nn kp) s.heap := hP
  have hl := lv_entry ([.ref (X 0), .int 0, .int a1, .int a2, .int a3, .int a4, .int a5]) (n := 7) (Nat.le_of_ble_eq_true rfl)
  rw [lg_entry_eq]
  generalize (lg_sl ([.ref (X 0), .int 0, .int a1, .int a2, .int a3, .int a4, .int a5]) ++ List.replicate (7 - (lg_sl ([.ref (X 0), .int 0, .int a1, .int a2, .int a3, .int a4, .int a5])).length) Slot.unset).toArray = ls at hl ⊢
  have hl : lv_has ls 7 [(0, .ref (X 0)), (1, .int 0), (2, .int a1), (3, .int a2), (4, .int a3), (5, .int a4), (6, .int a5)] := hl
  have END : ∀ (r : Int32) (w9_0 : Int32) (w9_1 : Nat → Int32) (w9_2 : Int32) (w9_3 : Int32) (w9_4 : Int32), TT = (0, r, w9_0, w9_1, w9_2, w9_3, w9_4) → ∀ (H : Heap) (locs : List Loc), va_P D vwCl (wW_k_L_plain_0 ty X w9_0 rn tn en w9_1 hn kn on w9_4 pu gw an ch cg fb mh ml ih lb w9_2 nn w9_3) H → va_D A (wW_k_L_plain_0 ty X w9_0 rn tn en w9_1 hn kn on w9_4 pu gw an ch cg fb mh ml ih lb w9_2 nn w9_3) → va_S A s.heap H locs → ∀ (ls : Array Slot) (pc : Nat), decode cL_plain pc = .ok (.ireturn, 1) → W p l e (headSpec vs_k_L_plain_0 { frames := 7, cells := 1, slots := 6, locals := 103 }).room s m ([.ref (X 0), .int 0, .int a1, .int a2, .int a3, .int a4, .int a5] : List Value).toArray below meth c H locs 1 6 (vx_MQ below (va_Qi (fun (r : Int32) (u : va_W) => (TT.1 = 0 ∧ r = TT.2.1 ∧ (u = (wW_k_L_plain_0 ty X TT.2.2.1 rn tn en TT.2.2.2.1 hn kn on TT.2.2.2.2.2.2 pu gw an ch cg fb mh ml ih lb TT.2.2.2.2.1 nn TT.2.2.2.2.2.1)))) (wq_B D A) A) (vx_X (fun u : String × va_W => (TT.1 = 2 ∧ u = ("java/lang/IllegalArgumentException", (wW_k_L_plain_0 ty X TT.2.2.1 rn tn en TT.2.2.2.1 hn kn on TT.2.2.2.2.2.2 pu gw an ch cg fb mh ml ih lb TT.2.2.2.2.1 nn TT.2.2.2.2.2.1))) ∨ (TT.1 = 3 ∧ u = ("java/lang/IllegalStateException", (wW_k_L_plain_0 ty X TT.2.2.1 rn tn en TT.2.2.2.1 hn kn on TT.2.2.2.2.2.2 pu gw an ch cg fb mh ml ih lb TT.2.2.2.2.1 nn TT.2.2.2.2.2.1)))) (wq_BX D A) A) ([.ref (X 0), .int 0, .int a1, .int a2, .int a3, .int a4, .int a5] : List Value).toArray s 1 6 A) (F0 m pc ls [.int r]) := by
    intro r w9_0 w9_1 w9_2 w9_3 w9_4 hT H locs hP hD hS ls pc hd
    have hM : TT = (0, r, w9_0, w9_1, w9_2, w9_3, w9_4) := hT
    refine vx_ret ?_
    exact W.iret (v := r) hx hb hr (fun t ht hW => ⟨⟨r, (wW_k_L_plain_0 ty X w9_0 rn tn en w9_1 hn kn on w9_4 pu gw an ch cg fb mh ml ih lb w9_2 nn w9_3), rfl, ⟨(by rw [hM]), (by rw [hM]), (by rw [hM])⟩, wq_B.of ht hP hD⟩, hS.F ht⟩) hS.2.2 hd
  have hT := hTT
  rw [m_k_L_plain_0] at hT
  refine lv_iload_n hx hb dL_plain_0 rfl (lv_at hl 1 rfl) ?_
  refine lv_tableIn (off := 67) (tgt := 68) hx hb dL_plain_1 (by decide) (by decide) rfl (by decide) ?_
  refine lv_aload_n hx hb dL_plain_68 rfl (lv_at hl 0 rfl) ?_
  refine lv_iload_n hx hb dL_plain_69 rfl (lv_at hl 2 rfl) ?_
  obtain ⟨t_70, ht_70⟩ : ∃ t, t = m_k_X10_addPredicate pn pl cu ic kp a1 := ⟨_, rfl⟩
  rw [lE_eq ht_70] at hT
  refine wq_xiW (wc := (wW_k_X10_addPredicate ty X pn rn tn en pl hn kn on cu pu gw an ch cg fb mh ml ih lb ic nn kp)) (vx_runV (As := [.int a1]) (rest := []) ⟨hx, hb, hml, hown, hts⟩ (k_X10_addPredicate l hl9 D ty td mi s.heap.size X pn rn tn en pl hn kn on cu pu gw an ch cg fb mh ml ih lb ic nn kp a1 t_70 ht_70) (cwV 1 hts gv_k_L_plain_0_0 rfl rfl rfl (by decide +kernel) ⟨(Nat.le_of_ble_eq_true rfl), (Nat.le_of_ble_eq_true rfl)⟩) (wm_V (wm_preS hP hD hK hE hS hA [true, true, true, true, true, true] rfl) (va_recv (q0 := 0) (ci := 12) hK hP rfl rfl)) rfl rfl hl.1 rfl (lv_room (Nat.le_of_ble_eq_true rfl)) dL_plain_70 ⟨(Nat.le_of_ble_eq_true rfl), (Nat.le_of_ble_eq_true rfl)⟩) hS hA hP hD [true, true, true, true, true, true] rfl (fun _ _ h => by rcases h with ⟨-, -, rfl⟩; rfl) (fun _ _ h => by rcases h with ⟨-, h⟩ | ⟨-, h⟩ <;> (cases h; rfl)) (fun E9 u H locs q9 ce hw hP hD hS hce hcv hcl => ?_) (fun r u H locs hw hP hD hS => ?_)
  · rcases hw with ⟨c_1, hEq⟩ | ⟨c_2, hEq⟩
    · cases hEq
      rw [if_neg (show ¬ t_70.1 = 0 by rw [c_1]; decide)] at hT
      rw [if_pos c_1] at hT
      have hP : va_P D vwCl (wW_k_L_plain_0 ty X t_70.2.2.1 rn tn en t_70.2.2.2.1 hn kn on t_70.2.2.2.2.2.2 pu gw an ch cg fb mh ml ih lb t_70.2.2.2.2.1 nn t_70.2.2.2.2.2.1) H := hP
      have hD : va_D A (wW_k_L_plain_0 ty X t_70.2.2.1 rn tn en t_70.2.2.2.1 hn kn on t_70.2.2.2.2.2.2 pu gw an ch cg fb mh ml ih lb t_70.2.2.2.2.1 nn t_70.2.2.2.2.2.1) := hD
      refine vx_widen (k := 1) (n := 6) (Nat.le_of_ble_eq_true rfl) (Nat.le_of_ble_eq_true rfl) ?_
      exact vx_out (E := "java/lang/IllegalArgumentException") (fun x hx => (hEx x hx).elim) hlocks hce hcv hcl (fun t ht ha => wq_thrW0 (W := (wW_k_L_plain_0 ty X t_70.2.2.1 rn tn en t_70.2.2.2.1 hn kn on t_70.2.2.2.2.2.2 pu gw an ch cg fb mh ml ih lb t_70.2.2.2.2.1 nn t_70.2.2.2.2.2.1)) hS hP hD (by exact (Or.inl ⟨(by rw [hT]), (by first | rw [hT] | rfl)⟩)) ht) hS.2.2 (Nat.le_refl _) (Nat.le_refl _)
    · cases hEq
      rw [if_neg (show ¬ t_70.1 = 0 by rw [c_2]; decide)] at hT
      rw [if_neg (show ¬ t_70.1 = 2 by rw [c_2]; decide)] at hT
      have hP : va_P D vwCl (wW_k_L_plain_0 ty X t_70.2.2.1 rn tn en t_70.2.2.2.1 hn kn on t_70.2.2.2.2.2.2 pu gw an ch cg fb mh ml ih lb t_70.2.2.2.2.1 nn t_70.2.2.2.2.2.1) H := hP
      have hD : va_D A (wW_k_L_plain_0 ty X t_70.2.2.1 rn tn en t_70.2.2.2.1 hn kn on t_70.2.2.2.2.2.2 pu gw an ch cg fb mh ml ih lb t_70.2.2.2.2.1 nn t_70.2.2.2.2.2.1) := hD
      refine vx_widen (k := 1) (n := 6) (Nat.le_of_ble_eq_true rfl) (Nat.le_of_ble_eq_true rfl) ?_
      exact vx_out (E := "java/lang/IllegalStateException") (fun x hx => (hEx x hx).elim) hlocks hce hcv hcl (fun t ht ha => wq_thrW0 (W := (wW_k_L_plain_0 ty X t_70.2.2.1 rn tn en t_70.2.2.2.1 hn kn on t_70.2.2.2.2.2.2 pu gw an ch cg fb mh ml ih lb t_70.2.2.2.2.1 nn t_70.2.2.2.2.2.1)) hS hP hD (by exact (Or.inr ⟨(by rw [hT]), (by first | rw [hT] | rfl)⟩)) ht) hS.2.2 (Nat.le_refl _) (Nat.le_refl _)
  · obtain ⟨c_3, rfl, rfl⟩ := hw
    rw [if_pos c_3] at hT
    have hP : va_P D vwCl (wW_k_L_plain_0 ty X t_70.2.2.1 rn tn en t_70.2.2.2.1 hn kn on t_70.2.2.2.2.2.2 pu gw an ch cg fb mh ml ih lb t_70.2.2.2.2.1 nn t_70.2.2.2.2.2.1) H := hP
    have hD : va_D A (wW_k_L_plain_0 ty X t_70.2.2.1 rn tn en t_70.2.2.2.1 hn kn on t_70.2.2.2.2.2.2 pu gw an ch cg fb mh ml ih lb t_70.2.2.2.2.1 nn t_70.2.2.2.2.2.1) := hD
    refine W.widen (k := 1) (n := 6) (Nat.le_of_ble_eq_true rfl) (Nat.le_of_ble_eq_true rfl) ?_
    exact END t_70.2.1 t_70.2.2.1 t_70.2.2.2.1 t_70.2.2.2.2.1 t_70.2.2.2.2.2.1 t_70.2.2.2.2.2.2 hT _ _ hP hD hS _ _ dL_plain_73
theorem dL_deed_0 : decode cL_deed 0 = .ok (.aload_n 0, 1) := by decide +kernel
theorem dL_deed_1 : decode cL_deed 1 = .ok (.iload_n 1, 1) := by decide +kernel
theorem dL_deed_2 : decode cL_deed 2 = .ok (.iload_n 2, 1) := by decide +kernel
theorem dL_deed_3 : decode cL_deed 3 = .ok (.iload_n 3, 1) := by decide +kernel
theorem dL_deed_4 : decode cL_deed 4 = .ok (.iload 4, 2) := by decide +kernel
theorem dL_deed_6 : decode cL_deed 6 = .ok (.iload 5, 2) := by decide +kernel
theorem dL_deed_8 : decode cL_deed 8 = .ok (.iload 6, 2) := by decide +kernel
theorem dL_deed_10 : decode cL_deed 10 = .ok (.invokestatic 68, 3) := by decide +kernel
theorem dL_deed_13 : decode cL_deed 13 = .ok (.ireturn, 1) := by decide +kernel
theorem dL_deed_14 : decode cL_deed 14 = .ok (.astore 7, 2) := by decide +kernel
theorem dL_deed_16 : decode cL_deed 16 = .ok (.sipush (-2001), 3) := by decide +kernel
theorem dL_deed_19 : decode cL_deed 19 = .ok (.ireturn, 1) := by decide +kernel
theorem dL_deed_20 : decode cL_deed 20 = .ok (.astore 7, 2) := by decide +kernel
theorem dL_deed_22 : decode cL_deed 22 = .ok (.sipush (-2002), 3) := by decide +kernel
theorem dL_deed_25 : decode cL_deed 25 = .ok (.ireturn, 1) := by decide +kernel
theorem dL_deed_26 : decode cL_deed 26 = .ok (.astore 7, 2) := by decide +kernel
theorem dL_deed_28 : decode cL_deed 28 = .ok (.sipush (-2003), 3) := by decide +kernel
theorem dL_deed_31 : decode cL_deed 31 = .ok (.ireturn, 1) := by decide +kernel
theorem dL_deed_32 : decode cL_deed 32 = .ok (.astore 7, 2) := by decide +kernel
theorem dL_deed_34 : decode cL_deed 34 = .ok (.sipush (-2004), 3) := by decide +kernel
theorem dL_deed_37 : decode cL_deed 37 = .ok (.ireturn, 1) := by decide +kernel
def wW_k_L_deed_0 (ty : Nat → ClassId) (X : Nat → Nat) (z9_0 : Int32) (z9_1 : Int32) (z9_2 : Int32) (z9_3 : Int32) (z9_4 : Nat → Int32) (z9_5 : Int32) (z9_6 : Int32) (z9_7 : Int32) (z9_8 : Int32) (z9_9 : Int32) (z9_10 : Int32) (z9_11 : Int32) (z9_12 : Int32) (z9_13 : Int32) (z9_14 : Int32) (z9_15 : Int32) (z9_16 : Int32) (z9_17 : Int32) (z9_18 : Int32) (z9_19 : Int32) (z9_20 : Int32) (z9_21 : Int32) : va_W := [((X 0), .inr (12, [.ref (X 1), .ref (X 8), .ref (X 20), .ref (X 39), .ref (X 41), .ref (X 43), .ref (X 45)])), ((X 1), .inr (8, [.ref (X 2), .int z9_0, .ref (X 3), .int z9_1, .ref (X 4), .ref (X 5), .int z9_2, .ref (X 6), .ref (X 7), .int z9_3])), ((X 2), .inl (ty 0, 6, .inl z9_4)), ((X 8), .inr (5, [.ref (X 1), .ref (X 9), .ref (X 10), .ref (X 12), .ref (X 14), .int z9_5, .ref (X 15), .ref (X 16), .ref (X 17), .int z9_6, .ref (X 18), .ref (X 19), .int z9_7, .int z9_8, .int z9_9, .int z9_10])), ((X 20), .inr (11, [.ref (X 1), .ref (X 8), .ref (X 21), .ref (X 28), .ref (X 35), .int z9_11, .ref (X 36), .ref (X 37), .ref (X 38), .int z9_12, .int z9_13, .int z9_14, .int z9_15, .int z9_16, .int z9_17, .int z9_18, .int z9_19])), ((X 45), .inr (2, [.ref (X 46), .ref (X 47), .int z9_20, .int z9_21]))]
def vs_k_L_deed_0 : List Cond := .codeWith yL_deed cL_deed 8 (some .int) [(0, 13, 14, 72), (0, 13, 20, 74), (0, 13, 26, 76), (0, 13, 32, 78)] :: ([.methodLink RL 68 yL_plain, .static yL_plain, .initialized RL, .classLink RL 72 "java/lang/IndexOutOfBoundsException", .classLink RL 74 "java/lang/IllegalArgumentException", .classLink RL 76 "java/lang/IllegalStateException"] ++ (vs_k_L_plain_0))
set_option maxRecDepth 20000 in
theorem gv_k_L_deed_0_0 : GoodIn vs_k_L_deed_0 (va_wsS RL 68 yL_plain vs_k_L_plain_0) := goodIn_app (goodIn_sub (by decide +kernel) (by decide +kernel)) (goodIn_sub (fun _ h => List.mem_cons_of_mem _ (List.mem_append_right _ (h))) (by decide +kernel))
set_option maxHeartbeats 4000000 in
set_option maxRecDepth 100000 in
theorem k_L_deed_0 (l : Launch) (hl9 : l.stackTraces = false) (D : va_G) (ty : Nat → ClassId) (td mi sz : Nat) (X : Nat → Nat) (pn : Int32) (rn : Int32) (tn : Int32) (en : Int32) (pl : Nat → Int32) (hn : Int32) (kn : Int32) (on : Int32) (cu : Int32) (pu : Int32) (gw : Int32) (an : Int32) (ch : Int32) (cg : Int32) (fb : Int32) (mh : Int32) (ml : Int32) (ih : Int32) (lb : Int32) (ic : Int32) (nn : Int32) (kp : Int32) (a1 : Int32) (a2 : Int32) (a3 : Int32) (a4 : Int32) (a5 : Int32) (TT : r_k_L_deed_0) (hTT : TT = m_k_L_deed_0 pn pl cu ic kp a1) : vx_Met l yL_deed vs_k_L_deed_0 { frames := 8, cells := 1, slots := 6, locals := 129 } (va_Pc [.ref (X 0), .int 0, .int a1, .int a2, .int a3, .int a4, .int a5] (wq_P D ty td mi (wW_k_L_deed_0 ty X pn rn tn en pl hn kn on cu pu gw an ch cg fb mh ml ih lb ic nn kp) sz)) (va_Qi (fun (r : Int32) (u : va_W) => (r = TT.1 ∧ (u = (wW_k_L_deed_0 ty X TT.2.1 rn tn en TT.2.2.1 hn kn on TT.2.2.2.2.2 pu gw an ch cg fb mh ml ih lb TT.2.2.2.1 nn TT.2.2.2.2.1)))) (wq_B D (va_A (wW_k_L_deed_0 ty X pn rn tn en pl hn kn on cu pu gw an ch cg fb mh ml ih lb ic nn kp) sz)) (va_A (wW_k_L_deed_0 ty X pn rn tn en pl hn kn on cu pu gw an ch cg fb mh ml ih lb ic nn kp) sz)) (vx_X (fun u : String × va_W => False) (wq_BX D (va_A (wW_k_L_deed_0 ty X pn rn tn en pl hn kn on cu pu gw an ch cg fb mh ml ih lb ic nn kp) sz)) (va_A (wW_k_L_deed_0 ty X pn rn tn en pl hn kn on cu pu gw an ch cg fb mh ml ih lb ic nn kp) sz)) 1 6 (va_A (wW_k_L_deed_0 ty X pn rn tn en pl hn kn on cu pu gw an ch cg fb mh ml ih lb ic nn kp) sz) := by
  refine vx_ofWH (cc := cL_deed) (maxL := 8) (ret := (some .int)) (hh := [(0, 13, 14, 72), (0, 13, 20, 74), (0, 13, 26, 76), (0, 13, 32, 78)]) (by decide) rfl ?_
  intro p e s m args below meth c s₁ B hml hv
  obtain ⟨rfl, hsz, hP, hK, hD0, hE⟩ := hv
  have hx := B.exec
  have hb := B.bytes
  have hr := B.returns
  have hts := atoms_spec (ws := vs_k_L_deed_0) B.pre
  have hown : s.vm.findClass RL = some m.cls := findClass_of_methodNamed B.named
  have hlocks := B.notSynchronized
  have hTab := vx_table (x := yL_deed) B (hts _ List.mem_cons_self)
  subst hsz
  have hD := hD0.self (sz := s.heap.size)
  generalize hAe : va_A (wW_k_L_deed_0 ty X pn rn tn en pl hn kn on cu pu gw an ch cg fb mh ml ih lb ic nn kp) s.heap.size = A at hD hE ⊢
  have hA : ∀ q : Nat, s.heap.size ≤ q → A q := fun q h => by rw [← hAe]; exact Or.inr h
  have hS : va_S A s.heap s.heap [] := va_S.rf
  have hP : va_P D vwCl (wW_k_L_deed_0 ty X pn rn tn en pl hn kn on cu pu gw an ch cg fb mh ml ih lb ic nn kp) s.heap := hP
  have hl := lv_entry ([.ref (X 0), .int 0, .int a1, .int a2, .int a3, .int a4, .int a5]) (n := 8) (Nat.le_of_ble_eq_true rfl)
  rw [lg_entry_eq]
  generalize (lg_sl ([.ref (X 0), .int 0, .int a1, .int a2, .int a3, .int a4, .int a5]) ++ List.replicate (8 - (lg_sl ([.ref (X 0), .int 0, .int a1, .int a2, .int a3, .int a4, .int a5])).length) Slot.unset).toArray = ls at hl ⊢
  have hl : lv_has ls 8 [(0, .ref (X 0)), (1, .int 0), (2, .int a1), (3, .int a2), (4, .int a3), (5, .int a4), (6, .int a5)] := hl
  have END : ∀ (r : Int32) (w9_0 : Int32) (w9_1 : Nat → Int32) (w9_2 : Int32) (w9_3 : Int32) (w9_4 : Int32), TT = (r, w9_0, w9_1, w9_2, w9_3, w9_4) → ∀ (H : Heap) (locs : List Loc), va_P D vwCl (wW_k_L_deed_0 ty X w9_0 rn tn en w9_1 hn kn on w9_4 pu gw an ch cg fb mh ml ih lb w9_2 nn w9_3) H → va_D A (wW_k_L_deed_0 ty X w9_0 rn tn en w9_1 hn kn on w9_4 pu gw an ch cg fb mh ml ih lb w9_2 nn w9_3) → va_S A s.heap H locs → ∀ (ls : Array Slot) (pc : Nat), decode cL_deed pc = .ok (.ireturn, 1) → W p l e (headSpec vs_k_L_deed_0 { frames := 8, cells := 1, slots := 6, locals := 129 }).room s m ([.ref (X 0), .int 0, .int a1, .int a2, .int a3, .int a4, .int a5] : List Value).toArray below meth c H locs 1 6 (vx_MQ below (va_Qi (fun (r : Int32) (u : va_W) => (r = TT.1 ∧ (u = (wW_k_L_deed_0 ty X TT.2.1 rn tn en TT.2.2.1 hn kn on TT.2.2.2.2.2 pu gw an ch cg fb mh ml ih lb TT.2.2.2.1 nn TT.2.2.2.2.1)))) (wq_B D A) A) (vx_X (fun u : String × va_W => False) (wq_BX D A) A) ([.ref (X 0), .int 0, .int a1, .int a2, .int a3, .int a4, .int a5] : List Value).toArray s 1 6 A) (F0 m pc ls [.int r]) := by
    intro r w9_0 w9_1 w9_2 w9_3 w9_4 hT H locs hP hD hS ls pc hd
    have hM : TT = (r, w9_0, w9_1, w9_2, w9_3, w9_4) := hT
    refine vx_ret ?_
    exact W.iret (v := r) hx hb hr (fun t ht hW => ⟨⟨r, (wW_k_L_deed_0 ty X w9_0 rn tn en w9_1 hn kn on w9_4 pu gw an ch cg fb mh ml ih lb w9_2 nn w9_3), rfl, ⟨(by rw [hM]), (by rw [hM])⟩, wq_B.of ht hP hD⟩, hS.F ht⟩) hS.2.2 hd
  have hT := hTT
  rw [m_k_L_deed_0] at hT
  refine lv_aload_n hx hb dL_deed_0 rfl (lv_at hl 0 rfl) ?_
  refine lv_iload_n hx hb dL_deed_1 rfl (lv_at hl 1 rfl) ?_
  refine lv_iload_n hx hb dL_deed_2 rfl (lv_at hl 2 rfl) ?_
  refine lv_iload_n hx hb dL_deed_3 rfl (lv_at hl 3 rfl) ?_
  refine lv_iload hx hb dL_deed_4 (lv_at hl 4 rfl) ?_
  refine lv_iload hx hb dL_deed_6 (lv_at hl 5 rfl) ?_
  refine lv_iload hx hb dL_deed_8 (lv_at hl 6 rfl) ?_
  obtain ⟨t_10, ht_10⟩ : ∃ t, t = m_k_L_plain_0 pn pl cu ic kp a1 := ⟨_, rfl⟩
  rw [lE_eq ht_10] at hT
  refine wq_xiW (wc := (wW_k_L_plain_0 ty X pn rn tn en pl hn kn on cu pu gw an ch cg fb mh ml ih lb ic nn kp)) (vx_runS (As := [.ref (X 0), .int 0, .int a1, .int a2, .int a3, .int a4, .int a5]) (rest := []) ⟨hx, hb, hml, hown, hts⟩ (k_L_plain_0 l hl9 D ty td mi s.heap.size X pn rn tn en pl hn kn on cu pu gw an ch cg fb mh ml ih lb ic nn kp a1 a2 a3 a4 a5 t_10 ht_10) (va_cwS 7 hts gv_k_L_deed_0_0 rfl rfl rfl (by decide +kernel) ⟨(Nat.le_of_ble_eq_true rfl), (Nat.le_of_ble_eq_true rfl)⟩) (wm_preS hP hD hK hE hS hA [true, true, true, true, true, true] rfl) rfl rfl hl.1 rfl (lv_room (Nat.le_of_ble_eq_true rfl)) dL_deed_10 ⟨(Nat.le_of_ble_eq_true rfl), (Nat.le_of_ble_eq_true rfl)⟩) hS hA hP hD [true, true, true, true, true, true] rfl (fun _ _ h => by rcases h with ⟨-, -, rfl⟩; rfl) (fun _ _ h => by rcases h with ⟨-, h⟩ | ⟨-, h⟩ <;> (cases h; rfl)) (fun E9 u H locs q9 ce hw hP hD hS hce hcv hcl => ?_) (fun r u H locs hw hP hD hS => ?_)
  · rcases hw with ⟨c_1, hEq⟩ | ⟨c_2, hEq⟩
    · cases hEq
      rw [if_neg (show ¬ t_10.1 = 0 by rw [c_1]; decide)] at hT
      rw [if_pos c_1] at hT
      have hP : va_P D vwCl (wW_k_L_deed_0 ty X t_10.2.2.1 rn tn en t_10.2.2.2.1 hn kn on t_10.2.2.2.2.2.2 pu gw an ch cg fb mh ml ih lb t_10.2.2.2.2.1 nn t_10.2.2.2.2.2.1) H := hP
      have hD : va_D A (wW_k_L_deed_0 ty X t_10.2.2.1 rn tn en t_10.2.2.2.1 hn kn on t_10.2.2.2.2.2.2 pu gw an ch cg fb mh ml ih lb t_10.2.2.2.2.1 nn t_10.2.2.2.2.2.1) := hD
      refine vx_widen (k := 1) (n := 6) (Nat.le_of_ble_eq_true rfl) (Nat.le_of_ble_eq_true rfl) ?_
      refine vx_catch (own := RL) (name := "java/lang/IllegalArgumentException") (E := "java/lang/IllegalArgumentException") hown [⟨0, 13, 14, 72⟩] ⟨0, 13, 20, 74⟩ [⟨0, 13, 26, 76⟩, ⟨0, 13, 32, 78⟩] (by rw [hTab]; rfl) (by
          intro z hz
          rcases List.mem_cons.mp hz with rfl | hz
          · exact Or.inr ⟨by decide, "java/lang/IndexOutOfBoundsException", (hts (.classLink RL 72 "java/lang/IndexOutOfBoundsException") (by decide +kernel)), hE.nc "java/lang/IllegalArgumentException" "java/lang/IndexOutOfBoundsException" (by decide +kernel)⟩
          cases hz) (by decide) (by decide) (hts (.classLink RL 74 "java/lang/IllegalArgumentException") (by decide +kernel)) (va_Nw.use rfl (hE.ca "java/lang/IllegalArgumentException" "java/lang/IllegalArgumentException" (by decide +kernel))) hce hcv hcl ?_
      refine lv_astore (lv' := [(7, .ref q9), (0, .ref (X 0)), (1, .int 0), (2, .int a1), (3, .int a2), (4, .int a3), (5, .int a4), (6, .int a5)]) hx hb dL_deed_20 hl (by decide) rfl (fun ls hl => ?_)
      refine lv_sipush (v := (-2002)) hx hb dL_deed_22 (by decide) ?_
      exact END (-2002) t_10.2.2.1 t_10.2.2.2.1 t_10.2.2.2.2.1 t_10.2.2.2.2.2.1 t_10.2.2.2.2.2.2 hT _ _ hP hD hS _ _ dL_deed_25
    · cases hEq
      rw [if_neg (show ¬ t_10.1 = 0 by rw [c_2]; decide)] at hT
      rw [if_neg (show ¬ t_10.1 = 2 by rw [c_2]; decide)] at hT
      have hP : va_P D vwCl (wW_k_L_deed_0 ty X t_10.2.2.1 rn tn en t_10.2.2.2.1 hn kn on t_10.2.2.2.2.2.2 pu gw an ch cg fb mh ml ih lb t_10.2.2.2.2.1 nn t_10.2.2.2.2.2.1) H := hP
      have hD : va_D A (wW_k_L_deed_0 ty X t_10.2.2.1 rn tn en t_10.2.2.2.1 hn kn on t_10.2.2.2.2.2.2 pu gw an ch cg fb mh ml ih lb t_10.2.2.2.2.1 nn t_10.2.2.2.2.2.1) := hD
      refine vx_widen (k := 1) (n := 6) (Nat.le_of_ble_eq_true rfl) (Nat.le_of_ble_eq_true rfl) ?_
      refine vx_catch (own := RL) (name := "java/lang/IllegalStateException") (E := "java/lang/IllegalStateException") hown [⟨0, 13, 14, 72⟩, ⟨0, 13, 20, 74⟩] ⟨0, 13, 26, 76⟩ [⟨0, 13, 32, 78⟩] (by rw [hTab]; rfl) (by
          intro z hz
          rcases List.mem_cons.mp hz with rfl | hz
          · exact Or.inr ⟨by decide, "java/lang/IndexOutOfBoundsException", (hts (.classLink RL 72 "java/lang/IndexOutOfBoundsException") (by decide +kernel)), hE.nc "java/lang/IllegalStateException" "java/lang/IndexOutOfBoundsException" (by decide +kernel)⟩
          rcases List.mem_cons.mp hz with rfl | hz
          · exact Or.inr ⟨by decide, "java/lang/IllegalArgumentException", (hts (.classLink RL 74 "java/lang/IllegalArgumentException") (by decide +kernel)), hE.nc "java/lang/IllegalStateException" "java/lang/IllegalArgumentException" (by decide +kernel)⟩
          cases hz) (by decide) (by decide) (hts (.classLink RL 76 "java/lang/IllegalStateException") (by decide +kernel)) (va_Nw.use rfl (hE.ca "java/lang/IllegalStateException" "java/lang/IllegalStateException" (by decide +kernel))) hce hcv hcl ?_
      refine lv_astore (lv' := [(7, .ref q9), (0, .ref (X 0)), (1, .int 0), (2, .int a1), (3, .int a2), (4, .int a3), (5, .int a4), (6, .int a5)]) hx hb dL_deed_26 hl (by decide) rfl (fun ls hl => ?_)
      refine lv_sipush (v := (-2003)) hx hb dL_deed_28 (by decide) ?_
      exact END (-2003) t_10.2.2.1 t_10.2.2.2.1 t_10.2.2.2.2.1 t_10.2.2.2.2.2.1 t_10.2.2.2.2.2.2 hT _ _ hP hD hS _ _ dL_deed_31
  · obtain ⟨c_3, rfl, rfl⟩ := hw
    rw [if_pos c_3] at hT
    have hP : va_P D vwCl (wW_k_L_deed_0 ty X t_10.2.2.1 rn tn en t_10.2.2.2.1 hn kn on t_10.2.2.2.2.2.2 pu gw an ch cg fb mh ml ih lb t_10.2.2.2.2.1 nn t_10.2.2.2.2.2.1) H := hP
    have hD : va_D A (wW_k_L_deed_0 ty X t_10.2.2.1 rn tn en t_10.2.2.2.1 hn kn on t_10.2.2.2.2.2.2 pu gw an ch cg fb mh ml ih lb t_10.2.2.2.2.1 nn t_10.2.2.2.2.2.1) := hD
    refine W.widen (k := 1) (n := 6) (Nat.le_of_ble_eq_true rfl) (Nat.le_of_ble_eq_true rfl) ?_
    exact END t_10.2.1 t_10.2.2.1 t_10.2.2.2.1 t_10.2.2.2.2.1 t_10.2.2.2.2.2.1 t_10.2.2.2.2.2.2 hT _ _ hP hD hS _ _ dL_deed_13
def wW_k_L_plain_1 (ty : Nat → ClassId) (X : Nat → Nat) (z9_0 : Int32) (z9_1 : Int32) (z9_2 : Int32) (z9_3 : Int32) (z9_4 : Nat → Option Nat) (z9_5 : Int32) (z9_6 : Int32) (z9_7 : Int32) (z9_8 : Int32) (z9_9 : Int32) (z9_10 : Int32) (z9_11 : Int32) (z9_12 : Int32) (z9_13 : Int32) (z9_14 : Int32) (z9_15 : Int32) (z9_16 : Int32) (z9_17 : Int32) (z9_18 : Int32) (z9_19 : Int32) (z9_20 : Int32) (z9_21 : Int32) : va_W := [((X 0), .inr (12, [.ref (X 1), .ref (X 8), .ref (X 20), .ref (X 39), .ref (X 41), .ref (X 43), .ref (X 45)])), ((X 1), .inr (8, [.ref (X 2), .int z9_0, .ref (X 3), .int z9_1, .ref (X 4), .ref (X 5), .int z9_2, .ref (X 6), .ref (X 7), .int z9_3])), ((X 3), .inl (ty 4, 20, .inr (.inr (.inr (.inr z9_4))))), ((X 8), .inr (5, [.ref (X 1), .ref (X 9), .ref (X 10), .ref (X 12), .ref (X 14), .int z9_5, .ref (X 15), .ref (X 16), .ref (X 17), .int z9_6, .ref (X 18), .ref (X 19), .int z9_7, .int z9_8, .int z9_9, .int z9_10])), ((X 20), .inr (11, [.ref (X 1), .ref (X 8), .ref (X 21), .ref (X 28), .ref (X 35), .int z9_11, .ref (X 36), .ref (X 37), .ref (X 38), .int z9_12, .int z9_13, .int z9_14, .int z9_15, .int z9_16, .int z9_17, .int z9_18, .int z9_19])), ((X 45), .inr (2, [.ref (X 46), .ref (X 47), .int z9_20, .int z9_21]))]
def vs_k_L_plain_1 : List Cond := .code yL_plain cL_plain 7 (some .int) :: ([.methodLink RL 21 yX10_addDisjunction, .instanceMethod yX10_addDisjunction, .selects RX10 yX10_addDisjunction yX10_addDisjunction, .initialized RX10] ++ (vs_k_X10_addDisjunction))
set_option maxRecDepth 20000 in
theorem gv_k_L_plain_1_0 : GoodIn vs_k_L_plain_1 (wsV RL 21 RX10 yX10_addDisjunction vs_k_X10_addDisjunction) := goodIn_app (goodIn_sub (by decide +kernel) (by decide +kernel)) (goodIn_sub (fun _ h => List.mem_cons_of_mem _ (List.mem_append_right _ (h))) (by decide +kernel))
set_option maxHeartbeats 4000000 in
set_option maxRecDepth 100000 in
theorem k_L_plain_1 (l : Launch) (hl9 : l.stackTraces = false) (D : va_G) (ty : Nat → ClassId) (td mi sz : Nat) (X : Nat → Nat) (pn : Int32) (rn : Int32) (tn : Int32) (en : Int32) (rf : Nat → Option Nat) (hn : Int32) (kn : Int32) (on : Int32) (cu : Int32) (pu : Int32) (gw : Int32) (an : Int32) (ch : Int32) (cg : Int32) (fb : Int32) (mh : Int32) (ml : Int32) (ih : Int32) (lb : Int32) (ic : Int32) (nn : Int32) (kp : Int32) (a1 : Int32) (a2 : Int32) (a3 : Int32) (a4 : Int32) (a5 : Int32) (TT : r_k_L_plain_1) (hTT : TT = m_k_L_plain_1 rn cu ic kp a1) : vx_Met l yL_plain vs_k_L_plain_1 { frames := 8, cells := 5, slots := 30, locals := 124 } (va_Pc [.ref (X 0), .int 1, .int a1, .int a2, .int a3, .int a4, .int a5] (wq_P D ty td mi (wW_k_L_plain_1 ty X pn rn tn en rf hn kn on cu pu gw an ch cg fb mh ml ih lb ic nn kp) sz)) (va_Qi (fun (r : Int32) (u : va_W) => (∃ (q_76_1 : Nat) (q_76_2 : Nat) (q_76_3 : Nat), TT.1 = 0 ∧ TT.2.1 = 0 ∧ r = TT.2.2.1 ∧ (u = ((wW_k_L_plain_1 ty X pn TT.2.2.2.2.2.2.2.2.2.2.2.2.1 tn en rf hn kn on TT.2.2.2.2.2.2.2.2.2.2.2.2.2.2.2 pu gw an ch cg fb mh ml ih lb TT.2.2.2.2.2.2.2.2.2.2.2.2.2.1 nn TT.2.2.2.2.2.2.2.2.2.2.2.2.2.2.1) ++ [(q_76_1, .inr (10, [.int TT.2.2.2.1, .int TT.2.2.2.2.1, .int TT.2.2.2.2.2.2.1, .int TT.2.2.2.2.2.2.2.1, .int TT.2.2.2.2.2.2.2.2.1, .int TT.2.2.2.2.2.2.2.2.2.1, .int TT.2.2.2.2.2.2.2.2.2.2.1, .ref q_76_2, .int TT.2.2.2.2.2.2.2.2.2.2.2.1, .ref q_76_3, .int TT.2.2.2.2.2.1])), (q_76_2, .inl (ty 5, 2, .inr (.inr (.inr (.inr (fun _ => none)))))), (q_76_3, .inl (ty 5, 5, .inr (.inr (.inr (.inr (fun _ => none))))))]))) ∨ (∃ (q_76_1 : Nat) (q_76_2 : Nat) (q_76_3 : Nat), TT.1 = 0 ∧ TT.2.1 = 1 ∧ r = TT.2.2.1 ∧ (u = ((wW_k_L_plain_1 ty X pn TT.2.2.2.2.2.2.2.2.2.2.2.2.1 tn en (va_up rf rn.toNatClampNeg (some q_76_1)) hn kn on TT.2.2.2.2.2.2.2.2.2.2.2.2.2.2.2 pu gw an ch cg fb mh ml ih lb TT.2.2.2.2.2.2.2.2.2.2.2.2.2.1 nn TT.2.2.2.2.2.2.2.2.2.2.2.2.2.2.1) ++ [(q_76_1, .inr (10, [.int TT.2.2.2.1, .int TT.2.2.2.2.1, .int TT.2.2.2.2.2.2.1, .int TT.2.2.2.2.2.2.2.1, .int TT.2.2.2.2.2.2.2.2.1, .int TT.2.2.2.2.2.2.2.2.2.1, .int TT.2.2.2.2.2.2.2.2.2.2.1, .ref q_76_2, .int TT.2.2.2.2.2.2.2.2.2.2.2.1, .ref q_76_3, .int TT.2.2.2.2.2.1])), (q_76_2, .inl (ty 5, 2, .inr (.inr (.inr (.inr (fun _ => none)))))), (q_76_3, .inl (ty 5, 5, .inr (.inr (.inr (.inr (fun _ => none))))))])))) (wq_B D (va_A (wW_k_L_plain_1 ty X pn rn tn en rf hn kn on cu pu gw an ch cg fb mh ml ih lb ic nn kp) sz)) (va_A (wW_k_L_plain_1 ty X pn rn tn en rf hn kn on cu pu gw an ch cg fb mh ml ih lb ic nn kp) sz)) (vx_X (fun u : String × va_W => (TT.1 = 2 ∧ u = ("java/lang/IllegalArgumentException", (wW_k_L_plain_1 ty X pn TT.2.2.2.2.2.2.2.2.2.2.2.2.1 tn en rf hn kn on TT.2.2.2.2.2.2.2.2.2.2.2.2.2.2.2 pu gw an ch cg fb mh ml ih lb TT.2.2.2.2.2.2.2.2.2.2.2.2.2.1 nn TT.2.2.2.2.2.2.2.2.2.2.2.2.2.2.1))) ∨ (TT.1 = 3 ∧ u = ("java/lang/IllegalStateException", (wW_k_L_plain_1 ty X pn TT.2.2.2.2.2.2.2.2.2.2.2.2.1 tn en rf hn kn on TT.2.2.2.2.2.2.2.2.2.2.2.2.2.2.2 pu gw an ch cg fb mh ml ih lb TT.2.2.2.2.2.2.2.2.2.2.2.2.2.1 nn TT.2.2.2.2.2.2.2.2.2.2.2.2.2.2.1)))) (wq_BX D (va_A (wW_k_L_plain_1 ty X pn rn tn en rf hn kn on cu pu gw an ch cg fb mh ml ih lb ic nn kp) sz)) (va_A (wW_k_L_plain_1 ty X pn rn tn en rf hn kn on cu pu gw an ch cg fb mh ml ih lb ic nn kp) sz)) 5 30 (va_A (wW_k_L_plain_1 ty X pn rn tn en rf hn kn on cu pu gw an ch cg fb mh ml ih lb ic nn kp) sz) := by
  refine vx_ofW (cc := cL_plain) (maxL := 7) (ret := (some .int)) (by decide) rfl ?_
  intro p e s m args below meth c s₁ B hml hEx hv
  obtain ⟨rfl, hsz, hP, hK, hD0, hE⟩ := hv
  have hx := B.exec
  have hb := B.bytes
  have hr := B.returns
  have hts := atoms_spec (ws := vs_k_L_plain_1) B.pre
  have hown : s.vm.findClass RL = some m.cls := findClass_of_methodNamed B.named
  have hlocks := B.notSynchronized
  subst hsz
  have hD := hD0.self (sz := s.heap.size)
  generalize hAe : va_A (wW_k_L_plain_1 ty X pn rn tn en rf hn kn on cu pu gw an ch cg fb mh ml ih lb ic nn kp) s.heap.size = A at hD hE ⊢
  have hA : ∀ q : Nat, s.heap.size ≤ q → A q := fun q h => by rw [← hAe]; exact Or.inr h
  have hS : va_S A s.heap s.heap [] := va_S.rf
  have hP : va_P D vwCl (wW_k_L_plain_1 ty X pn rn tn en rf hn kn on cu pu gw an ch cg fb mh ml ih lb ic nn kp) s.heap := hP
  have hl := lv_entry ([.ref (X 0), .int 1, .int a1, .int a2, .int a3, .int a4, .int a5]) (n := 7) (Nat.le_of_ble_eq_true rfl)
  rw [lg_entry_eq]
  generalize (lg_sl ([.ref (X 0), .int 1, .int a1, .int a2, .int a3, .int a4, .int a5]) ++ List.replicate (7 - (lg_sl ([.ref (X 0), .int 1, .int a1, .int a2, .int a3, .int a4, .int a5])).length) Slot.unset).toArray = ls at hl ⊢
  have hl : lv_has ls 7 [(0, .ref (X 0)), (1, .int 1), (2, .int a1), (3, .int a2), (4, .int a3), (5, .int a4), (6, .int a5)] := hl
  have END_0 : ∀ (q_76_1 : Nat) (q_76_2 : Nat) (q_76_3 : Nat) (r : Int32) (w9_0 : Int32) (w9_1 : Int32) (w9_2 : Int32) (w9_3 : Int32) (w9_4 : Int32) (w9_5 : Int32) (w9_6 : Int32) (w9_7 : Int32) (w9_8 : Int32) (w9_9 : Int32) (w9_10 : Int32) (w9_11 : Int32) (w9_12 : Int32), TT = (0, 0, r, w9_0, w9_1, w9_2, w9_3, w9_4, w9_5, w9_6, w9_7, w9_8, w9_9, w9_10, w9_11, w9_12) → ∀ (H : Heap) (locs : List Loc), va_P D vwCl ((wW_k_L_plain_1 ty X pn w9_9 tn en rf hn kn on w9_12 pu gw an ch cg fb mh ml ih lb w9_10 nn w9_11) ++ [(q_76_1, .inr (10, [.int w9_0, .int w9_1, .int w9_3, .int w9_4, .int w9_5, .int w9_6, .int w9_7, .ref q_76_2, .int w9_8, .ref q_76_3, .int w9_2])), (q_76_2, .inl (ty 5, 2, .inr (.inr (.inr (.inr (fun _ => none)))))), (q_76_3, .inl (ty 5, 5, .inr (.inr (.inr (.inr (fun _ => none))))))]) H → va_D A ((wW_k_L_plain_1 ty X pn w9_9 tn en rf hn kn on w9_12 pu gw an ch cg fb mh ml ih lb w9_10 nn w9_11) ++ [(q_76_1, .inr (10, [.int w9_0, .int w9_1, .int w9_3, .int w9_4, .int w9_5, .int w9_6, .int w9_7, .ref q_76_2, .int w9_8, .ref q_76_3, .int w9_2])), (q_76_2, .inl (ty 5, 2, .inr (.inr (.inr (.inr (fun _ => none)))))), (q_76_3, .inl (ty 5, 5, .inr (.inr (.inr (.inr (fun _ => none))))))]) → va_S A s.heap H locs → ∀ (ls : Array Slot) (pc : Nat), decode cL_plain pc = .ok (.ireturn, 1) → W p l e (headSpec vs_k_L_plain_1 { frames := 8, cells := 5, slots := 30, locals := 124 }).room s m ([.ref (X 0), .int 1, .int a1, .int a2, .int a3, .int a4, .int a5] : List Value).toArray below meth c H locs 5 30 (vx_MQ below (va_Qi (fun (r : Int32) (u : va_W) => (∃ (q_76_1 : Nat) (q_76_2 : Nat) (q_76_3 : Nat), TT.1 = 0 ∧ TT.2.1 = 0 ∧ r = TT.2.2.1 ∧ (u = ((wW_k_L_plain_1 ty X pn TT.2.2.2.2.2.2.2.2.2.2.2.2.1 tn en rf hn kn on TT.2.2.2.2.2.2.2.2.2.2.2.2.2.2.2 pu gw an ch cg fb mh ml ih lb TT.2.2.2.2.2.2.2.2.2.2.2.2.2.1 nn TT.2.2.2.2.2.2.2.2.2.2.2.2.2.2.1) ++ [(q_76_1, .inr (10, [.int TT.2.2.2.1, .int TT.2.2.2.2.1, .int TT.2.2.2.2.2.2.1, .int TT.2.2.2.2.2.2.2.1, .int TT.2.2.2.2.2.2.2.2.1, .int TT.2.2.2.2.2.2.2.2.2.1, .int TT.2.2.2.2.2.2.2.2.2.2.1, .ref q_76_2, .int TT.2.2.2.2.2.2.2.2.2.2.2.1, .ref q_76_3, .int TT.2.2.2.2.2.1])), (q_76_2, .inl (ty 5, 2, .inr (.inr (.inr (.inr (fun _ => none)))))), (q_76_3, .inl (ty 5, 5, .inr (.inr (.inr (.inr (fun _ => none))))))]))) ∨ (∃ (q_76_1 : Nat) (q_76_2 : Nat) (q_76_3 : Nat), TT.1 = 0 ∧ TT.2.1 = 1 ∧ r = TT.2.2.1 ∧ (u = ((wW_k_L_plain_1 ty X pn TT.2.2.2.2.2.2.2.2.2.2.2.2.1 tn en (va_up rf rn.toNatClampNeg (some q_76_1)) hn kn on TT.2.2.2.2.2.2.2.2.2.2.2.2.2.2.2 pu gw an ch cg fb mh ml ih lb TT.2.2.2.2.2.2.2.2.2.2.2.2.2.1 nn TT.2.2.2.2.2.2.2.2.2.2.2.2.2.2.1) ++ [(q_76_1, .inr (10, [.int TT.2.2.2.1, .int TT.2.2.2.2.1, .int TT.2.2.2.2.2.2.1, .int TT.2.2.2.2.2.2.2.1, .int TT.2.2.2.2.2.2.2.2.1, .int TT.2.2.2.2.2.2.2.2.2.1, .int TT.2.2.2.2.2.2.2.2.2.2.1, .ref q_76_2, .int TT.2.2.2.2.2.2.2.2.2.2.2.1, .ref q_76_3, .int TT.2.2.2.2.2.1])), (q_76_2, .inl (ty 5, 2, .inr (.inr (.inr (.inr (fun _ => none)))))), (q_76_3, .inl (ty 5, 5, .inr (.inr (.inr (.inr (fun _ => none))))))])))) (wq_B D A) A) (vx_X (fun u : String × va_W => (TT.1 = 2 ∧ u = ("java/lang/IllegalArgumentException", (wW_k_L_plain_1 ty X pn TT.2.2.2.2.2.2.2.2.2.2.2.2.1 tn en rf hn kn on TT.2.2.2.2.2.2.2.2.2.2.2.2.2.2.2 pu gw an ch cg fb mh ml ih lb TT.2.2.2.2.2.2.2.2.2.2.2.2.2.1 nn TT.2.2.2.2.2.2.2.2.2.2.2.2.2.2.1))) ∨ (TT.1 = 3 ∧ u = ("java/lang/IllegalStateException", (wW_k_L_plain_1 ty X pn TT.2.2.2.2.2.2.2.2.2.2.2.2.1 tn en rf hn kn on TT.2.2.2.2.2.2.2.2.2.2.2.2.2.2.2 pu gw an ch cg fb mh ml ih lb TT.2.2.2.2.2.2.2.2.2.2.2.2.2.1 nn TT.2.2.2.2.2.2.2.2.2.2.2.2.2.2.1)))) (wq_BX D A) A) ([.ref (X 0), .int 1, .int a1, .int a2, .int a3, .int a4, .int a5] : List Value).toArray s 5 30 A) (F0 m pc ls [.int r]) := by
    intro q_76_1 q_76_2 q_76_3 r w9_0 w9_1 w9_2 w9_3 w9_4 w9_5 w9_6 w9_7 w9_8 w9_9 w9_10 w9_11 w9_12 hT H locs hP hD hS ls pc hd
    have hM : TT = (0, 0, r, w9_0, w9_1, w9_2, w9_3, w9_4, w9_5, w9_6, w9_7, w9_8, w9_9, w9_10, w9_11, w9_12) := hT
    refine vx_ret ?_
    exact W.iret (v := r) hx hb hr (fun t ht hW => ⟨⟨r, ((wW_k_L_plain_1 ty X pn w9_9 tn en rf hn kn on w9_12 pu gw an ch cg fb mh ml ih lb w9_10 nn w9_11) ++ [(q_76_1, .inr (10, [.int w9_0, .int w9_1, .int w9_3, .int w9_4, .int w9_5, .int w9_6, .int w9_7, .ref q_76_2, .int w9_8, .ref q_76_3, .int w9_2])), (q_76_2, .inl (ty 5, 2, .inr (.inr (.inr (.inr (fun _ => none)))))), (q_76_3, .inl (ty 5, 5, .inr (.inr (.inr (.inr (fun _ => none))))))]), rfl, (Or.inl ⟨q_76_1, q_76_2, q_76_3, (by rw [hM]), (by rw [hM]), (by rw [hM]), (by rw [hM])⟩), wq_B.of ht hP hD⟩, hS.F ht⟩) hS.2.2 hd
  have END_1 : ∀ (q_76_1 : Nat) (q_76_2 : Nat) (q_76_3 : Nat) (r : Int32) (w9_0 : Int32) (w9_1 : Int32) (w9_2 : Int32) (w9_3 : Int32) (w9_4 : Int32) (w9_5 : Int32) (w9_6 : Int32) (w9_7 : Int32) (w9_8 : Int32) (w9_9 : Int32) (w9_10 : Int32) (w9_11 : Int32) (w9_12 : Int32), TT = (0, 1, r, w9_0, w9_1, w9_2, w9_3, w9_4, w9_5, w9_6, w9_7, w9_8, w9_9, w9_10, w9_11, w9_12) → ∀ (H : Heap) (locs : List Loc), va_P D vwCl ((wW_k_L_plain_1 ty X pn w9_9 tn en (va_up rf rn.toNatClampNeg (some q_76_1)) hn kn on w9_12 pu gw an ch cg fb mh ml ih lb w9_10 nn w9_11) ++ [(q_76_1, .inr (10, [.int w9_0, .int w9_1, .int w9_3, .int w9_4, .int w9_5, .int w9_6, .int w9_7, .ref q_76_2, .int w9_8, .ref q_76_3, .int w9_2])), (q_76_2, .inl (ty 5, 2, .inr (.inr (.inr (.inr (fun _ => none)))))), (q_76_3, .inl (ty 5, 5, .inr (.inr (.inr (.inr (fun _ => none))))))]) H → va_D A ((wW_k_L_plain_1 ty X pn w9_9 tn en (va_up rf rn.toNatClampNeg (some q_76_1)) hn kn on w9_12 pu gw an ch cg fb mh ml ih lb w9_10 nn w9_11) ++ [(q_76_1, .inr (10, [.int w9_0, .int w9_1, .int w9_3, .int w9_4, .int w9_5, .int w9_6, .int w9_7, .ref q_76_2, .int w9_8, .ref q_76_3, .int w9_2])), (q_76_2, .inl (ty 5, 2, .inr (.inr (.inr (.inr (fun _ => none)))))), (q_76_3, .inl (ty 5, 5, .inr (.inr (.inr (.inr (fun _ => none))))))]) → va_S A s.heap H locs → ∀ (ls : Array Slot) (pc : Nat), decode cL_plain pc = .ok (.ireturn, 1) → W p l e (headSpec vs_k_L_plain_1 { frames := 8, cells := 5, slots := 30, locals := 124 }).room s m ([.ref (X 0), .int 1, .int a1, .int a2, .int a3, .int a4, .int a5] : List Value).toArray below meth c H locs 5 30 (vx_MQ below (va_Qi (fun (r : Int32) (u : va_W) => (∃ (q_76_1 : Nat) (q_76_2 : Nat) (q_76_3 : Nat), TT.1 = 0 ∧ TT.2.1 = 0 ∧ r = TT.2.2.1 ∧ (u = ((wW_k_L_plain_1 ty X pn TT.2.2.2.2.2.2.2.2.2.2.2.2.1 tn en rf hn kn on TT.2.2.2.2.2.2.2.2.2.2.2.2.2.2.2 pu gw an ch cg fb mh ml ih lb TT.2.2.2.2.2.2.2.2.2.2.2.2.2.1 nn TT.2.2.2.2.2.2.2.2.2.2.2.2.2.2.1) ++ [(q_76_1, .inr (10, [.int TT.2.2.2.1, .int TT.2.2.2.2.1, .int TT.2.2.2.2.2.2.1, .int TT.2.2.2.2.2.2.2.1, .int TT.2.2.2.2.2.2.2.2.1, .int TT.2.2.2.2.2.2.2.2.2.1, .int TT.2.2.2.2.2.2.2.2.2.2.1, .ref q_76_2, .int TT.2.2.2.2.2.2.2.2.2.2.2.1, .ref q_76_3, .int TT.2.2.2.2.2.1])), (q_76_2, .inl (ty 5, 2, .inr (.inr (.inr (.inr (fun _ => none)))))), (q_76_3, .inl (ty 5, 5, .inr (.inr (.inr (.inr (fun _ => none))))))]))) ∨ (∃ (q_76_1 : Nat) (q_76_2 : Nat) (q_76_3 : Nat), TT.1 = 0 ∧ TT.2.1 = 1 ∧ r = TT.2.2.1 ∧ (u = ((wW_k_L_plain_1 ty X pn TT.2.2.2.2.2.2.2.2.2.2.2.2.1 tn en (va_up rf rn.toNatClampNeg (some q_76_1)) hn kn on TT.2.2.2.2.2.2.2.2.2.2.2.2.2.2.2 pu gw an ch cg fb mh ml ih lb TT.2.2.2.2.2.2.2.2.2.2.2.2.2.1 nn TT.2.2.2.2.2.2.2.2.2.2.2.2.2.2.1) ++ [(q_76_1, .inr (10, [.int TT.2.2.2.1, .int TT.2.2.2.2.1, .int TT.2.2.2.2.2.2.1, .int TT.2.2.2.2.2.2.2.1, .int TT.2.2.2.2.2.2.2.2.1, .int TT.2.2.2.2.2.2.2.2.2.1, .int TT.2.2.2.2.2.2.2.2.2.2.1, .ref q_76_2, .int TT.2.2.2.2.2.2.2.2.2.2.2.1, .ref q_76_3, .int TT.2.2.2.2.2.1])), (q_76_2, .inl (ty 5, 2, .inr (.inr (.inr (.inr (fun _ => none)))))), (q_76_3, .inl (ty 5, 5, .inr (.inr (.inr (.inr (fun _ => none))))))])))) (wq_B D A) A) (vx_X (fun u : String × va_W => (TT.1 = 2 ∧ u = ("java/lang/IllegalArgumentException", (wW_k_L_plain_1 ty X pn TT.2.2.2.2.2.2.2.2.2.2.2.2.1 tn en rf hn kn on TT.2.2.2.2.2.2.2.2.2.2.2.2.2.2.2 pu gw an ch cg fb mh ml ih lb TT.2.2.2.2.2.2.2.2.2.2.2.2.2.1 nn TT.2.2.2.2.2.2.2.2.2.2.2.2.2.2.1))) ∨ (TT.1 = 3 ∧ u = ("java/lang/IllegalStateException", (wW_k_L_plain_1 ty X pn TT.2.2.2.2.2.2.2.2.2.2.2.2.1 tn en rf hn kn on TT.2.2.2.2.2.2.2.2.2.2.2.2.2.2.2 pu gw an ch cg fb mh ml ih lb TT.2.2.2.2.2.2.2.2.2.2.2.2.2.1 nn TT.2.2.2.2.2.2.2.2.2.2.2.2.2.2.1)))) (wq_BX D A) A) ([.ref (X 0), .int 1, .int a1, .int a2, .int a3, .int a4, .int a5] : List Value).toArray s 5 30 A) (F0 m pc ls [.int r]) := by
    intro q_76_1 q_76_2 q_76_3 r w9_0 w9_1 w9_2 w9_3 w9_4 w9_5 w9_6 w9_7 w9_8 w9_9 w9_10 w9_11 w9_12 hT H locs hP hD hS ls pc hd
    have hM : TT = (0, 1, r, w9_0, w9_1, w9_2, w9_3, w9_4, w9_5, w9_6, w9_7, w9_8, w9_9, w9_10, w9_11, w9_12) := hT
    refine vx_ret ?_
    exact W.iret (v := r) hx hb hr (fun t ht hW => ⟨⟨r, ((wW_k_L_plain_1 ty X pn w9_9 tn en (va_up rf rn.toNatClampNeg (some q_76_1)) hn kn on w9_12 pu gw an ch cg fb mh ml ih lb w9_10 nn w9_11) ++ [(q_76_1, .inr (10, [.int w9_0, .int w9_1, .int w9_3, .int w9_4, .int w9_5, .int w9_6, .int w9_7, .ref q_76_2, .int w9_8, .ref q_76_3, .int w9_2])), (q_76_2, .inl (ty 5, 2, .inr (.inr (.inr (.inr (fun _ => none)))))), (q_76_3, .inl (ty 5, 5, .inr (.inr (.inr (.inr (fun _ => none))))))]), rfl, (Or.inr ⟨q_76_1, q_76_2, q_76_3, (by rw [hM]), (by rw [hM]), (by rw [hM]), (by rw [hM])⟩), wq_B.of ht hP hD⟩, hS.F ht⟩) hS.2.2 hd
  have hT := hTT
  rw [m_k_L_plain_1] at hT
  refine lv_iload_n hx hb dL_plain_0 rfl (lv_at hl 1 rfl) ?_
  refine lv_tableIn (off := 73) (tgt := 74) hx hb dL_plain_1 (by decide) (by decide) rfl (by decide) ?_
  refine lv_aload_n hx hb dL_plain_74 rfl (lv_at hl 0 rfl) ?_
  refine lv_iload_n hx hb dL_plain_75 rfl (lv_at hl 2 rfl) ?_
  obtain ⟨t_76, ht_76⟩ : ∃ t, t = m_k_X10_addDisjunction rn cu ic kp a1 := ⟨_, rfl⟩
  rw [lE_eq ht_76] at hT
  refine wq_xiW (wc := (wW_k_X10_addDisjunction ty X pn rn tn en rf hn kn on cu pu gw an ch cg fb mh ml ih lb ic nn kp)) (vx_runV (As := [.int a1]) (rest := []) ⟨hx, hb, hml, hown, hts⟩ (k_X10_addDisjunction l hl9 D ty td mi s.heap.size X pn rn tn en rf hn kn on cu pu gw an ch cg fb mh ml ih lb ic nn kp a1 t_76 ht_76) (cwV 1 hts gv_k_L_plain_1_0 rfl rfl rfl (by decide +kernel) ⟨(Nat.le_of_ble_eq_true rfl), (Nat.le_of_ble_eq_true rfl)⟩) (wm_V (wm_preS hP hD hK hE hS hA [true, true, true, true, true, true] rfl) (va_recv (q0 := 0) (ci := 12) hK hP rfl rfl)) rfl rfl hl.1 rfl (lv_room (Nat.le_of_ble_eq_true rfl)) dL_plain_76 ⟨(Nat.le_of_ble_eq_true rfl), (Nat.le_of_ble_eq_true rfl)⟩) hS hA hP hD [true, true, true, true, true, true] rfl (fun _ _ h => by rcases h with ⟨_, _, _, -, -, -, rfl⟩ | ⟨_, _, _, -, -, -, rfl⟩ <;> rfl) (fun _ _ h => by rcases h with ⟨-, h⟩ | ⟨-, h⟩ <;> (cases h; rfl)) (fun E9 u H locs q9 ce hw hP hD hS hce hcv hcl => ?_) (fun r u H locs hw hP hD hS => ?_)
  · rcases hw with ⟨c_1, hEq⟩ | ⟨c_2, hEq⟩
    · cases hEq
      rw [if_neg (show ¬ t_76.1 = 0 by rw [c_1]; decide)] at hT
      rw [if_pos c_1] at hT
      have hP : va_P D vwCl (wW_k_L_plain_1 ty X pn t_76.2.2.2.2.2.2.2.2.2.2.2.2.1 tn en rf hn kn on t_76.2.2.2.2.2.2.2.2.2.2.2.2.2.2.2 pu gw an ch cg fb mh ml ih lb t_76.2.2.2.2.2.2.2.2.2.2.2.2.2.1 nn t_76.2.2.2.2.2.2.2.2.2.2.2.2.2.2.1) H := hP
      have hD : va_D A (wW_k_L_plain_1 ty X pn t_76.2.2.2.2.2.2.2.2.2.2.2.2.1 tn en rf hn kn on t_76.2.2.2.2.2.2.2.2.2.2.2.2.2.2.2 pu gw an ch cg fb mh ml ih lb t_76.2.2.2.2.2.2.2.2.2.2.2.2.2.1 nn t_76.2.2.2.2.2.2.2.2.2.2.2.2.2.2.1) := hD
      refine vx_widen (k := 5) (n := 30) (Nat.le_of_ble_eq_true rfl) (Nat.le_of_ble_eq_true rfl) ?_
      exact vx_out (E := "java/lang/IllegalArgumentException") (fun x hx => (hEx x hx).elim) hlocks hce hcv hcl (fun t ht ha => wq_thrW0 (W := (wW_k_L_plain_1 ty X pn t_76.2.2.2.2.2.2.2.2.2.2.2.2.1 tn en rf hn kn on t_76.2.2.2.2.2.2.2.2.2.2.2.2.2.2.2 pu gw an ch cg fb mh ml ih lb t_76.2.2.2.2.2.2.2.2.2.2.2.2.2.1 nn t_76.2.2.2.2.2.2.2.2.2.2.2.2.2.2.1)) hS hP hD (by exact (Or.inl ⟨(by rw [hT]), (by first | rw [hT] | rfl)⟩)) ht) hS.2.2 (Nat.le_refl _) (Nat.le_refl _)
    · cases hEq
      rw [if_neg (show ¬ t_76.1 = 0 by rw [c_2]; decide)] at hT
      rw [if_neg (show ¬ t_76.1 = 2 by rw [c_2]; decide)] at hT
      have hP : va_P D vwCl (wW_k_L_plain_1 ty X pn t_76.2.2.2.2.2.2.2.2.2.2.2.2.1 tn en rf hn kn on t_76.2.2.2.2.2.2.2.2.2.2.2.2.2.2.2 pu gw an ch cg fb mh ml ih lb t_76.2.2.2.2.2.2.2.2.2.2.2.2.2.1 nn t_76.2.2.2.2.2.2.2.2.2.2.2.2.2.2.1) H := hP
      have hD : va_D A (wW_k_L_plain_1 ty X pn t_76.2.2.2.2.2.2.2.2.2.2.2.2.1 tn en rf hn kn on t_76.2.2.2.2.2.2.2.2.2.2.2.2.2.2.2 pu gw an ch cg fb mh ml ih lb t_76.2.2.2.2.2.2.2.2.2.2.2.2.2.1 nn t_76.2.2.2.2.2.2.2.2.2.2.2.2.2.2.1) := hD
      refine vx_widen (k := 5) (n := 30) (Nat.le_of_ble_eq_true rfl) (Nat.le_of_ble_eq_true rfl) ?_
      exact vx_out (E := "java/lang/IllegalStateException") (fun x hx => (hEx x hx).elim) hlocks hce hcv hcl (fun t ht ha => wq_thrW0 (W := (wW_k_L_plain_1 ty X pn t_76.2.2.2.2.2.2.2.2.2.2.2.2.1 tn en rf hn kn on t_76.2.2.2.2.2.2.2.2.2.2.2.2.2.2.2 pu gw an ch cg fb mh ml ih lb t_76.2.2.2.2.2.2.2.2.2.2.2.2.2.1 nn t_76.2.2.2.2.2.2.2.2.2.2.2.2.2.2.1)) hS hP hD (by exact (Or.inr ⟨(by rw [hT]), (by first | rw [hT] | rfl)⟩)) ht) hS.2.2 (Nat.le_refl _) (Nat.le_refl _)
  · rcases hw with ⟨q_76_1, q_76_2, q_76_3, c_3, c_4, rfl, rfl⟩ | ⟨q_76_1, q_76_2, q_76_3, c_5, c_6, rfl, rfl⟩
    · rw [if_pos c_3] at hT
      rw [if_pos c_4] at hT
      have hP : va_P D vwCl ((wW_k_L_plain_1 ty X pn t_76.2.2.2.2.2.2.2.2.2.2.2.2.1 tn en rf hn kn on t_76.2.2.2.2.2.2.2.2.2.2.2.2.2.2.2 pu gw an ch cg fb mh ml ih lb t_76.2.2.2.2.2.2.2.2.2.2.2.2.2.1 nn t_76.2.2.2.2.2.2.2.2.2.2.2.2.2.2.1) ++ [(q_76_1, .inr (10, [.int t_76.2.2.2.1, .int t_76.2.2.2.2.1, .int t_76.2.2.2.2.2.2.1, .int t_76.2.2.2.2.2.2.2.1, .int t_76.2.2.2.2.2.2.2.2.1, .int t_76.2.2.2.2.2.2.2.2.2.1, .int t_76.2.2.2.2.2.2.2.2.2.2.1, .ref q_76_2, .int t_76.2.2.2.2.2.2.2.2.2.2.2.1, .ref q_76_3, .int t_76.2.2.2.2.2.1])), (q_76_2, .inl (ty 5, 2, .inr (.inr (.inr (.inr (fun _ => none)))))), (q_76_3, .inl (ty 5, 5, .inr (.inr (.inr (.inr (fun _ => none))))))]) H := hP
      have hD : va_D A ((wW_k_L_plain_1 ty X pn t_76.2.2.2.2.2.2.2.2.2.2.2.2.1 tn en rf hn kn on t_76.2.2.2.2.2.2.2.2.2.2.2.2.2.2.2 pu gw an ch cg fb mh ml ih lb t_76.2.2.2.2.2.2.2.2.2.2.2.2.2.1 nn t_76.2.2.2.2.2.2.2.2.2.2.2.2.2.2.1) ++ [(q_76_1, .inr (10, [.int t_76.2.2.2.1, .int t_76.2.2.2.2.1, .int t_76.2.2.2.2.2.2.1, .int t_76.2.2.2.2.2.2.2.1, .int t_76.2.2.2.2.2.2.2.2.1, .int t_76.2.2.2.2.2.2.2.2.2.1, .int t_76.2.2.2.2.2.2.2.2.2.2.1, .ref q_76_2, .int t_76.2.2.2.2.2.2.2.2.2.2.2.1, .ref q_76_3, .int t_76.2.2.2.2.2.1])), (q_76_2, .inl (ty 5, 2, .inr (.inr (.inr (.inr (fun _ => none)))))), (q_76_3, .inl (ty 5, 5, .inr (.inr (.inr (.inr (fun _ => none))))))]) := hD
      refine W.widen (k := 5) (n := 30) (Nat.le_of_ble_eq_true rfl) (Nat.le_of_ble_eq_true rfl) ?_
      exact END_0 q_76_1 q_76_2 q_76_3 t_76.2.2.1 t_76.2.2.2.1 t_76.2.2.2.2.1 t_76.2.2.2.2.2.1 t_76.2.2.2.2.2.2.1 t_76.2.2.2.2.2.2.2.1 t_76.2.2.2.2.2.2.2.2.1 t_76.2.2.2.2.2.2.2.2.2.1 t_76.2.2.2.2.2.2.2.2.2.2.1 t_76.2.2.2.2.2.2.2.2.2.2.2.1 t_76.2.2.2.2.2.2.2.2.2.2.2.2.1 t_76.2.2.2.2.2.2.2.2.2.2.2.2.2.1 t_76.2.2.2.2.2.2.2.2.2.2.2.2.2.2.1 t_76.2.2.2.2.2.2.2.2.2.2.2.2.2.2.2 hT _ _ hP hD hS _ _ dL_plain_79
    · rw [if_pos c_5] at hT
      rw [if_neg (show ¬ t_76.2.1 = 0 by rw [c_6]; decide)] at hT
      have hP : va_P D vwCl ((wW_k_L_plain_1 ty X pn t_76.2.2.2.2.2.2.2.2.2.2.2.2.1 tn en (va_up rf rn.toNatClampNeg (some q_76_1)) hn kn on t_76.2.2.2.2.2.2.2.2.2.2.2.2.2.2.2 pu gw an ch cg fb mh ml ih lb t_76.2.2.2.2.2.2.2.2.2.2.2.2.2.1 nn t_76.2.2.2.2.2.2.2.2.2.2.2.2.2.2.1) ++ [(q_76_1, .inr (10, [.int t_76.2.2.2.1, .int t_76.2.2.2.2.1, .int t_76.2.2.2.2.2.2.1, .int t_76.2.2.2.2.2.2.2.1, .int t_76.2.2.2.2.2.2.2.2.1, .int t_76.2.2.2.2.2.2.2.2.2.1, .int t_76.2.2.2.2.2.2.2.2.2.2.1, .ref q_76_2, .int t_76.2.2.2.2.2.2.2.2.2.2.2.1, .ref q_76_3, .int t_76.2.2.2.2.2.1])), (q_76_2, .inl (ty 5, 2, .inr (.inr (.inr (.inr (fun _ => none)))))), (q_76_3, .inl (ty 5, 5, .inr (.inr (.inr (.inr (fun _ => none))))))]) H := hP
      have hD : va_D A ((wW_k_L_plain_1 ty X pn t_76.2.2.2.2.2.2.2.2.2.2.2.2.1 tn en (va_up rf rn.toNatClampNeg (some q_76_1)) hn kn on t_76.2.2.2.2.2.2.2.2.2.2.2.2.2.2.2 pu gw an ch cg fb mh ml ih lb t_76.2.2.2.2.2.2.2.2.2.2.2.2.2.1 nn t_76.2.2.2.2.2.2.2.2.2.2.2.2.2.2.1) ++ [(q_76_1, .inr (10, [.int t_76.2.2.2.1, .int t_76.2.2.2.2.1, .int t_76.2.2.2.2.2.2.1, .int t_76.2.2.2.2.2.2.2.1, .int t_76.2.2.2.2.2.2.2.2.1, .int t_76.2.2.2.2.2.2.2.2.2.1, .int t_76.2.2.2.2.2.2.2.2.2.2.1, .ref q_76_2, .int t_76.2.2.2.2.2.2.2.2.2.2.2.1, .ref q_76_3, .int t_76.2.2.2.2.2.1])), (q_76_2, .inl (ty 5, 2, .inr (.inr (.inr (.inr (fun _ => none)))))), (q_76_3, .inl (ty 5, 5, .inr (.inr (.inr (.inr (fun _ => none))))))]) := hD
      refine W.widen (k := 5) (n := 30) (Nat.le_of_ble_eq_true rfl) (Nat.le_of_ble_eq_true rfl) ?_
      exact END_1 q_76_1 q_76_2 q_76_3 t_76.2.2.1 t_76.2.2.2.1 t_76.2.2.2.2.1 t_76.2.2.2.2.2.1 t_76.2.2.2.2.2.2.1 t_76.2.2.2.2.2.2.2.1 t_76.2.2.2.2.2.2.2.2.1 t_76.2.2.2.2.2.2.2.2.2.1 t_76.2.2.2.2.2.2.2.2.2.2.1 t_76.2.2.2.2.2.2.2.2.2.2.2.1 t_76.2.2.2.2.2.2.2.2.2.2.2.2.1 t_76.2.2.2.2.2.2.2.2.2.2.2.2.2.1 t_76.2.2.2.2.2.2.2.2.2.2.2.2.2.2.1 t_76.2.2.2.2.2.2.2.2.2.2.2.2.2.2.2 hT _ _ hP hD hS _ _ dL_plain_79
