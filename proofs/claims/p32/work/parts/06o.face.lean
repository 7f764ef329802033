theorem dL_pick_0 : decode cL_pick 0 = .ok (.aload_n 0, 1) := by decide +kernel
theorem dL_pick_1 : decode cL_pick 1 = .ok (.iload_n 1, 1) := by decide +kernel
theorem dL_pick_2 : decode cL_pick 2 = .ok (.invokestatic 9, 3) := by decide +kernel
theorem dL_pick_5 : decode cL_pick 5 = .ok (.bipush 8, 2) := by decide +kernel
theorem dL_pick_7 : decode cL_pick 7 = .ok (.iushr, 1) := by decide +kernel
theorem dL_pick_8 : decode cL_pick 8 = .ok (.iload_n 2, 1) := by decide +kernel
theorem dL_pick_9 : decode cL_pick 9 = .ok (.irem, 1) := by decide +kernel
theorem dL_pick_10 : decode cL_pick 10 = .ok (.ireturn, 1) := by decide +kernel
abbrev r_k_L_pick : Type := Int32
def m_k_L_pick (L : Nat) (xs : Nat → Int32) (a1 : Int32) (a2 : Int32) : r_k_L_pick :=
  lE (m_k_L_cell L xs a1) (fun t_2 =>
    (((t_2.toUInt32 >>> ((8 : Int32).toUInt32 &&& Int32.toUInt32 31)).toInt32) - ((t_2.toUInt32 >>> ((8 : Int32).toUInt32 &&& Int32.toUInt32 31)).toInt32) / a2 * a2))
def vs_k_L_pick : List Cond := .code yL_pick cL_pick 3 (some .int) :: ([.methodLink RL 9 yL_cell, .static yL_cell, .initialized RL] ++ (vs_k_L_cell))
set_option maxRecDepth 20000 in
theorem gv_k_L_pick_0 : GoodIn vs_k_L_pick (va_wsS RL 9 yL_cell vs_k_L_cell) := goodIn_app (goodIn_sub (by decide +kernel) (by decide +kernel)) (goodIn_sub (fun _ h => List.mem_cons_of_mem _ (List.mem_append_right _ (h))) (by decide +kernel))
set_option maxHeartbeats 4000000 in
set_option maxRecDepth 100000 in
theorem k_L_pick (l : Launch) (D : va_G) (ty : Nat → ClassId) (td mi sz : Nat) (L : Nat) (xs : Nat → Int32) (b : Nat) (a1 : Int32) (a2 : Int32) (h0a : 0 ≤ a1.toInt) (h0b : 0 < a2.toInt) (hL : L ≤ 260) (TT : r_k_L_pick) (hTT : TT = m_k_L_pick L xs a1 a2) : Met l yL_pick vs_k_L_pick { frames := 1, cells := 0, slots := 0, locals := 22 } (va_Pc [.ref b, .int a1, .int a2] (wq_PS D ty td mi [] sz b L xs)) (va_Qi (fun (r : Int32) (u : va_W) => (r = TT ∧ (u = []))) (wq_B D (va_A [] sz)) (va_A [] sz)) 0 0 (va_A [] sz) := by
  refine Met.ofW (cc := cL_pick) (maxL := 3) (ret := (some .int)) (by decide) rfl ?_
  intro p e s m args below meth c s₁ B hml hv
  obtain ⟨rfl, ⟨hsz, hP, hK, hD0, hE⟩, hX, hbl, hbA⟩ := hv
  have hx := B.exec
  have hb := B.bytes
  have hr := B.returns
  have hts := atoms_spec (ws := vs_k_L_pick) B.pre
  have hown : s.vm.findClass RL = some m.cls := findClass_of_methodNamed B.named
  have hlocks := B.notSynchronized
  subst hsz
  have hD := hD0.self (sz := s.heap.size)
  generalize hAe : va_A [] s.heap.size = A at hD hE hbA ⊢
  have hA : ∀ q : Nat, s.heap.size ≤ q → A q := fun q h => by rw [← hAe]; exact Or.inr h
  have hS : va_S A s.heap s.heap [] := va_S.rf
  have hP : va_P D vwCl [] s.heap := hP
  have hl := lv_entry ([.ref b, .int a1, .int a2]) (n := 3) (Nat.le_of_ble_eq_true rfl)
  rw [lg_entry_eq]
  generalize (lg_sl ([.ref b, .int a1, .int a2]) ++ List.replicate (3 - (lg_sl ([.ref b, .int a1, .int a2])).length) Slot.unset).toArray = ls at hl ⊢
  have hl : lv_has ls 3 [(0, .ref b), (1, .int a1), (2, .int a2)] := hl
  have END : ∀ (r : Int32), TT = r → ∀ (H : Heap) (locs : List Loc), va_P D vwCl [] H → va_D A [] → va_S A s.heap H locs → ∀ (ls : Array Slot) (pc : Nat), decode cL_pick pc = .ok (.ireturn, 1) → W p l e (headSpec vs_k_L_pick { frames := 1, cells := 0, slots := 0, locals := 22 }).room s m ([.ref b, .int a1, .int a2] : List Value).toArray below meth c H locs 0 0 (MQ below (va_Qi (fun (r : Int32) (u : va_W) => (r = TT ∧ (u = []))) (wq_B D A) A) ([.ref b, .int a1, .int a2] : List Value).toArray s 0 0 A) (F0 m pc ls [.int r]) := by
    intro r hT H locs hP hD hS ls pc hd
    have hM : TT = r := hT
    exact W.iret (v := r) hx hb hr (fun t ht hW => ⟨⟨r, [], rfl, ⟨(by rw [hM]), rfl⟩, wq_B.of ht hP hD⟩, hS.F ht⟩) hS.2.2 hd
  have hT := hTT
  rw [m_k_L_pick] at hT
  refine lv_aload_n hx hb dL_pick_0 rfl (lv_at hl 0 rfl) ?_
  refine lv_iload_n hx hb dL_pick_1 rfl (lv_at hl 1 rfl) ?_
  obtain ⟨t_2, ht_2⟩ : ∃ t, t = m_k_L_cell L xs a1 := ⟨_, rfl⟩
  rw [lE_eq ht_2] at hT
  refine wq_i (wc := []) (wr := []) (va_runS (As := [.ref b, .int a1]) (rest := []) ⟨hx, hb, hml, hown, hts⟩ (k_L_cell l D ty td mi s.heap.size L xs b a1 h0a hL t_2 ht_2) (va_cwS 2 hts gv_k_L_pick_0 rfl rfl rfl (by decide +kernel) ⟨(Nat.le_of_ble_eq_true rfl), (Nat.le_of_ble_eq_true rfl)⟩) (wq_preSS (wq_preS hP hD hK hE hS hA [] rfl (by decide)) hX hbl hbA hS (va_free hD hS hA [] rfl)) rfl rfl hl.1 rfl (lv_room (Nat.le_of_ble_eq_true rfl)) dL_pick_2 ⟨(Nat.le_of_ble_eq_true rfl), (Nat.le_of_ble_eq_true rfl)⟩) hS hA hP hD [] [] rfl rfl (by decide) (by decide) (fun r u H locs hw hP hD hS => ?_)
  obtain ⟨hr0, rfl⟩ := hw
  subst r
  have hP : va_P D vwCl [] H := hP
  have hD : va_D A [] := hD
  refine W.widen (k := 0) (n := 0) (Nat.le_of_ble_eq_true rfl) (Nat.le_of_ble_eq_true rfl) ?_
  refine lv_bipush (v := 8) hx hb dL_pick_5 (by decide) ?_
  refine lv_iushr hx hb dL_pick_7 rfl ?_
  refine lv_iload_n hx hb dL_pick_8 rfl (lv_at hl 2 rfl) ?_
  refine lv_irem hx hb dL_pick_9 (wi_ne h0b) ?_
  exact END (((t_2.toUInt32 >>> ((8 : Int32).toUInt32 &&& Int32.toUInt32 31)).toInt32) - ((t_2.toUInt32 >>> ((8 : Int32).toUInt32 &&& Int32.toUInt32 31)).toInt32) / a2 * a2) hT _ _ hP hD hS _ _ dL_pick_10
abbrev r_k_L_isReason : Type := Int32
def m_k_L_isReason_77 (a4 : Int32) (rec_3 : Int32 → r_k_L_isReason) (v6_3 : Int32) (s0_77 : Int32) : r_k_L_isReason :=
  if s0_77 = 0 then
    rec_3 (v6_3 + 1)
  else
    if a4 = v6_3 then
      1
    else
      0
def m_k_L_isReason_72 (a4 : Int32) (rec_3 : Int32 → r_k_L_isReason) (v6_3 : Int32) : r_k_L_isReason :=
  m_k_L_isReason_77 a4 rec_3 v6_3 1
def m_k_L_isReason_76 (a4 : Int32) (rec_3 : Int32 → r_k_L_isReason) (v6_3 : Int32) : r_k_L_isReason :=
  m_k_L_isReason_77 a4 rec_3 v6_3 0
def m_k_L_isReason_3s (pp : pT) (gf : Nat → Option Nat) (ef : Nat → Int32) (a1 : Int32) (a2 : Int32) (a3 : Int32) (a4 : Int32) (rec_3 : Int32 → r_k_L_isReason) (v6_3 : Int32) : r_k_L_isReason :=
  if a1 ≤ v6_3 then
    if a4 < 100 then
      0
    else
      if (ef (a4 - 100).toNatClampNeg) = a3 then
        1
      else
        0
  else
    oE (gf v6_3.toNatClampNeg) (
      0) (fun o_12 =>
      oE (gf v6_3.toNatClampNeg) (
        0) (fun o_22 =>
        if ((pI pp o_22) (0 : Int32).toNatClampNeg) = 119 then
          m_k_L_isReason_76 a4 rec_3 v6_3
        else
          oE (gf v6_3.toNatClampNeg) (
            0) (fun o_33 =>
            lE (m_k_L_isHeld pp o_33 a2) (fun t_35 =>
              if t_35 = 0 then
                m_k_L_isReason_76 a4 rec_3 v6_3
              else
                if (((((pI pp o_12) (1 : Int32).toNatClampNeg) &&& a2) >>> (a3 &&& 31)) &&& 1) = 1 then
                  oE (gf v6_3.toNatClampNeg) (
                    0) (fun o_55 =>
                    if ((pI pp o_55) (0 : Int32).toNatClampNeg) = 99 then
                      m_k_L_isReason_72 a4 rec_3 v6_3
                    else
                      if (((pI pp o_12) (1 : Int32).toNatClampNeg) &&& a2) = ((1 : Int32) <<< (a3 &&& 31)) then
                        m_k_L_isReason_72 a4 rec_3 v6_3
                      else
                        m_k_L_isReason_76 a4 rec_3 v6_3)
                else
                  m_k_L_isReason_76 a4 rec_3 v6_3))))
def m_k_L_isReason_3 (pp : pT) (gf : Nat → Option Nat) (ef : Nat → Int32) (a1 : Int32) (a2 : Int32) (a3 : Int32) (a4 : Int32) : Nat → Int32 → r_k_L_isReason
  | 0, _ => (0)
  | n + 1, v6_3 => m_k_L_isReason_3s pp gf ef a1 a2 a3 a4 (fun v6_3 => m_k_L_isReason_3 pp gf ef a1 a2 a3 a4 n v6_3) v6_3
theorem m_k_L_isReason_3_succ (pp : pT) (gf : Nat → Option Nat) (ef : Nat → Int32) (a1 : Int32) (a2 : Int32) (a3 : Int32) (a4 : Int32) (n : Nat) (v6_3 : Int32) : m_k_L_isReason_3 pp gf ef a1 a2 a3 a4 (n + 1) v6_3 = m_k_L_isReason_3s pp gf ef a1 a2 a3 a4 (m_k_L_isReason_3 pp gf ef a1 a2 a3 a4 n) v6_3 := rfl
def m_k_L_isReason (pp : pT) (gf : Nat → Option Nat) (ef : Nat → Int32) (a1 : Int32) (a2 : Int32) (a3 : Int32) (a4 : Int32) : r_k_L_isReason :=
  m_k_L_isReason_3 pp gf ef a1 a2 a3 a4 wF 0
def vs_k_L_isReason : List Cond := .code yL_isReason cL_isReason 9 (some .boolean) :: ([.methodLink RL 140 yL_isHeld, .static yL_isHeld, .initialized RL] ++ (vs_k_L_isHeld))
set_option maxRecDepth 20000 in
theorem gv_k_L_isReason_0 : GoodIn vs_k_L_isReason (va_wsS RL 140 yL_isHeld vs_k_L_isHeld) := goodIn_app (goodIn_sub (by decide +kernel) (by decide +kernel)) (goodIn_sub (fun _ h => List.mem_cons_of_mem _ (List.mem_append_right _ (h))) (by decide +kernel))
theorem om_k_L_isReason_0 (a4 : Int32) (v6_3 : Int32) (a1 : Int32) (hn_3 : 0 ≤ v6_3.toInt) (c_1 : a1 ≤ v6_3) (c_2 : ¬ (a4 < 100)) : vp_in (a4 - 100) 6 := by
  have f_0 := hn_3
  have f_1 := Int32.le_iff_toInt_le.mp (c_1)
  have f_2 := Int32.le_iff_toInt_le.mp (Int32.not_lt.mp c_2)
  have nl_100 : (100 : Int32).toInt = 100 := rfl
  have r_a4 := wi_rng a4
  have q_1 : (a4 - 100).toInt = (a4 : Int32).toInt - (100 : Int32).toInt := wi_sub (by omega) (by omega)
  exact wi_in (by omega) (by omega)
set_option maxHeartbeats 4000000 in
set_option maxRecDepth 100000 in
theorem k_L_isReason (l : Launch) (D : va_G) (ty : Nat → ClassId) (td mi sz : Nat) (pp : pT) (g0 : Nat) (gf : Nat → Option Nat) (e0 : Nat) (ef : Nat → Int32) (a1 : Int32) (a2 : Int32) (a3 : Int32) (a4 : Int32) (hok : pOK pp) (hrr : ∀ i : Int32, 0 ≤ i.toInt → i.toInt < a1.toInt → ∃ a, gf i.toNatClampNeg = some a ∧ a ∈ pZA pp) (TT : r_k_L_isReason) (hTT : TT = m_k_L_isReason pp gf ef a1 a2 a3 a4) : Met l yL_isReason vs_k_L_isReason { frames := 1, cells := 0, slots := 0, locals := 22 } (va_Pc [.ref g0, .int a1, .ref e0, .int a2, .int a3, .int a4] (wq_P D ty td mi ([(g0, .inl (ty 6, a1.toNatClampNeg, .inr (.inr (.inr (.inr gf))))), (e0, .inl (ty 0, 6, .inl ef))] ++ pw ty pp) sz)) (va_Qi (fun (r : Int32) (u : va_W) => (r = TT ∧ (TT = 0 ∨ TT = 1) ∧ (u = ([(g0, .inl (ty 6, a1.toNatClampNeg, .inr (.inr (.inr (.inr gf))))), (e0, .inl (ty 0, 6, .inl ef))] ++ pw ty pp)))) (wq_B D (va_A ([(g0, .inl (ty 6, a1.toNatClampNeg, .inr (.inr (.inr (.inr gf))))), (e0, .inl (ty 0, 6, .inl ef))] ++ pw ty pp) sz)) (va_A ([(g0, .inl (ty 6, a1.toNatClampNeg, .inr (.inr (.inr (.inr gf))))), (e0, .inl (ty 0, 6, .inl ef))] ++ pw ty pp) sz)) 0 0 (va_A ([(g0, .inl (ty 6, a1.toNatClampNeg, .inr (.inr (.inr (.inr gf))))), (e0, .inl (ty 0, 6, .inl ef))] ++ pw ty pp) sz) := by
  refine Met.ofW (cc := cL_isReason) (maxL := 9) (ret := (some .boolean)) (by decide) rfl ?_
  intro p e s m args below meth c s₁ B hml hv
  obtain ⟨rfl, hsz, hP, hK, hD0, hE⟩ := hv
  have hx := B.exec
  have hb := B.bytes
  have hr := B.returns
  have hts := atoms_spec (ws := vs_k_L_isReason) B.pre
  have hown : s.vm.findClass RL = some m.cls := findClass_of_methodNamed B.named
  have hlocks := B.notSynchronized
  subst hsz
  have hD := hD0.self (sz := s.heap.size)
  generalize hAe : va_A ([(g0, .inl (ty 6, a1.toNatClampNeg, .inr (.inr (.inr (.inr gf))))), (e0, .inl (ty 0, 6, .inl ef))] ++ pw ty pp) s.heap.size = A at hD hE ⊢
  have hA : ∀ q : Nat, s.heap.size ≤ q → A q := fun q h => by rw [← hAe]; exact Or.inr h
  have hS : va_S A s.heap s.heap [] := va_S.rf
  have hP : va_P D vwCl ([(g0, .inl (ty 6, a1.toNatClampNeg, .inr (.inr (.inr (.inr gf))))), (e0, .inl (ty 0, 6, .inl ef))] ++ pw ty pp) s.heap := hP
  have hl := lv_entry ([.ref g0, .int a1, .ref e0, .int a2, .int a3, .int a4]) (n := 9) (Nat.le_of_ble_eq_true rfl)
  rw [lg_entry_eq]
  generalize (lg_sl ([.ref g0, .int a1, .ref e0, .int a2, .int a3, .int a4]) ++ List.replicate (9 - (lg_sl ([.ref g0, .int a1, .ref e0, .int a2, .int a3, .int a4])).length) Slot.unset).toArray = ls at hl ⊢
  have hl : lv_has ls 9 [(0, .ref g0), (1, .int a1), (2, .ref e0), (3, .int a2), (4, .int a3), (5, .int a4)] := hl
  have END : ∀ (r : Int32), TT = r → (r = 0 ∨ r = 1) → ∀ (H : Heap) (locs : List Loc), va_P D vwCl ([(g0, .inl (ty 6, a1.toNatClampNeg, .inr (.inr (.inr (.inr gf))))), (e0, .inl (ty 0, 6, .inl ef))] ++ pw ty pp) H → va_D A ([(g0, .inl (ty 6, a1.toNatClampNeg, .inr (.inr (.inr (.inr gf))))), (e0, .inl (ty 0, 6, .inl ef))] ++ pw ty pp) → va_S A s.heap H locs → ∀ (ls : Array Slot) (pc : Nat), decode cL_isReason pc = .ok (.ireturn, 1) → W p l e (headSpec vs_k_L_isReason { frames := 1, cells := 0, slots := 0, locals := 22 }).room s m ([.ref g0, .int a1, .ref e0, .int a2, .int a3, .int a4] : List Value).toArray below meth c H locs 0 0 (MQ below (va_Qi (fun (r : Int32) (u : va_W) => (r = TT ∧ (TT = 0 ∨ TT = 1) ∧ (u = ([(g0, .inl (ty 6, a1.toNatClampNeg, .inr (.inr (.inr (.inr gf))))), (e0, .inl (ty 0, 6, .inl ef))] ++ pw ty pp)))) (wq_B D A) A) ([.ref g0, .int a1, .ref e0, .int a2, .int a3, .int a4] : List Value).toArray s 0 0 A) (F0 m pc ls [.int r]) := by
    intro r hT hb01 H locs hP hD hS ls pc hd
    have hM : TT = r := hT
    exact W.zret (v := r) hx hb hr (wz_nar hb01) (fun t ht hW => ⟨⟨r, ([(g0, .inl (ty 6, a1.toNatClampNeg, .inr (.inr (.inr (.inr gf))))), (e0, .inl (ty 0, 6, .inl ef))] ++ pw ty pp), rfl, ⟨(by rw [hM]), (by rw [hM]; exact hb01), rfl⟩, wq_B.of ht hP hD⟩, hS.F ht⟩) hS.2.2 hd
  have hT := hTT
  rw [m_k_L_isReason] at hT
  refine lv_iconst (v := 0) hx hb dL_isReason_0 (by decide) ?_
  refine lv_istore (lv' := [(6, .int 0), (0, .ref g0), (1, .int a1), (2, .ref e0), (3, .int a2), (4, .int a3), (5, .int a4)]) hx hb dL_isReason_1 hl (by decide) rfl (fun ls hl => ?_)
  have L_3 : ∀ (n_3 : Nat) (v6_3 : Int32), (2147483648 - v6_3.toInt).toNat < n_3 → TT = m_k_L_isReason_3 pp gf ef a1 a2 a3 a4 n_3 v6_3 → 0 ≤ v6_3.toInt → ∀ (H : Heap) (locs : List Loc), va_P D vwCl ([(g0, .inl (ty 6, a1.toNatClampNeg, .inr (.inr (.inr (.inr gf))))), (e0, .inl (ty 0, 6, .inl ef))] ++ pw ty pp) H → va_D A ([(g0, .inl (ty 6, a1.toNatClampNeg, .inr (.inr (.inr (.inr gf))))), (e0, .inl (ty 0, 6, .inl ef))] ++ pw ty pp) → va_S A s.heap H locs → ∀ ls : Array Slot, lv_has ls 9 [(0, .ref g0), (1, .int a1), (2, .ref e0), (3, .int a2), (4, .int a3), (5, .int a4), (6, .int v6_3)] → W p l e (headSpec vs_k_L_isReason { frames := 1, cells := 0, slots := 0, locals := 22 }).room s m ([.ref g0, .int a1, .ref e0, .int a2, .int a3, .int a4] : List Value).toArray below meth c H locs 0 0 (MQ below (va_Qi (fun (r : Int32) (u : va_W) => (r = TT ∧ (TT = 0 ∨ TT = 1) ∧ (u = ([(g0, .inl (ty 6, a1.toNatClampNeg, .inr (.inr (.inr (.inr gf))))), (e0, .inl (ty 0, 6, .inl ef))] ++ pw ty pp)))) (wq_B D A) A) ([.ref g0, .int a1, .ref e0, .int a2, .int a3, .int a4] : List Value).toArray s 0 0 A) (F0 m 3 ls []) := by
    intro n_3
    induction n_3 with
    | zero => intro v6_3 hu; exact absurd hu (Nat.not_lt_zero _)
    | succ n_3 ih_3 =>
      intro v6_3 hu_3 hT hn_3 H locs hP hD hS ls hl
      rw [m_k_L_isReason_3_succ, m_k_L_isReason_3s] at hT
      refine lv_iload hx hb dL_isReason_3 (lv_at hl 6 rfl) ?_
      refine lv_iload_n hx hb dL_isReason_5 rfl (lv_at hl 1 rfl) ?_
      refine lv_icmp_ge (tgt := 103) hx hb dL_isReason_6 (by decide) (fun c_1 => ?_) (fun c_1 => ?_)
      · rw [if_pos c_1] at hT
        refine lv_iload hx hb dL_isReason_103 (lv_at hl 5 rfl) ?_
        refine lv_bipush (v := 100) hx hb dL_isReason_105 (by decide) ?_
        refine lv_icmp_lt (tgt := 126) hx hb dL_isReason_107 (by decide) (fun c_2 => ?_) (fun c_2 => ?_)
        · rw [if_pos c_2] at hT
          refine lv_iconst (v := 0) hx hb dL_isReason_126 (by decide) ?_
          exact END 0 hT (by decide) _ _ hP hD hS _ _ dL_isReason_127
        · rw [if_neg c_2] at hT
          refine lv_aload_n hx hb dL_isReason_110 rfl (lv_at hl 2 rfl) ?_
          refine lv_iload hx hb dL_isReason_111 (lv_at hl 5 rfl) ?_
          refine lv_bipush (v := 100) hx hb dL_isReason_113 (by decide) ?_
          refine lv_isub hx hb dL_isReason_115 ?_
          refine va_iald (D := D) hx hb hK hP 1 0 rfl rfl (om_k_L_isReason_0 a4 v6_3 a1 hn_3 c_1 c_2) dL_isReason_116 ?_
          refine lv_iload hx hb dL_isReason_117 (lv_at hl 4 rfl) ?_
          refine lv_icmp_ne (tgt := 126) hx hb dL_isReason_119 (by decide) (fun c_3 => ?_) (fun c_3 => ?_)
          · rw [if_neg c_3] at hT
            refine lv_iconst (v := 0) hx hb dL_isReason_126 (by decide) ?_
            exact END 0 hT (by decide) _ _ hP hD hS _ _ dL_isReason_127
          · rw [if_pos c_3] at hT
            refine lv_iconst (v := 1) hx hb dL_isReason_122 (by decide) ?_
            refine lv_goto (tgt := 127) hx hb dL_isReason_123 (by decide) ?_
            exact END 1 hT (by decide) _ _ hP hD hS _ _ dL_isReason_127
      · rw [if_neg c_1] at hT
        refine lv_aload_n hx hb dL_isReason_9 rfl (lv_at hl 0 rfl) ?_
        refine lv_iload hx hb dL_isReason_10 (lv_at hl 6 rfl) ?_
        refine va_aldq (D := D) hx hb hK hP 0 6 rfl rfl (wi_inN hn_3 (Int32.lt_iff_toInt_lt.mp (Int32.not_le.mp c_1))) dL_isReason_12 ?_
        obtain ⟨o_12, ho_12, hmo_12⟩ := hrr v6_3 hn_3 (Int32.lt_iff_toInt_lt.mp (Int32.not_le.mp c_1))
        rw [ho_12, oE_some] at hT
        rw [ho_12]
        refine W.eq (g2 := F0 m 13 ls [.ref o_12]) rfl ?_
        refine lv_iconst (v := 1) hx hb dL_isReason_13 (by decide) ?_
        obtain ⟨k_4, hk_4⟩ := List.getElem?_of_mem (pw_row (ty := ty) (p := pp) (L := [(g0, .inl (ty 6, a1.toNatClampNeg, .inr (.inr (.inr (.inr gf))))), (e0, .inl (ty 0, 6, .inl ef))]) hmo_12)
        refine va_iald (D := D) hx hb hK hP k_4 0 hk_4 rfl (vp_in_iff.mpr (by decide)) dL_isReason_14 ?_
        refine lv_iload_n hx hb dL_isReason_15 rfl (lv_at hl 3 rfl) ?_
        refine lv_iand hx hb dL_isReason_16 ?_
        refine lv_istore (lv' := [(7, .int (((pI pp o_12) (1 : Int32).toNatClampNeg) &&& a2)), (0, .ref g0), (1, .int a1), (2, .ref e0), (3, .int a2), (4, .int a3), (5, .int a4), (6, .int v6_3)]) hx hb dL_isReason_17 hl (by decide) rfl (fun ls hl => ?_)
        refine lv_aload_n hx hb dL_isReason_19 rfl (lv_at hl 1 rfl) ?_
        refine lv_iload hx hb dL_isReason_20 (lv_at hl 7 rfl) ?_
        refine va_aldq (D := D) hx hb hK hP 0 6 rfl rfl (wi_inN hn_3 (Int32.lt_iff_toInt_lt.mp (Int32.not_le.mp c_1))) dL_isReason_22 ?_
        obtain ⟨o_22, ho_22, hmo_22⟩ := hrr v6_3 hn_3 (Int32.lt_iff_toInt_lt.mp (Int32.not_le.mp c_1))
        rw [ho_22, oE_some] at hT
        rw [ho_22]
        refine W.eq (g2 := F0 m 23 ls [.ref o_22]) rfl ?_
        refine lv_iconst (v := 0) hx hb dL_isReason_23 (by decide) ?_
        obtain ⟨k_5, hk_5⟩ := List.getElem?_of_mem (pw_row (ty := ty) (p := pp) (L := [(g0, .inl (ty 6, a1.toNatClampNeg, .inr (.inr (.inr (.inr gf))))), (e0, .inl (ty 0, 6, .inl ef))]) hmo_22)
        refine va_iald (D := D) hx hb hK hP k_5 0 hk_5 rfl (vp_in_iff.mpr (by decide)) dL_isReason_24 ?_
        refine lv_bipush (v := 119) hx hb dL_isReason_25 (by decide) ?_
        have J_77 : ∀ (s0_77 : Int32), TT = m_k_L_isReason_77 a4 (m_k_L_isReason_3 pp gf ef a1 a2 a3 a4 n_3) v6_3 s0_77 → s0_77 = 0 ∨ s0_77 = 1 → ∀ (H : Heap) (locs : List Loc), va_P D vwCl ([(g0, .inl (ty 6, a1.toNatClampNeg, .inr (.inr (.inr (.inr gf))))), (e0, .inl (ty 0, 6, .inl ef))] ++ pw ty pp) H → va_D A ([(g0, .inl (ty 6, a1.toNatClampNeg, .inr (.inr (.inr (.inr gf))))), (e0, .inl (ty 0, 6, .inl ef))] ++ pw ty pp) → va_S A s.heap H locs → ∀ ls : Array Slot, lv_has ls 9 [(0, .ref g0), (1, .int a1), (2, .ref e0), (3, .int a2), (4, .int a3), (5, .int a4), (6, .int v6_3)] → W p l e (headSpec vs_k_L_isReason { frames := 1, cells := 0, slots := 0, locals := 22 }).room s m ([.ref g0, .int a1, .ref e0, .int a2, .int a3, .int a4] : List Value).toArray below meth c H locs 0 0 (MQ below (va_Qi (fun (r : Int32) (u : va_W) => (r = TT ∧ (TT = 0 ∨ TT = 1) ∧ (u = ([(g0, .inl (ty 6, a1.toNatClampNeg, .inr (.inr (.inr (.inr gf))))), (e0, .inl (ty 0, 6, .inl ef))] ++ pw ty pp)))) (wq_B D A) A) ([.ref g0, .int a1, .ref e0, .int a2, .int a3, .int a4] : List Value).toArray s 0 0 A) (F0 m 77 ls [.int s0_77]) := by
          intro s0_77 hT hb_s0_77 H locs hP hD hS ls hl
          rw [m_k_L_isReason_77] at hT
          refine lv_istore (lv' := [(8, .int s0_77), (0, .ref g0), (1, .int a1), (2, .ref e0), (3, .int a2), (4, .int a3), (5, .int a4), (6, .int v6_3)]) hx hb dL_isReason_77 hl (by decide) rfl (fun ls hl => ?_)
          refine lv_iload hx hb dL_isReason_79 (lv_at hl 0 rfl) ?_
          refine lv_if_eq (tgt := 97) hx hb dL_isReason_81 (by decide) (fun c_6 => ?_) (fun c_6 => ?_)
          · rw [if_pos c_6] at hT
            refine lv_iinc (v := v6_3 + 1) (lv' := [(6, .int (v6_3 + 1)), (8, .int s0_77), (0, .ref g0), (1, .int a1), (2, .ref e0), (3, .int a2), (4, .int a3), (5, .int a4)]) hx hb dL_isReason_97 hl (k := 7) rfl (by rfl) (by decide) rfl (fun ls hl => ?_)
            refine lv_goto (tgt := 3) hx hb dL_isReason_100 (by decide) ?_
            exact ih_3 (v6_3 + 1) (wi_up hu_3 (Int32.not_le.mp c_1)) hT (wi_inc hn_3 (Int32.not_le.mp c_1)) _ _ hP hD hS _ (lv_sub hl [2, 3, 4, 5, 6, 7, 0] rfl)
          · rw [if_neg c_6] at hT
            refine lv_iload hx hb dL_isReason_84 (lv_at hl 6 rfl) ?_
            refine lv_iload hx hb dL_isReason_86 (lv_at hl 7 rfl) ?_
            refine lv_icmp_ne (tgt := 95) hx hb dL_isReason_88 (by decide) (fun c_7 => ?_) (fun c_7 => ?_)
            · rw [if_neg c_7] at hT
              refine lv_iconst (v := 0) hx hb dL_isReason_95 (by decide) ?_
              exact END 0 hT (by decide) _ _ hP hD hS _ _ dL_isReason_96
            · rw [if_pos c_7] at hT
              refine lv_iconst (v := 1) hx hb dL_isReason_91 (by decide) ?_
              refine lv_goto (tgt := 96) hx hb dL_isReason_92 (by decide) ?_
              exact END 1 hT (by decide) _ _ hP hD hS _ _ dL_isReason_96
        have J_76 : ∀ (_ : Unit), TT = m_k_L_isReason_76 a4 (m_k_L_isReason_3 pp gf ef a1 a2 a3 a4 n_3) v6_3 → ∀ (H : Heap) (locs : List Loc), va_P D vwCl ([(g0, .inl (ty 6, a1.toNatClampNeg, .inr (.inr (.inr (.inr gf))))), (e0, .inl (ty 0, 6, .inl ef))] ++ pw ty pp) H → va_D A ([(g0, .inl (ty 6, a1.toNatClampNeg, .inr (.inr (.inr (.inr gf))))), (e0, .inl (ty 0, 6, .inl ef))] ++ pw ty pp) → va_S A s.heap H locs → ∀ ls : Array Slot, lv_has ls 9 [(0, .ref g0), (1, .int a1), (2, .ref e0), (3, .int a2), (4, .int a3), (5, .int a4), (6, .int v6_3)] → W p l e (headSpec vs_k_L_isReason { frames := 1, cells := 0, slots := 0, locals := 22 }).room s m ([.ref g0, .int a1, .ref e0, .int a2, .int a3, .int a4] : List Value).toArray below meth c H locs 0 0 (MQ below (va_Qi (fun (r : Int32) (u : va_W) => (r = TT ∧ (TT = 0 ∨ TT = 1) ∧ (u = ([(g0, .inl (ty 6, a1.toNatClampNeg, .inr (.inr (.inr (.inr gf))))), (e0, .inl (ty 0, 6, .inl ef))] ++ pw ty pp)))) (wq_B D A) A) ([.ref g0, .int a1, .ref e0, .int a2, .int a3, .int a4] : List Value).toArray s 0 0 A) (F0 m 76 ls []) := by
          intro _ hT  H locs hP hD hS ls hl
          rw [m_k_L_isReason_76] at hT
          refine lv_iconst (v := 0) hx hb dL_isReason_76 (by decide) ?_
          exact J_77 0 hT (by decide) _ _ hP hD hS _ (lv_sub hl [0, 1, 2, 3, 4, 5, 6] rfl)
        refine lv_icmp_eq (tgt := 76) hx hb dL_isReason_27 (by decide) (fun c_8 => ?_) (fun c_8 => ?_)
        · rw [if_pos c_8] at hT
          exact J_76 () hT _ _ hP hD hS _ (lv_sub hl [1, 2, 3, 4, 5, 6, 7] rfl)
        · rw [if_neg c_8] at hT
          refine lv_aload_n hx hb dL_isReason_30 rfl (lv_at hl 1 rfl) ?_
          refine lv_iload hx hb dL_isReason_31 (lv_at hl 7 rfl) ?_
          refine va_aldq (D := D) hx hb hK hP 0 6 rfl rfl (wi_inN hn_3 (Int32.lt_iff_toInt_lt.mp (Int32.not_le.mp c_1))) dL_isReason_33 ?_
          obtain ⟨o_33, ho_33, hmo_33⟩ := hrr v6_3 hn_3 (Int32.lt_iff_toInt_lt.mp (Int32.not_le.mp c_1))
          rw [ho_33, oE_some] at hT
          rw [ho_33]
          refine W.eq (g2 := F0 m 34 ls [.ref o_33]) rfl ?_
          refine lv_iload_n hx hb dL_isReason_34 rfl (lv_at hl 4 rfl) ?_
          obtain ⟨t_35, ht_35⟩ : ∃ t, t = m_k_L_isHeld pp o_33 a2 := ⟨_, rfl⟩
          rw [lE_eq ht_35] at hT
          refine wq_iP (wc := []) (wr := [(g0, .inl (ty 6, a1.toNatClampNeg, .inr (.inr (.inr (.inr gf))))), (e0, .inl (ty 0, 6, .inl ef))]) (pl := pw ty pp) (ux := []) (va_runS (As := [.ref o_33, .int a2]) (rest := []) ⟨hx, hb, hml, hown, hts⟩ (k_L_isHeld l D ty td mi H.size pp o_33 a2 hok hmo_33 t_35 ht_35) (va_cwS 2 hts gv_k_L_isReason_0 rfl rfl rfl (by decide +kernel) ⟨(Nat.le_of_ble_eq_true rfl), (Nat.le_of_ble_eq_true rfl)⟩) (wq_preSP hP hD hK hE hS hA [] rfl (by decide)) rfl rfl hl.1 rfl (lv_room (Nat.le_of_ble_eq_true rfl)) dL_isReason_35 ⟨(Nat.le_of_ble_eq_true rfl), (Nat.le_of_ble_eq_true rfl)⟩) hS hA hP hD [] [0, 1] rfl rfl (by decide) (by decide) (fun _ _ h => h.2.2) (fun r H locs hw hP hD hS => ?_)
          obtain ⟨hr0, c_11, -⟩ := hw
          subst r
          have hP : va_P D vwCl ([(g0, .inl (ty 6, a1.toNatClampNeg, .inr (.inr (.inr (.inr gf))))), (e0, .inl (ty 0, 6, .inl ef))] ++ pw ty pp) H := hP
          have hD : va_D A ([(g0, .inl (ty 6, a1.toNatClampNeg, .inr (.inr (.inr (.inr gf))))), (e0, .inl (ty 0, 6, .inl ef))] ++ pw ty pp) := hD
          refine W.widen (k := 0) (n := 0) (Nat.le_of_ble_eq_true rfl) (Nat.le_of_ble_eq_true rfl) ?_
          refine lv_if_eq (tgt := 76) hx hb dL_isReason_38 (by decide) (fun c_12 => ?_) (fun c_12 => ?_)
          · rw [if_pos c_12] at hT
            exact J_76 () hT _ _ hP hD hS _ (lv_sub hl [1, 2, 3, 4, 5, 6, 7] rfl)
          · rw [if_neg c_12] at hT
            refine lv_iload hx hb dL_isReason_41 (lv_at hl 0 rfl) ?_
            refine lv_iload hx hb dL_isReason_43 (lv_at hl 5 rfl) ?_
            refine lv_ishr hx hb dL_isReason_45 ?_
            refine lv_iconst (v := 1) hx hb dL_isReason_46 (by decide) ?_
            refine lv_iand hx hb dL_isReason_47 ?_
            refine lv_iconst (v := 1) hx hb dL_isReason_48 (by decide) ?_
            refine lv_icmp_ne (tgt := 76) hx hb dL_isReason_49 (by decide) (fun c_13 => ?_) (fun c_13 => ?_)
            · rw [if_neg c_13] at hT
              exact J_76 () hT _ _ hP hD hS _ (lv_sub hl [1, 2, 3, 4, 5, 6, 7] rfl)
            · rw [if_pos c_13] at hT
              refine lv_aload_n hx hb dL_isReason_52 rfl (lv_at hl 1 rfl) ?_
              refine lv_iload hx hb dL_isReason_53 (lv_at hl 7 rfl) ?_
              refine va_aldq (D := D) hx hb hK hP 0 6 rfl rfl (wi_inN hn_3 (Int32.lt_iff_toInt_lt.mp (Int32.not_le.mp c_1))) dL_isReason_55 ?_
              obtain ⟨o_55, ho_55, hmo_55⟩ := hrr v6_3 hn_3 (Int32.lt_iff_toInt_lt.mp (Int32.not_le.mp c_1))
              rw [ho_55, oE_some] at hT
              rw [ho_55]
              refine W.eq (g2 := F0 m 56 ls [.ref o_55]) rfl ?_
              refine lv_iconst (v := 0) hx hb dL_isReason_56 (by decide) ?_
              obtain ⟨k_14, hk_14⟩ := List.getElem?_of_mem (pw_row (ty := ty) (p := pp) (L := [(g0, .inl (ty 6, a1.toNatClampNeg, .inr (.inr (.inr (.inr gf))))), (e0, .inl (ty 0, 6, .inl ef))]) hmo_55)
              refine va_iald (D := D) hx hb hK hP k_14 0 hk_14 rfl (vp_in_iff.mpr (by decide)) dL_isReason_57 ?_
              refine lv_bipush (v := 99) hx hb dL_isReason_58 (by decide) ?_
              have J_72 : ∀ (_ : Unit), TT = m_k_L_isReason_72 a4 (m_k_L_isReason_3 pp gf ef a1 a2 a3 a4 n_3) v6_3 → ∀ (H : Heap) (locs : List Loc), va_P D vwCl ([(g0, .inl (ty 6, a1.toNatClampNeg, .inr (.inr (.inr (.inr gf))))), (e0, .inl (ty 0, 6, .inl ef))] ++ pw ty pp) H → va_D A ([(g0, .inl (ty 6, a1.toNatClampNeg, .inr (.inr (.inr (.inr gf))))), (e0, .inl (ty 0, 6, .inl ef))] ++ pw ty pp) → va_S A s.heap H locs → ∀ ls : Array Slot, lv_has ls 9 [(0, .ref g0), (1, .int a1), (2, .ref e0), (3, .int a2), (4, .int a3), (5, .int a4), (6, .int v6_3)] → W p l e (headSpec vs_k_L_isReason { frames := 1, cells := 0, slots := 0, locals := 22 }).room s m ([.ref g0, .int a1, .ref e0, .int a2, .int a3, .int a4] : List Value).toArray below meth c H locs 0 0 (MQ below (va_Qi (fun (r : Int32) (u : va_W) => (r = TT ∧ (TT = 0 ∨ TT = 1) ∧ (u = ([(g0, .inl (ty 6, a1.toNatClampNeg, .inr (.inr (.inr (.inr gf))))), (e0, .inl (ty 0, 6, .inl ef))] ++ pw ty pp)))) (wq_B D A) A) ([.ref g0, .int a1, .ref e0, .int a2, .int a3, .int a4] : List Value).toArray s 0 0 A) (F0 m 72 ls []) := by
                intro _ hT  H locs hP hD hS ls hl
                rw [m_k_L_isReason_72] at hT
                refine lv_iconst (v := 1) hx hb dL_isReason_72 (by decide) ?_
                refine lv_goto (tgt := 77) hx hb dL_isReason_73 (by decide) ?_
                exact J_77 1 hT (by decide) _ _ hP hD hS _ (lv_sub hl [0, 1, 2, 3, 4, 5, 6] rfl)
              refine lv_icmp_eq (tgt := 72) hx hb dL_isReason_60 (by decide) (fun c_15 => ?_) (fun c_15 => ?_)
              · rw [if_pos c_15] at hT
                exact J_72 () hT _ _ hP hD hS _ (lv_sub hl [1, 2, 3, 4, 5, 6, 7] rfl)
              · rw [if_neg c_15] at hT
                refine lv_iload hx hb dL_isReason_63 (lv_at hl 0 rfl) ?_
                refine lv_iconst (v := 1) hx hb dL_isReason_65 (by decide) ?_
                refine lv_iload hx hb dL_isReason_66 (lv_at hl 5 rfl) ?_
                refine lv_ishl hx hb dL_isReason_68 ?_
                refine lv_icmp_ne (tgt := 76) hx hb dL_isReason_69 (by decide) (fun c_16 => ?_) (fun c_16 => ?_)
                · rw [if_neg c_16] at hT
                  exact J_76 () hT _ _ hP hD hS _ (lv_sub hl [1, 2, 3, 4, 5, 6, 7] rfl)
                · rw [if_pos c_16] at hT
                  exact J_72 () hT _ _ hP hD hS _ (lv_sub hl [1, 2, 3, 4, 5, 6, 7] rfl)
  exact L_3 wF 0 (wF_up 0) hT (by decide) _ _ hP hD hS _ (lv_sub hl [1, 2, 3, 4, 5, 6, 0] rfl)
theorem dL_plain_0 : decode cL_plain 0 = .ok (.iload_n 1, 1) := by decide +kernel
theorem dL_plain_1 : decode cL_plain 1 = .ok (.tableswitch 205 0 12 #[67, 73, 79, 90, 99, 110, 132, 144, 156, 163, 172, 180, 200], 67) := by decide +kernel
theorem dL_plain_68 : decode cL_plain 68 = .ok (.aload_n 0, 1) := by decide +kernel
theorem dL_plain_69 : decode cL_plain 69 = .ok (.iload_n 2, 1) := by decide +kernel
theorem dL_plain_70 : decode cL_plain 70 = .ok (.invokevirtual 15, 3) := by decide +kernel
theorem dL_plain_73 : decode cL_plain 73 = .ok (.ireturn, 1) := by decide +kernel
theorem dL_plain_74 : decode cL_plain 74 = .ok (.aload_n 0, 1) := by decide +kernel
theorem dL_plain_75 : decode cL_plain 75 = .ok (.iload_n 2, 1) := by decide +kernel
theorem dL_plain_76 : decode cL_plain 76 = .ok (.invokevirtual 21, 3) := by decide +kernel
theorem dL_plain_79 : decode cL_plain 79 = .ok (.ireturn, 1) := by decide +kernel
theorem dL_plain_80 : decode cL_plain 80 = .ok (.aload_n 0, 1) := by decide +kernel
theorem dL_plain_81 : decode cL_plain 81 = .ok (.iload_n 2, 1) := by decide +kernel
theorem dL_plain_82 : decode cL_plain 82 = .ok (.iload_n 3, 1) := by decide +kernel
theorem dL_plain_83 : decode cL_plain 83 = .ok (.iload 4, 2) := by decide +kernel
theorem dL_plain_85 : decode cL_plain 85 = .ok (.iload 5, 2) := by decide +kernel
theorem dL_plain_87 : decode cL_plain 87 = .ok (.invokevirtual 24, 3) := by decide +kernel
theorem dL_plain_90 : decode cL_plain 90 = .ok (.ireturn, 1) := by decide +kernel
theorem dL_plain_91 : decode cL_plain 91 = .ok (.aload_n 0, 1) := by decide +kernel
theorem dL_plain_92 : decode cL_plain 92 = .ok (.iload_n 2, 1) := by decide +kernel
theorem dL_plain_93 : decode cL_plain 93 = .ok (.iload_n 3, 1) := by decide +kernel
theorem dL_plain_94 : decode cL_plain 94 = .ok (.iload 4, 2) := by decide +kernel
theorem dL_plain_96 : decode cL_plain 96 = .ok (.invokevirtual 28, 3) := by decide +kernel
theorem dL_plain_99 : decode cL_plain 99 = .ok (.ireturn, 1) := by decide +kernel
theorem dL_plain_100 : decode cL_plain 100 = .ok (.aload_n 0, 1) := by decide +kernel
theorem dL_plain_101 : decode cL_plain 101 = .ok (.iload_n 2, 1) := by decide +kernel
theorem dL_plain_102 : decode cL_plain 102 = .ok (.iload_n 3, 1) := by decide +kernel
theorem dL_plain_103 : decode cL_plain 103 = .ok (.iload 4, 2) := by decide +kernel
theorem dL_plain_105 : decode cL_plain 105 = .ok (.iload 5, 2) := by decide +kernel
theorem dL_plain_107 : decode cL_plain 107 = .ok (.invokevirtual 32, 3) := by decide +kernel
theorem dL_plain_110 : decode cL_plain 110 = .ok (.ireturn, 1) := by decide +kernel
theorem dL_plain_111 : decode cL_plain 111 = .ok (.aload_n 0, 1) := by decide +kernel
theorem dL_plain_112 : decode cL_plain 112 = .ok (.iload_n 2, 1) := by decide +kernel
theorem dL_plain_113 : decode cL_plain 113 = .ok (.iload_n 3, 1) := by decide +kernel
theorem dL_plain_114 : decode cL_plain 114 = .ok (.iconst 1, 1) := by decide +kernel
theorem dL_plain_115 : decode cL_plain 115 = .ok (.if_icmp .ne 7, 3) := by decide +kernel
theorem dL_plain_118 : decode cL_plain 118 = .ok (.iconst 1, 1) := by decide +kernel
theorem dL_plain_119 : decode cL_plain 119 = .ok (.goto 4, 3) := by decide +kernel
theorem dL_plain_122 : decode cL_plain 122 = .ok (.iconst 0, 1) := by decide +kernel
theorem dL_plain_123 : decode cL_plain 123 = .ok (.iload 4, 2) := by decide +kernel
theorem dL_plain_125 : decode cL_plain 125 = .ok (.iload 5, 2) := by decide +kernel
theorem dL_plain_127 : decode cL_plain 127 = .ok (.iload 6, 2) := by decide +kernel
theorem dL_plain_129 : decode cL_plain 129 = .ok (.invokevirtual 35, 3) := by decide +kernel
theorem dL_plain_132 : decode cL_plain 132 = .ok (.ireturn, 1) := by decide +kernel
theorem dL_plain_133 : decode cL_plain 133 = .ok (.aload_n 0, 1) := by decide +kernel
theorem dL_plain_134 : decode cL_plain 134 = .ok (.iload_n 2, 1) := by decide +kernel
theorem dL_plain_135 : decode cL_plain 135 = .ok (.iload_n 3, 1) := by decide +kernel
theorem dL_plain_136 : decode cL_plain 136 = .ok (.i2c, 1) := by decide +kernel
theorem dL_plain_137 : decode cL_plain 137 = .ok (.iload 4, 2) := by decide +kernel
theorem dL_plain_139 : decode cL_plain 139 = .ok (.iload 5, 2) := by decide +kernel
theorem dL_plain_141 : decode cL_plain 141 = .ok (.invokevirtual 39, 3) := by decide +kernel
theorem dL_plain_144 : decode cL_plain 144 = .ok (.ireturn, 1) := by decide +kernel
theorem dL_plain_145 : decode cL_plain 145 = .ok (.aload_n 0, 1) := by decide +kernel
theorem dL_plain_146 : decode cL_plain 146 = .ok (.iload_n 2, 1) := by decide +kernel
theorem dL_plain_147 : decode cL_plain 147 = .ok (.iload_n 3, 1) := by decide +kernel
theorem dL_plain_148 : decode cL_plain 148 = .ok (.i2c, 1) := by decide +kernel
theorem dL_plain_149 : decode cL_plain 149 = .ok (.iload 4, 2) := by decide +kernel
theorem dL_plain_151 : decode cL_plain 151 = .ok (.iload 5, 2) := by decide +kernel
theorem dL_plain_153 : decode cL_plain 153 = .ok (.invokevirtual 43, 3) := by decide +kernel
theorem dL_plain_156 : decode cL_plain 156 = .ok (.ireturn, 1) := by decide +kernel
theorem dL_plain_157 : decode cL_plain 157 = .ok (.aload_n 0, 1) := by decide +kernel
theorem dL_plain_158 : decode cL_plain 158 = .ok (.iload_n 2, 1) := by decide +kernel
theorem dL_plain_159 : decode cL_plain 159 = .ok (.iload_n 3, 1) := by decide +kernel
theorem dL_plain_160 : decode cL_plain 160 = .ok (.invokevirtual 46, 3) := by decide +kernel
theorem dL_plain_163 : decode cL_plain 163 = .ok (.ireturn, 1) := by decide +kernel
theorem dL_plain_164 : decode cL_plain 164 = .ok (.aload_n 0, 1) := by decide +kernel
theorem dL_plain_165 : decode cL_plain 165 = .ok (.iload_n 2, 1) := by decide +kernel
theorem dL_plain_166 : decode cL_plain 166 = .ok (.iload_n 3, 1) := by decide +kernel
theorem dL_plain_167 : decode cL_plain 167 = .ok (.iload 4, 2) := by decide +kernel
theorem dL_plain_169 : decode cL_plain 169 = .ok (.invokevirtual 50, 3) := by decide +kernel
theorem dL_plain_172 : decode cL_plain 172 = .ok (.ireturn, 1) := by decide +kernel
theorem dL_plain_173 : decode cL_plain 173 = .ok (.aload_n 0, 1) := by decide +kernel
theorem dL_plain_174 : decode cL_plain 174 = .ok (.iload_n 2, 1) := by decide +kernel
theorem dL_plain_175 : decode cL_plain 175 = .ok (.iload_n 3, 1) := by decide +kernel
theorem dL_plain_176 : decode cL_plain 176 = .ok (.i2c, 1) := by decide +kernel
theorem dL_plain_177 : decode cL_plain 177 = .ok (.invokevirtual 53, 3) := by decide +kernel
theorem dL_plain_180 : decode cL_plain 180 = .ok (.ireturn, 1) := by decide +kernel
theorem dL_plain_181 : decode cL_plain 181 = .ok (.aload_n 0, 1) := by decide +kernel
theorem dL_plain_182 : decode cL_plain 182 = .ok (.iload_n 2, 1) := by decide +kernel
theorem dL_plain_183 : decode cL_plain 183 = .ok (.iload_n 3, 1) := by decide +kernel
theorem dL_plain_184 : decode cL_plain 184 = .ok (.iload 4, 2) := by decide +kernel
theorem dL_plain_186 : decode cL_plain 186 = .ok (.iload 5, 2) := by decide +kernel
theorem dL_plain_188 : decode cL_plain 188 = .ok (.iconst 1, 1) := by decide +kernel
theorem dL_plain_189 : decode cL_plain 189 = .ok (.if_icmp .ne 7, 3) := by decide +kernel
theorem dL_plain_192 : decode cL_plain 192 = .ok (.iconst 1, 1) := by decide +kernel
theorem dL_plain_193 : decode cL_plain 193 = .ok (.goto 4, 3) := by decide +kernel
theorem dL_plain_196 : decode cL_plain 196 = .ok (.iconst 0, 1) := by decide +kernel
theorem dL_plain_197 : decode cL_plain 197 = .ok (.invokevirtual 57, 3) := by decide +kernel
theorem dL_plain_200 : decode cL_plain 200 = .ok (.ireturn, 1) := by decide +kernel
theorem dL_plain_201 : decode cL_plain 201 = .ok (.aload_n 0, 1) := by decide +kernel
theorem dL_plain_202 : decode cL_plain 202 = .ok (.invokevirtual 61, 3) := by decide +kernel
theorem dL_plain_205 : decode cL_plain 205 = .ok (.ireturn, 1) := by decide +kernel
theorem dL_plain_206 : decode cL_plain 206 = .ok (.aload_n 0, 1) := by decide +kernel
theorem dL_plain_207 : decode cL_plain 207 = .ok (.invokevirtual 65, 3) := by decide +kernel
theorem dL_plain_210 : decode cL_plain 210 = .ok (.ireturn, 1) := by decide +kernel
abbrev r_k_L_plain_0 : Type := Int32 × Int32 × Int32 × (Nat → Int32) × Int32 × Int32 × Int32
def m_k_L_plain_0 (pn : Int32) (pl : Nat → Int32) (cu : Int32) (ic : Int32) (kp : Int32) (a1 : Int32) : r_k_L_plain_0 :=
  lE (m_k_X10_addPredicate pn pl cu ic kp a1) (fun t_70 =>
    if t_70.1 = 0 then
      (0, t_70.2.1, t_70.2.2.1, t_70.2.2.2.1, t_70.2.2.2.2.1, t_70.2.2.2.2.2.1, t_70.2.2.2.2.2.2)
    else
      if t_70.1 = 2 then
        (2, 0, t_70.2.2.1, t_70.2.2.2.1, t_70.2.2.2.2.1, t_70.2.2.2.2.2.1, t_70.2.2.2.2.2.2)
      else
        (3, 0, t_70.2.2.1, t_70.2.2.2.1, t_70.2.2.2.2.1, t_70.2.2.2.2.2.1, t_70.2.2.2.2.2.2))
def vs_k_L_plain_0 : List Cond := .code yL_plain cL_plain 7 (some .int) :: ([.methodLink RL 15 yX10_addPredicate, .instanceMethod yX10_addPredicate, .selects RX10 yX10_addPredicate yX10_addPredicate, .initialized RX10] ++ (vs_k_X10_addPredicate))
set_option maxRecDepth 20000 in
theorem gv_k_L_plain_0_0 : GoodIn vs_k_L_plain_0 (wsV RL 15 RX10 yX10_addPredicate vs_k_X10_addPredicate) := goodIn_app (goodIn_sub (by decide +kernel) (by decide +kernel)) (goodIn_sub (fun _ h => List.mem_cons_of_mem _ (List.mem_append_right _ (h))) (by decide +kernel))
set_option maxHeartbeats 4000000 in
set_option maxRecDepth 100000 in
theorem k_L_plain_0 (l : Launch) (hl9 : l.stackTraces = false) (D : va_G) (ty : Nat → ClassId) (td mi sz : Nat) (x0 : Nat) (x1 : Nat) (x8 : Nat) (x20 : Nat) (x39 : Nat) (x41 : Nat) (x43 : Nat) (x45 : Nat) (x2 : Nat) (pn : Int32) (x3 : Nat) (rn : Int32) (x4 : Nat) (x5 : Nat) (tn : Int32) (x6 : Nat) (x7 : Nat) (en : Int32) (pl : Nat → Int32) (x9 : Nat) (x10 : Nat) (x12 : Nat) (x14 : Nat) (hn : Int32) (x15 : Nat) (x16 : Nat) (x17 : Nat) (kn : Int32) (x18 : Nat) (x19 : Nat) (on : Int32) (cu : Int32) (pu : Int32) (gw : Int32) (x21 : Nat) (x28 : Nat) (x35 : Nat) (an : Int32) (x36 : Nat) (x37 : Nat) (x38 : Nat) (ch : Int32) (cg : Int32) (fb : Int32) (mh : Int32) (ml : Int32) (ih : Int32) (lb : Int32) (ic : Int32) (x46 : Nat) (x47 : Nat) (nn : Int32) (kp : Int32) (a1 : Int32) (a2 : Int32) (a3 : Int32) (a4 : Int32) (a5 : Int32) (TT : r_k_L_plain_0) (hTT : TT = m_k_L_plain_0 pn pl cu ic kp a1) : vx_Met l yL_plain vs_k_L_plain_0 { frames := 7, cells := 1, slots := 6, locals := 103 } (va_Pc [.ref x0, .int 0, .int a1, .int a2, .int a3, .int a4, .int a5] (wq_P D ty td mi [(x0, .inr (12, [.ref x1, .ref x8, .ref x20, .ref x39, .ref x41, .ref x43, .ref x45])), (x1, .inr (8, [.ref x2, .int pn, .ref x3, .int rn, .ref x4, .ref x5, .int tn, .ref x6, .ref x7, .int en])), (x2, .inl (ty 0, 6, .inl pl)), (x8, .inr (5, [.ref x1, .ref x9, .ref x10, .ref x12, .ref x14, .int hn, .ref x15, .ref x16, .ref x17, .int kn, .ref x18, .ref x19, .int on, .int cu, .int pu, .int gw])), (x20, .inr (11, [.ref x1, .ref x8, .ref x21, .ref x28, .ref x35, .int an, .ref x36, .ref x37, .ref x38, .int ch, .int cg, .int fb, .int mh, .int ml, .int ih, .int lb, .int ic])), (x45, .inr (2, [.ref x46, .ref x47, .int nn, .int kp]))] sz)) (va_Qi (fun (r : Int32) (u : va_W) => (TT.1 = 0 ∧ r = TT.2.1 ∧ (u = [(x0, .inr (12, [.ref x1, .ref x8, .ref x20, .ref x39, .ref x41, .ref x43, .ref x45])), (x1, .inr (8, [.ref x2, .int TT.2.2.1, .ref x3, .int rn, .ref x4, .ref x5, .int tn, .ref x6, .ref x7, .int en])), (x2, .inl (ty 0, 6, .inl TT.2.2.2.1)), (x8, .inr (5, [.ref x1, .ref x9, .ref x10, .ref x12, .ref x14, .int hn, .ref x15, .ref x16, .ref x17, .int kn, .ref x18, .ref x19, .int on, .int TT.2.2.2.2.2.2, .int pu, .int gw])), (x20, .inr (11, [.ref x1, .ref x8, .ref x21, .ref x28, .ref x35, .int an, .ref x36, .ref x37, .ref x38, .int ch, .int cg, .int fb, .int mh, .int ml, .int ih, .int lb, .int TT.2.2.2.2.1])), (x45, .inr (2, [.ref x46, .ref x47, .int nn, .int TT.2.2.2.2.2.1]))]))) (wq_B D (va_A [(x0, .inr (12, [.ref x1, .ref x8, .ref x20, .ref x39, .ref x41, .ref x43, .ref x45])), (x1, .inr (8, [.ref x2, .int pn, .ref x3, .int rn, .ref x4, .ref x5, .int tn, .ref x6, .ref x7, .int en])), (x2, .inl (ty 0, 6, .inl pl)), (x8, .inr (5, [.ref x1, .ref x9, .ref x10, .ref x12, .ref x14, .int hn, .ref x15, .ref x16, .ref x17, .int kn, .ref x18, .ref x19, .int on, .int cu, .int pu, .int gw])), (x20, .inr (11, [.ref x1, .ref x8, .ref x21, .ref x28, .ref x35, .int an, .ref x36, .ref x37, .ref x38, .int ch, .int cg, .int fb, .int mh, .int ml, .int ih, .int lb, .int ic])), (x45, .inr (2, [.ref x46, .ref x47, .int nn, .int kp]))] sz)) (va_A [(x0, .inr (12, [.ref x1, .ref x8, .ref x20, .ref x39, .ref x41, .ref x43, .ref x45])), (x1, .inr (8, [.ref x2, .int pn, .ref x3, .int rn, .ref x4, .ref x5, .int tn, .ref x6, .ref x7, .int en])), (x2, .inl (ty 0, 6, .inl pl)), (x8, .inr (5, [.ref x1, .ref x9, .ref x10, .ref x12, .ref x14, .int hn, .ref x15, .ref x16, .ref x17, .int kn, .ref x18, .ref x19, .int on, .int cu, .int pu, .int gw])), (x20, .inr (11, [.ref x1, .ref x8, .ref x21, .ref x28, .ref x35, .int an, .ref x36, .ref x37, .ref x38, .int ch, .int cg, .int fb, .int mh, .int ml, .int ih, .int lb, .int ic])), (x45, .inr (2, [.ref x46, .ref x47, .int nn, .int kp]))] sz)) (vx_X (fun u : String × va_W => (TT.1 = 2 ∧ u = ("java/lang/IllegalArgumentException", [(x0, .inr (12, [.ref x1, .ref x8, .ref x20, .ref x39, .ref x41, .ref x43, .ref x45])), (x1, .inr (8, [.ref x2, .int TT.2.2.1, .ref x3, .int rn, .ref x4, .ref x5, .int tn, .ref x6, .ref x7, .int en])), (x2, .inl (ty 0, 6, .inl TT.2.2.2.1)), (x8, .inr (5, [.ref x1, .ref x9, .ref x10, .ref x12, .ref x14, .int hn, .ref x15, .ref x16, .ref x17, .int kn, .ref x18, .ref x19, .int on, .int TT.2.2.2.2.2.2, .int pu, .int gw])), (x20, .inr (11, [.ref x1, .ref x8, .ref x21, .ref x28, .ref x35, .int an, .ref x36, .ref x37, .ref x38, .int ch, .int cg, .int fb, .int mh, .int ml, .int ih, .int lb, .int TT.2.2.2.2.1])), (x45, .inr (2, [.ref x46, .ref x47, .int nn, .int TT.2.2.2.2.2.1]))])) ∨ (TT.1 = 3 ∧ u = ("java/lang/IllegalStateException", [(x0, .inr (12, [.ref x1, .ref x8, .ref x20, .ref x39, .ref x41, .ref x43, .ref x45])), (x1, .inr (8, [.ref x2, .int TT.2.2.1, .ref x3, .int rn, .ref x4, .ref x5, .int tn, .ref x6, .ref x7, .int en])), (x2, .inl (ty 0, 6, .inl TT.2.2.2.1)), (x8, .inr (5, [.ref x1, .ref x9, .ref x10, .ref x12, .ref x14, .int hn, .ref x15, .ref x16, .ref x17, .int kn, .ref x18, .ref x19, .int on, .int TT.2.2.2.2.2.2, .int pu, .int gw])), (x20, .inr (11, [.ref x1, .ref x8, .ref x21, .ref x28, .ref x35, .int an, .ref x36, .ref x37, .ref x38, .int ch, .int cg, .int fb, .int mh, .int ml, .int ih, .int lb, .int TT.2.2.2.2.1])), (x45, .inr (2, [.ref x46, .ref x47, .int nn, .int TT.2.2.2.2.2.1]))]))) (wq_BX D (va_A [(x0, .inr (12, [.ref x1, .ref x8, .ref x20, .ref x39, .ref x41, .ref x43, .ref x45])), (x1, .inr (8, [.ref x2, .int pn, .ref x3, .int rn, .ref x4, .ref x5, .int tn, .ref x6, .ref x7, .int en])), (x2, .inl (ty 0, 6, .inl pl)), (x8, .inr (5, [.ref x1, .ref x9, .ref x10, .ref x12, .ref x14, .int hn, .ref x15, .ref x16, .ref x17, .int kn, .ref x18, .ref x19, .int on, .int cu, .int pu, .int gw])), (x20, .inr (11, [.ref x1, .ref x8, .ref x21, .ref x28, .ref x35, .int an, .ref x36, .ref x37, .ref x38, .int ch, .int cg, .int fb, .int mh, .int ml, .int ih, .int lb, .int ic])), (x45, .inr (2, [.ref x46, .ref x47, .int nn, .int kp]))] sz)) (va_A [(x0, .inr (12, [.ref x1, .ref x8, .ref x20, .ref x39, .ref x41, .ref x43, .ref x45])), (x1, .inr (8, [.ref x2, .int pn, .ref x3, .int rn, .ref x4, .ref x5, .int tn, .ref x6, .ref x7, .int en])), (x2, .inl (ty 0, 6, .inl pl)), (x8, .inr (5, [.ref x1, .ref x9, .ref x10, .ref x12, .ref x14, .int hn, .ref x15, .ref x16, .ref x17, .int kn, .ref x18, .ref x19, .int on, .int cu, .int pu, .int gw])), (x20, .inr (11, [.ref x1, .ref x8, .ref x21, .ref x28, .ref x35, .int an, .ref x36, .ref x37, .ref x38, .int ch, .int cg, .int fb, .int mh, .int ml, .int ih, .int lb, .int ic])), (x45, .inr (2, [.ref x46, .ref x47, .int nn, .int kp]))] sz)) 1 6 (va_A [(x0, .inr (12, [.ref x1, .ref x8, .ref x20, .ref x39, .ref x41, .ref x43, .ref x45])), (x1, .inr (8, [.ref x2, .int pn, .ref x3, .int rn, .ref x4, .ref x5, .int tn, .ref x6, .ref x7, .int en])), (x2, .inl (ty 0, 6, .inl pl)), (x8, .inr (5, [.ref x1, .ref x9, .ref x10, .ref x12, .ref x14, .int hn, .ref x15, .ref x16, .ref x17, .int kn, .ref x18, .ref x19, .int on, .int cu, .int pu, .int gw])), (x20, .inr (11, [.ref x1, .ref x8, .ref x21, .ref x28, .ref x35, .int an, .ref x36, .ref x37, .ref x38, .int ch, .int cg, .int fb, .int mh, .int ml, .int ih, .int lb, .int ic])), (x45, .inr (2, [.ref x46, .ref x47, .int nn, .int kp]))] sz) := by
  refine vx_ofW (cc := cL_plain) (maxL := 7) (ret := (some .int)) (by decide) rfl ?_
  intro p e s m args below meth c s₁ B hml hEx hv
  obtain ⟨rfl, hsz, hP, hK, hD0, hE⟩ := hv
  have hx := B.exec
  have hb := B.bytes
  have hr := B.returns
  have hts := atoms_spec (ws := vs_k_L_plain_0) B.pre
  have hown : s.vm.findClass RL = some m.cls := findClass_of_methodNamed B.named
  have hlocks := B.notSynchronized
  subst hsz
  have hD := hD0.self (sz := s.heap.size)
  generalize hAe : va_A [(x0, .inr (12, [.ref x1, .ref x8, .ref x20, .ref x39, .ref x41, .ref x43, .ref x45])), (x1, .inr (8, [.ref x2, .int pn, .ref x3, .int rn, .ref x4, .ref x5, .int tn, .ref x6, .ref x7, .int en])), (x2, .inl (ty 0, 6, .inl pl)), (x8, .inr (5, [.ref x1, .ref x9, .ref x10, .ref x12, .ref x14, .int hn, .ref x15, .ref x16, .ref x17, .int kn, .ref x18, .ref x19, .int on, .int cu, .int pu, .int gw])), (x20, .inr (11, [.ref x1, .ref x8, .ref x21, .ref x28, .ref x35, .int an, .ref x36, .ref x37, .ref x38, .int ch, .int cg, .int fb, .int mh, .int ml, .int ih, .int lb, .int ic])), (x45, .inr (2, [.ref x46, .ref x47, .int nn, .int kp]))] s.heap.size = A at hD hE ⊢
  have hA : ∀ q : Nat, s.heap.size ≤ q → A q := fun q h => by rw [← hAe]; exact Or.inr h
  have hS : va_S A s.heap s.heap [] := va_S.rf
  have hP : va_P D vwCl [(x0, .inr (12, [.ref x1, .ref x8, .ref x20, .ref x39, .ref x41, .ref x43, .ref x45])), (x1, .inr (8, [.ref x2, .int pn, .ref x3, .int rn, .ref x4, .ref x5, .int tn, .ref x6, .ref x7, .int en])), (x2, .inl (ty 0, 6, .inl pl)), (x8, .inr (5, [.ref x1, .ref x9, .ref x10, .ref x12, .ref x14, .int hn, .ref x15, .ref x16, .ref x17, .int kn, .ref x18, .ref x19, .int on, .int cu, .int pu, .int gw])), (x20, .inr (11, [.ref x1, .ref x8, .ref x21, .ref x28, .ref x35, .int an, .ref x36, .ref x37, .ref x38, .int ch, .int cg, .int fb, .int mh, .int ml, .int ih, .int lb, .int ic])), (x45, .inr (2, [.ref x46, .ref x47, .int nn, .int kp]))] s.heap := hP
  have hl := lv_entry ([.ref x0, .int 0, .int a1, .int a2, .int a3, .int a4, .int a5]) (n := 7) (Nat.le_of_ble_eq_true rfl)
  rw [lg_entry_eq]
  generalize (lg_sl ([.ref x0, .int 0, .int a1, .int a2, .int a3, .int a4, .int a5]) ++ List.replicate (7 - (lg_sl ([.ref x0, .int 0, .int a1, .int a2, .int a3, .int a4, .int a5])).length) Slot.unset).toArray = ls at hl ⊢
  have hl : lv_has ls 7 [(0, .ref x0), (1, .int 0), (2, .int a1), (3, .int a2), (4, .int a3), (5, .int a4), (6, .int a5)] := hl
  have END : ∀ (r : Int32) (e0 : Int32) (e1 : Nat → Int32) (e2 : Int32) (e3 : Int32) (e4 : Int32), TT = (0, r, e0, e1, e2, e3, e4) → ∀ (H : Heap) (locs : List Loc), va_P D vwCl [(x0, .inr (12, [.ref x1, .ref x8, .ref x20, .ref x39, .ref x41, .ref x43, .ref x45])), (x1, .inr (8, [.ref x2, .int e0, .ref x3, .int rn, .ref x4, .ref x5, .int tn, .ref x6, .ref x7, .int en])), (x2, .inl (ty 0, 6, .inl e1)), (x8, .inr (5, [.ref x1, .ref x9, .ref x10, .ref x12, .ref x14, .int hn, .ref x15, .ref x16, .ref x17, .int kn, .ref x18, .ref x19, .int on, .int e4, .int pu, .int gw])), (x20, .inr (11, [.ref x1, .ref x8, .ref x21, .ref x28, .ref x35, .int an, .ref x36, .ref x37, .ref x38, .int ch, .int cg, .int fb, .int mh, .int ml, .int ih, .int lb, .int e2])), (x45, .inr (2, [.ref x46, .ref x47, .int nn, .int e3]))] H → va_D A [(x0, .inr (12, [.ref x1, .ref x8, .ref x20, .ref x39, .ref x41, .ref x43, .ref x45])), (x1, .inr (8, [.ref x2, .int e0, .ref x3, .int rn, .ref x4, .ref x5, .int tn, .ref x6, .ref x7, .int en])), (x2, .inl (ty 0, 6, .inl e1)), (x8, .inr (5, [.ref x1, .ref x9, .ref x10, .ref x12, .ref x14, .int hn, .ref x15, .ref x16, .ref x17, .int kn, .ref x18, .ref x19, .int on, .int e4, .int pu, .int gw])), (x20, .inr (11, [.ref x1, .ref x8, .ref x21, .ref x28, .ref x35, .int an, .ref x36, .ref x37, .ref x38, .int ch, .int cg, .int fb, .int mh, .int ml, .int ih, .int lb, .int e2])), (x45, .inr (2, [.ref x46, .ref x47, .int nn, .int e3]))] → va_S A s.heap H locs → ∀ (ls : Array Slot) (pc : Nat), decode cL_plain pc = .ok (.ireturn, 1) → W p l e (headSpec vs_k_L_plain_0 { frames := 7, cells := 1, slots := 6, locals := 103 }).room s m ([.ref x0, .int 0, .int a1, .int a2, .int a3, .int a4, .int a5] : List Value).toArray below meth c H locs 1 6 (vx_MQ below (va_Qi (fun (r : Int32) (u : va_W) => (TT.1 = 0 ∧ r = TT.2.1 ∧ (u = [(x0, .inr (12, [.ref x1, .ref x8, .ref x20, .ref x39, .ref x41, .ref x43, .ref x45])), (x1, .inr (8, [.ref x2, .int TT.2.2.1, .ref x3, .int rn, .ref x4, .ref x5, .int tn, .ref x6, .ref x7, .int en])), (x2, .inl (ty 0, 6, .inl TT.2.2.2.1)), (x8, .inr (5, [.ref x1, .ref x9, .ref x10, .ref x12, .ref x14, .int hn, .ref x15, .ref x16, .ref x17, .int kn, .ref x18, .ref x19, .int on, .int TT.2.2.2.2.2.2, .int pu, .int gw])), (x20, .inr (11, [.ref x1, .ref x8, .ref x21, .ref x28, .ref x35, .int an, .ref x36, .ref x37, .ref x38, .int ch, .int cg, .int fb, .int mh, .int ml, .int ih, .int lb, .int TT.2.2.2.2.1])), (x45, .inr (2, [.ref x46, .ref x47, .int nn, .int TT.2.2.2.2.2.1]))]))) (wq_B D A) A) (vx_X (fun u : String × va_W => (TT.1 = 2 ∧ u = ("java/lang/IllegalArgumentException", [(x0, .inr (12, [.ref x1, .ref x8, .ref x20, .ref x39, .ref x41, .ref x43, .ref x45])), (x1, .inr (8, [.ref x2, .int TT.2.2.1, .ref x3, .int rn, .ref x4, .ref x5, .int tn, .ref x6, .ref x7, .int en])), (x2, .inl (ty 0, 6, .inl TT.2.2.2.1)), (x8, .inr (5, [.ref x1, .ref x9, .ref x10, .ref x12, .ref x14, .int hn, .ref x15, .ref x16, .ref x17, .int kn, .ref x18, .ref x19, .int on, .int TT.2.2.2.2.2.2, .int pu, .int gw])), (x20, .inr (11, [.ref x1, .ref x8, .ref x21, .ref x28, .ref x35, .int an, .ref x36, .ref x37, .ref x38, .int ch, .int cg, .int fb, .int mh, .int ml, .int ih, .int lb, .int TT.2.2.2.2.1])), (x45, .inr (2, [.ref x46, .ref x47, .int nn, .int TT.2.2.2.2.2.1]))])) ∨ (TT.1 = 3 ∧ u = ("java/lang/IllegalStateException", [(x0, .inr (12, [.ref x1, .ref x8, .ref x20, .ref x39, .ref x41, .ref x43, .ref x45])), (x1, .inr (8, [.ref x2, .int TT.2.2.1, .ref x3, .int rn, .ref x4, .ref x5, .int tn, .ref x6, .ref x7, .int en])), (x2, .inl (ty 0, 6, .inl TT.2.2.2.1)), (x8, .inr (5, [.ref x1, .ref x9, .ref x10, .ref x12, .ref x14, .int hn, .ref x15, .ref x16, .ref x17, .int kn, .ref x18, .ref x19, .int on, .int TT.2.2.2.2.2.2, .int pu, .int gw])), (x20, .inr (11, [.ref x1, .ref x8, .ref x21, .ref x28, .ref x35, .int an, .ref x36, .ref x37, .ref x38, .int ch, .int cg, .int fb, .int mh, .int ml, .int ih, .int lb, .int TT.2.2.2.2.1])), (x45, .inr (2, [.ref x46, .ref x47, .int nn, .int TT.2.2.2.2.2.1]))]))) (wq_BX D A) A) ([.ref x0, .int 0, .int a1, .int a2, .int a3, .int a4, .int a5] : List Value).toArray s 1 6 A) (F0 m pc ls [.int r]) := by
    intro r e0 e1 e2 e3 e4 hT H locs hP hD hS ls pc hd
    have hM : TT = (0, r, e0, e1, e2, e3, e4) := hT
    refine vx_ret ?_
    exact W.iret (v := r) hx hb hr (fun t ht hW => ⟨⟨r, [(x0, .inr (12, [.ref x1, .ref x8, .ref x20, .ref x39, .ref x41, .ref x43, .ref x45])), (x1, .inr (8, [.ref x2, .int e0, .ref x3, .int rn, .ref x4, .ref x5, .int tn, .ref x6, .ref x7, .int en])), (x2, .inl (ty 0, 6, .inl e1)), (x8, .inr (5, [.ref x1, .ref x9, .ref x10, .ref x12, .ref x14, .int hn, .ref x15, .ref x16, .ref x17, .int kn, .ref x18, .ref x19, .int on, .int e4, .int pu, .int gw])), (x20, .inr (11, [.ref x1, .ref x8, .ref x21, .ref x28, .ref x35, .int an, .ref x36, .ref x37, .ref x38, .int ch, .int cg, .int fb, .int mh, .int ml, .int ih, .int lb, .int e2])), (x45, .inr (2, [.ref x46, .ref x47, .int nn, .int e3]))], rfl, ⟨(by rw [hM]), (by rw [hM]), (by rw [hM])⟩, wq_B.of ht hP hD⟩, hS.F ht⟩) hS.2.2 hd
  have hT := hTT
  rw [m_k_L_plain_0] at hT
  refine lv_iload_n hx hb dL_plain_0 rfl (lv_at hl 1 rfl) ?_
  refine lv_tableIn (off := 67) (tgt := 68) hx hb dL_plain_1 (by decide) (by decide) rfl (by decide) ?_
  refine lv_aload_n hx hb dL_plain_68 rfl (lv_at hl 0 rfl) ?_
  refine lv_iload_n hx hb dL_plain_69 rfl (lv_at hl 2 rfl) ?_
  obtain ⟨t_70, ht_70⟩ : ∃ t, t = m_k_X10_addPredicate pn pl cu ic kp a1 := ⟨_, rfl⟩
  rw [lE_eq ht_70] at hT
  refine wq_xi (wc := [(x0, .inr (12, [.ref x1, .ref x8, .ref x20, .ref x39, .ref x41, .ref x43, .ref x45])), (x1, .inr (8, [.ref x2, .int pn, .ref x3, .int rn, .ref x4, .ref x5, .int tn, .ref x6, .ref x7, .int en])), (x2, .inl (ty 0, 6, .inl pl)), (x8, .inr (5, [.ref x1, .ref x9, .ref x10, .ref x12, .ref x14, .int hn, .ref x15, .ref x16, .ref x17, .int kn, .ref x18, .ref x19, .int on, .int cu, .int pu, .int gw])), (x20, .inr (11, [.ref x1, .ref x8, .ref x21, .ref x28, .ref x35, .int an, .ref x36, .ref x37, .ref x38, .int ch, .int cg, .int fb, .int mh, .int ml, .int ih, .int lb, .int ic])), (x45, .inr (2, [.ref x46, .ref x47, .int nn, .int kp]))]) (wr := []) (vx_runV (As := [.int a1]) (rest := []) ⟨hx, hb, hml, hown, hts⟩ (k_X10_addPredicate l hl9 D ty td mi s.heap.size x0 x1 x8 x20 x39 x41 x43 x45 x2 pn x3 rn x4 x5 tn x6 x7 en pl x9 x10 x12 x14 hn x15 x16 x17 kn x18 x19 on cu pu gw x21 x28 x35 an x36 x37 x38 ch cg fb mh ml ih lb ic x46 x47 nn kp a1 t_70 ht_70) (cwV 1 hts gv_k_L_plain_0_0 rfl rfl rfl (by decide +kernel) ⟨(Nat.le_of_ble_eq_true rfl), (Nat.le_of_ble_eq_true rfl)⟩) ⟨(wq_preS hP hD hK hE hS hA [0, 1, 2, 3, 4, 5] rfl (by decide) (As := .ref x0 :: [.int a1])).1, va_recv (q0 := 0) (ci := 12) hK hP rfl rfl, (wq_preS hP hD hK hE hS hA [0, 1, 2, 3, 4, 5] rfl (by decide) (As := .ref x0 :: [.int a1])).2⟩ rfl rfl hl.1 rfl (lv_room (Nat.le_of_ble_eq_true rfl)) dL_plain_70 ⟨(Nat.le_of_ble_eq_true rfl), (Nat.le_of_ble_eq_true rfl)⟩) hS hA hP hD [0, 1, 2, 3, 4, 5] [] rfl rfl (by decide) (by decide) (fun E9 u H locs q9 ce hw hP hD hS hce hcv hcl => ?_) (fun r u H locs hw hP hD hS => ?_)
  · rcases hw with ⟨c_1, hEq⟩ | ⟨c_2, hEq⟩
    · cases hEq
      rw [if_neg (show ¬ t_70.1 = 0 by rw [c_1]; decide)] at hT
      rw [if_pos c_1] at hT
      have hP : va_P D vwCl [(x0, .inr (12, [.ref x1, .ref x8, .ref x20, .ref x39, .ref x41, .ref x43, .ref x45])), (x1, .inr (8, [.ref x2, .int t_70.2.2.1, .ref x3, .int rn, .ref x4, .ref x5, .int tn, .ref x6, .ref x7, .int en])), (x2, .inl (ty 0, 6, .inl t_70.2.2.2.1)), (x8, .inr (5, [.ref x1, .ref x9, .ref x10, .ref x12, .ref x14, .int hn, .ref x15, .ref x16, .ref x17, .int kn, .ref x18, .ref x19, .int on, .int t_70.2.2.2.2.2.2, .int pu, .int gw])), (x20, .inr (11, [.ref x1, .ref x8, .ref x21, .ref x28, .ref x35, .int an, .ref x36, .ref x37, .ref x38, .int ch, .int cg, .int fb, .int mh, .int ml, .int ih, .int lb, .int t_70.2.2.2.2.1])), (x45, .inr (2, [.ref x46, .ref x47, .int nn, .int t_70.2.2.2.2.2.1]))] H := hP
      have hD : va_D A [(x0, .inr (12, [.ref x1, .ref x8, .ref x20, .ref x39, .ref x41, .ref x43, .ref x45])), (x1, .inr (8, [.ref x2, .int t_70.2.2.1, .ref x3, .int rn, .ref x4, .ref x5, .int tn, .ref x6, .ref x7, .int en])), (x2, .inl (ty 0, 6, .inl t_70.2.2.2.1)), (x8, .inr (5, [.ref x1, .ref x9, .ref x10, .ref x12, .ref x14, .int hn, .ref x15, .ref x16, .ref x17, .int kn, .ref x18, .ref x19, .int on, .int t_70.2.2.2.2.2.2, .int pu, .int gw])), (x20, .inr (11, [.ref x1, .ref x8, .ref x21, .ref x28, .ref x35, .int an, .ref x36, .ref x37, .ref x38, .int ch, .int cg, .int fb, .int mh, .int ml, .int ih, .int lb, .int t_70.2.2.2.2.1])), (x45, .inr (2, [.ref x46, .ref x47, .int nn, .int t_70.2.2.2.2.2.1]))] := hD
      refine vx_widen (k := 1) (n := 6) (Nat.le_of_ble_eq_true rfl) (Nat.le_of_ble_eq_true rfl) ?_
      exact vx_out (E := "java/lang/IllegalArgumentException") (fun x hx => (hEx x hx).elim) hlocks hce hcv hcl (fun t ht ha => wq_thrW0 (W := [(x0, .inr (12, [.ref x1, .ref x8, .ref x20, .ref x39, .ref x41, .ref x43, .ref x45])), (x1, .inr (8, [.ref x2, .int t_70.2.2.1, .ref x3, .int rn, .ref x4, .ref x5, .int tn, .ref x6, .ref x7, .int en])), (x2, .inl (ty 0, 6, .inl t_70.2.2.2.1)), (x8, .inr (5, [.ref x1, .ref x9, .ref x10, .ref x12, .ref x14, .int hn, .ref x15, .ref x16, .ref x17, .int kn, .ref x18, .ref x19, .int on, .int t_70.2.2.2.2.2.2, .int pu, .int gw])), (x20, .inr (11, [.ref x1, .ref x8, .ref x21, .ref x28, .ref x35, .int an, .ref x36, .ref x37, .ref x38, .int ch, .int cg, .int fb, .int mh, .int ml, .int ih, .int lb, .int t_70.2.2.2.2.1])), (x45, .inr (2, [.ref x46, .ref x47, .int nn, .int t_70.2.2.2.2.2.1]))]) hS hP hD (by exact (Or.inl ⟨(by rw [hT]), (by rw [hT])⟩)) ht) hS.2.2 (Nat.le_refl _) (Nat.le_refl _)
    · cases hEq
      rw [if_neg (show ¬ t_70.1 = 0 by rw [c_2]; decide)] at hT
      rw [if_neg (show ¬ t_70.1 = 2 by rw [c_2]; decide)] at hT
      have hP : va_P D vwCl [(x0, .inr (12, [.ref x1, .ref x8, .ref x20, .ref x39, .ref x41, .ref x43, .ref x45])), (x1, .inr (8, [.ref x2, .int t_70.2.2.1, .ref x3, .int rn, .ref x4, .ref x5, .int tn, .ref x6, .ref x7, .int en])), (x2, .inl (ty 0, 6, .inl t_70.2.2.2.1)), (x8, .inr (5, [.ref x1, .ref x9, .ref x10, .ref x12, .ref x14, .int hn, .ref x15, .ref x16, .ref x17, .int kn, .ref x18, .ref x19, .int on, .int t_70.2.2.2.2.2.2, .int pu, .int gw])), (x20, .inr (11, [.ref x1, .ref x8, .ref x21, .ref x28, .ref x35, .int an, .ref x36, .ref x37, .ref x38, .int ch, .int cg, .int fb, .int mh, .int ml, .int ih, .int lb, .int t_70.2.2.2.2.1])), (x45, .inr (2, [.ref x46, .ref x47, .int nn, .int t_70.2.2.2.2.2.1]))] H := hP
      have hD : va_D A [(x0, .inr (12, [.ref x1, .ref x8, .ref x20, .ref x39, .ref x41, .ref x43, .ref x45])), (x1, .inr (8, [.ref x2, .int t_70.2.2.1, .ref x3, .int rn, .ref x4, .ref x5, .int tn, .ref x6, .ref x7, .int en])), (x2, .inl (ty 0, 6, .inl t_70.2.2.2.1)), (x8, .inr (5, [.ref x1, .ref x9, .ref x10, .ref x12, .ref x14, .int hn, .ref x15, .ref x16, .ref x17, .int kn, .ref x18, .ref x19, .int on, .int t_70.2.2.2.2.2.2, .int pu, .int gw])), (x20, .inr (11, [.ref x1, .ref x8, .ref x21, .ref x28, .ref x35, .int an, .ref x36, .ref x37, .ref x38, .int ch, .int cg, .int fb, .int mh, .int ml, .int ih, .int lb, .int t_70.2.2.2.2.1])), (x45, .inr (2, [.ref x46, .ref x47, .int nn, .int t_70.2.2.2.2.2.1]))] := hD
      refine vx_widen (k := 1) (n := 6) (Nat.le_of_ble_eq_true rfl) (Nat.le_of_ble_eq_true rfl) ?_
      exact vx_out (E := "java/lang/IllegalStateException") (fun x hx => (hEx x hx).elim) hlocks hce hcv hcl (fun t ht ha => wq_thrW0 (W := [(x0, .inr (12, [.ref x1, .ref x8, .ref x20, .ref x39, .ref x41, .ref x43, .ref x45])), (x1, .inr (8, [.ref x2, .int t_70.2.2.1, .ref x3, .int rn, .ref x4, .ref x5, .int tn, .ref x6, .ref x7, .int en])), (x2, .inl (ty 0, 6, .inl t_70.2.2.2.1)), (x8, .inr (5, [.ref x1, .ref x9, .ref x10, .ref x12, .ref x14, .int hn, .ref x15, .ref x16, .ref x17, .int kn, .ref x18, .ref x19, .int on, .int t_70.2.2.2.2.2.2, .int pu, .int gw])), (x20, .inr (11, [.ref x1, .ref x8, .ref x21, .ref x28, .ref x35, .int an, .ref x36, .ref x37, .ref x38, .int ch, .int cg, .int fb, .int mh, .int ml, .int ih, .int lb, .int t_70.2.2.2.2.1])), (x45, .inr (2, [.ref x46, .ref x47, .int nn, .int t_70.2.2.2.2.2.1]))]) hS hP hD (by exact (Or.inr ⟨(by rw [hT]), (by rw [hT])⟩)) ht) hS.2.2 (Nat.le_refl _) (Nat.le_refl _)
  · obtain ⟨c_3, rfl, rfl⟩ := hw
    rw [if_pos c_3] at hT
    have hP : va_P D vwCl [(x0, .inr (12, [.ref x1, .ref x8, .ref x20, .ref x39, .ref x41, .ref x43, .ref x45])), (x1, .inr (8, [.ref x2, .int t_70.2.2.1, .ref x3, .int rn, .ref x4, .ref x5, .int tn, .ref x6, .ref x7, .int en])), (x2, .inl (ty 0, 6, .inl t_70.2.2.2.1)), (x8, .inr (5, [.ref x1, .ref x9, .ref x10, .ref x12, .ref x14, .int hn, .ref x15, .ref x16, .ref x17, .int kn, .ref x18, .ref x19, .int on, .int t_70.2.2.2.2.2.2, .int pu, .int gw])), (x20, .inr (11, [.ref x1, .ref x8, .ref x21, .ref x28, .ref x35, .int an, .ref x36, .ref x37, .ref x38, .int ch, .int cg, .int fb, .int mh, .int ml, .int ih, .int lb, .int t_70.2.2.2.2.1])), (x45, .inr (2, [.ref x46, .ref x47, .int nn, .int t_70.2.2.2.2.2.1]))] H := hP
    have hD : va_D A [(x0, .inr (12, [.ref x1, .ref x8, .ref x20, .ref x39, .ref x41, .ref x43, .ref x45])), (x1, .inr (8, [.ref x2, .int t_70.2.2.1, .ref x3, .int rn, .ref x4, .ref x5, .int tn, .ref x6, .ref x7, .int en])), (x2, .inl (ty 0, 6, .inl t_70.2.2.2.1)), (x8, .inr (5, [.ref x1, .ref x9, .ref x10, .ref x12, .ref x14, .int hn, .ref x15, .ref x16, .ref x17, .int kn, .ref x18, .ref x19, .int on, .int t_70.2.2.2.2.2.2, .int pu, .int gw])), (x20, .inr (11, [.ref x1, .ref x8, .ref x21, .ref x28, .ref x35, .int an, .ref x36, .ref x37, .ref x38, .int ch, .int cg, .int fb, .int mh, .int ml, .int ih, .int lb, .int t_70.2.2.2.2.1])), (x45, .inr (2, [.ref x46, .ref x47, .int nn, .int t_70.2.2.2.2.2.1]))] := hD
    refine W.widen (k := 1) (n := 6) (Nat.le_of_ble_eq_true rfl) (Nat.le_of_ble_eq_true rfl) ?_
    exact END t_70.2.1 t_70.2.2.1 t_70.2.2.2.1 t_70.2.2.2.2.1 t_70.2.2.2.2.2.1 t_70.2.2.2.2.2.2 hT _ _ hP hD hS _ _ dL_plain_73
