theorem dX9_headsToSplit_0 : decode cX9_headsToSplit 0 = .ok (.aload_n 0, 1) := by decide +kernel
theorem dX9_headsToSplit_1 : decode cX9_headsToSplit 1 = .ok (.iload_n 1, 1) := by decide +kernel
theorem dX9_headsToSplit_2 : decode cX9_headsToSplit 2 = .ok (.invokevirtual 241, 3) := by decide +kernel
theorem dX9_headsToSplit_5 : decode cX9_headsToSplit 5 = .ok (.istore_n 3, 1) := by decide +kernel
theorem dX9_headsToSplit_6 : decode cX9_headsToSplit 6 = .ok (.iconst 0, 1) := by decide +kernel
theorem dX9_headsToSplit_7 : decode cX9_headsToSplit 7 = .ok (.istore 4, 2) := by decide +kernel
theorem dX9_headsToSplit_9 : decode cX9_headsToSplit 9 = .ok (.iload 4, 2) := by decide +kernel
theorem dX9_headsToSplit_11 : decode cX9_headsToSplit 11 = .ok (.aload_n 0, 1) := by decide +kernel
theorem dX9_headsToSplit_12 : decode cX9_headsToSplit 12 = .ok (.getfield 276, 3) := by decide +kernel
theorem dX9_headsToSplit_15 : decode cX9_headsToSplit 15 = .ok (.if_icmp .ge 72, 3) := by decide +kernel
theorem dX9_headsToSplit_18 : decode cX9_headsToSplit 18 = .ok (.iload 4, 2) := by decide +kernel
theorem dX9_headsToSplit_20 : decode cX9_headsToSplit 20 = .ok (.sipush 300, 3) := by decide +kernel
theorem dX9_headsToSplit_23 : decode cX9_headsToSplit 23 = .ok (.if_icmp .ge 64, 3) := by decide +kernel
theorem dX9_headsToSplit_26 : decode cX9_headsToSplit 26 = .ok (.aload_n 0, 1) := by decide +kernel
theorem dX9_headsToSplit_27 : decode cX9_headsToSplit 27 = .ok (.getfield 21, 3) := by decide +kernel
theorem dX9_headsToSplit_30 : decode cX9_headsToSplit 30 = .ok (.iload 4, 2) := by decide +kernel
theorem dX9_headsToSplit_32 : decode cX9_headsToSplit 32 = .ok (.iaload, 1) := by decide +kernel
theorem dX9_headsToSplit_33 : decode cX9_headsToSplit 33 = .ok (.istore 5, 2) := by decide +kernel
theorem dX9_headsToSplit_35 : decode cX9_headsToSplit 35 = .ok (.aload_n 0, 1) := by decide +kernel
theorem dX9_headsToSplit_36 : decode cX9_headsToSplit 36 = .ok (.getfield 12, 3) := by decide +kernel
theorem dX9_headsToSplit_39 : decode cX9_headsToSplit 39 = .ok (.iload 5, 2) := by decide +kernel
theorem dX9_headsToSplit_41 : decode cX9_headsToSplit 41 = .ok (.invokevirtual 279, 3) := by decide +kernel
theorem dX9_headsToSplit_44 : decode cX9_headsToSplit 44 = .ok (.iload_n 2, 1) := by decide +kernel
theorem dX9_headsToSplit_45 : decode cX9_headsToSplit 45 = .ok (.iand, 1) := by decide +kernel
theorem dX9_headsToSplit_46 : decode cX9_headsToSplit 46 = .ok (.istore 6, 2) := by decide +kernel
theorem dX9_headsToSplit_48 : decode cX9_headsToSplit 48 = .ok (.aload_n 0, 1) := by decide +kernel
theorem dX9_headsToSplit_49 : decode cX9_headsToSplit 49 = .ok (.iload 5, 2) := by decide +kernel
theorem dX9_headsToSplit_51 : decode cX9_headsToSplit 51 = .ok (.invokevirtual 287, 3) := by decide +kernel
theorem dX9_headsToSplit_54 : decode cX9_headsToSplit 54 = .ok (.ifCond .ne 27, 3) := by decide +kernel
theorem dX9_headsToSplit_57 : decode cX9_headsToSplit 57 = .ok (.iload 6, 2) := by decide +kernel
theorem dX9_headsToSplit_59 : decode cX9_headsToSplit 59 = .ok (.iload_n 1, 1) := by decide +kernel
theorem dX9_headsToSplit_60 : decode cX9_headsToSplit 60 = .ok (.iand, 1) := by decide +kernel
theorem dX9_headsToSplit_61 : decode cX9_headsToSplit 61 = .ok (.ifCond .ne 20, 3) := by decide +kernel
theorem dX9_headsToSplit_64 : decode cX9_headsToSplit 64 = .ok (.aload_n 0, 1) := by decide +kernel
theorem dX9_headsToSplit_65 : decode cX9_headsToSplit 65 = .ok (.getfield 12, 3) := by decide +kernel
theorem dX9_headsToSplit_68 : decode cX9_headsToSplit 68 = .ok (.iload 5, 2) := by decide +kernel
theorem dX9_headsToSplit_70 : decode cX9_headsToSplit 70 = .ok (.iload_n 1, 1) := by decide +kernel
theorem dX9_headsToSplit_71 : decode cX9_headsToSplit 71 = .ok (.iload_n 3, 1) := by decide +kernel
theorem dX9_headsToSplit_72 : decode cX9_headsToSplit 72 = .ok (.invokevirtual 282, 3) := by decide +kernel
theorem dX9_headsToSplit_75 : decode cX9_headsToSplit 75 = .ok (.ifCond .eq 6, 3) := by decide +kernel
theorem dX9_headsToSplit_78 : decode cX9_headsToSplit 78 = .ok (.iload 6, 2) := by decide +kernel
theorem dX9_headsToSplit_80 : decode cX9_headsToSplit 80 = .ok (.ireturn, 1) := by decide +kernel
theorem dX9_headsToSplit_81 : decode cX9_headsToSplit 81 = .ok (.iinc 4 1, 3) := by decide +kernel
theorem dX9_headsToSplit_84 : decode cX9_headsToSplit 84 = .ok (.goto (-75), 3) := by decide +kernel
theorem dX9_headsToSplit_87 : decode cX9_headsToSplit 87 = .ok (.iconst 0, 1) := by decide +kernel
theorem dX9_headsToSplit_88 : decode cX9_headsToSplit 88 = .ok (.ireturn, 1) := by decide +kernel
abbrev r_k_X9_headsToSplit : Type := Int32
def m_k_X9_headsToSplit_81 (rec_9 : Int32 → r_k_X9_headsToSplit) (v4_9 : Int32) : r_k_X9_headsToSplit :=
  rec_9 (v4_9 + 1)
def m_k_X9_headsToSplit_9s (an : Int32) (ch : Int32) (c1 : Nat → Int32) (c2 : Nat → Int32) (c3 : Nat → Int32) (c4 : Nat → Int32) (ac : Nat → Int32) (a1 : Int32) (a2 : Int32) (t_2 : r_k_X9_countsHeld) (rec_9 : Int32 → r_k_X9_headsToSplit) (v4_9 : Int32) : r_k_X9_headsToSplit :=
  if an ≤ v4_9 then
    0
  else
    if 300 ≤ v4_9 then
      0
    else
      lE (m_k_X7_headsAt c4 (ac v4_9.toNatClampNeg)) (fun t_41 =>
        lE (m_k_X9_isChoice ch c1 (ac v4_9.toNatClampNeg)) (fun t_51 =>
          if t_51 = 0 then
            if ((t_41 &&& a2) &&& a1) = 0 then
              lE (m_k_X7_bodyHolds c1 c2 c3 (ac v4_9.toNatClampNeg) a1 t_2) (fun t_72 =>
                if t_72 = 0 then
                  m_k_X9_headsToSplit_81 rec_9 v4_9
                else
                  (t_41 &&& a2))
            else
              m_k_X9_headsToSplit_81 rec_9 v4_9
          else
            m_k_X9_headsToSplit_81 rec_9 v4_9))
def m_k_X9_headsToSplit_9 (an : Int32) (ch : Int32) (c1 : Nat → Int32) (c2 : Nat → Int32) (c3 : Nat → Int32) (c4 : Nat → Int32) (ac : Nat → Int32) (a1 : Int32) (a2 : Int32) (t_2 : r_k_X9_countsHeld) : Nat → Int32 → r_k_X9_headsToSplit
  | 0, _ => (0)
  | n + 1, v4_9 => m_k_X9_headsToSplit_9s an ch c1 c2 c3 c4 ac a1 a2 t_2 (fun v4_9 => m_k_X9_headsToSplit_9 an ch c1 c2 c3 c4 ac a1 a2 t_2 n v4_9) v4_9
theorem m_k_X9_headsToSplit_9_succ (an : Int32) (ch : Int32) (c1 : Nat → Int32) (c2 : Nat → Int32) (c3 : Nat → Int32) (c4 : Nat → Int32) (ac : Nat → Int32) (a1 : Int32) (a2 : Int32) (t_2 : r_k_X9_countsHeld) (n : Nat) (v4_9 : Int32) : m_k_X9_headsToSplit_9 an ch c1 c2 c3 c4 ac a1 a2 t_2 (n + 1) v4_9 = m_k_X9_headsToSplit_9s an ch c1 c2 c3 c4 ac a1 a2 t_2 (m_k_X9_headsToSplit_9 an ch c1 c2 c3 c4 ac a1 a2 t_2 n) v4_9 := rfl
def m_k_X9_headsToSplit (pp : pT) (rn : Int32) (rf : Nat → Option Nat) (an : Int32) (ch : Int32) (cg : Int32) (c1 : Nat → Int32) (c2 : Nat → Int32) (c3 : Nat → Int32) (c4 : Nat → Int32) (ac : Nat → Int32) (obi : Nat → Int32) (sc : Nat → Int32) (a1 : Int32) (a2 : Int32) : r_k_X9_headsToSplit :=
  lE (m_k_X9_countsHeld pp rn rf cg obi sc a1) (fun t_2 =>
    m_k_X9_headsToSplit_9 an ch c1 c2 c3 c4 ac a1 a2 t_2 wF 0)
def vs_k_X9_headsToSplit : List Cond := .code yX9_headsToSplit cX9_headsToSplit 7 (some .int) :: ([.methodLink RX9 241 yX9_countsHeld, .instanceMethod yX9_countsHeld, .selects RX9 yX9_countsHeld yX9_countsHeld, .initialized RX9, .fieldLink RX9 276 "AnswerFold$Solver" "activeCount" "I", .fieldLink RX9 21 "AnswerFold$Solver" "active" "[I", .fieldLink RX9 12 "AnswerFold$Solver" "checks" "LAnswerFold$Rows;", .methodLink RX9 279 yX7_headsAt, .instanceMethod yX7_headsAt, .selects RX7 yX7_headsAt yX7_headsAt, .initialized RX7, .methodLink RX9 287 yX9_isChoice, .instanceMethod yX9_isChoice, .selects RX9 yX9_isChoice yX9_isChoice, .methodLink RX9 282 yX7_bodyHolds, .instanceMethod yX7_bodyHolds, .selects RX7 yX7_bodyHolds yX7_bodyHolds] ++ (vs_k_X9_countsHeld ++ (u_ws RX9 TX9 17 ++ (vs_k_X7_headsAt ++ (vs_k_X9_isChoice ++ (vs_k_X7_bodyHolds))))))
theorem iv_k_X9_headsToSplit_X9 : ∀ w ∈ u_ws RX9 TX9 17, w ∈ vs_k_X9_headsToSplit := (fun _ h => List.mem_cons_of_mem _ (List.mem_append_right _ (List.mem_append_right _ (List.mem_append_left _ h))))
set_option maxRecDepth 20000 in
theorem gv_k_X9_headsToSplit_0 : GoodIn vs_k_X9_headsToSplit (wsV RX9 241 RX9 yX9_countsHeld vs_k_X9_countsHeld) := goodIn_app (goodIn_sub (by decide +kernel) (by decide +kernel)) (goodIn_sub (fun _ h => List.mem_cons_of_mem _ (List.mem_append_right _ (List.mem_append_left _ h))) (by decide +kernel))
set_option maxRecDepth 20000 in
theorem gv_k_X9_headsToSplit_1 : GoodIn vs_k_X9_headsToSplit (wsV RX9 279 RX7 yX7_headsAt vs_k_X7_headsAt) := goodIn_app (goodIn_sub (by decide +kernel) (by decide +kernel)) (goodIn_sub (fun _ h => List.mem_cons_of_mem _ (List.mem_append_right _ (List.mem_append_right _ (List.mem_append_right _ (List.mem_append_left _ h))))) (by decide +kernel))
set_option maxRecDepth 20000 in
theorem gv_k_X9_headsToSplit_2 : GoodIn vs_k_X9_headsToSplit (wsV RX9 287 RX9 yX9_isChoice vs_k_X9_isChoice) := goodIn_app (goodIn_sub (by decide +kernel) (by decide +kernel)) (goodIn_sub (fun _ h => List.mem_cons_of_mem _ (List.mem_append_right _ (List.mem_append_right _ (List.mem_append_right _ (List.mem_append_right _ (List.mem_append_left _ h)))))) (by decide +kernel))
set_option maxRecDepth 20000 in
theorem gv_k_X9_headsToSplit_3 : GoodIn vs_k_X9_headsToSplit (wsV RX9 282 RX7 yX7_bodyHolds vs_k_X7_bodyHolds) := goodIn_app (goodIn_sub (by decide +kernel) (by decide +kernel)) (goodIn_sub (fun _ h => List.mem_cons_of_mem _ (List.mem_append_right _ (List.mem_append_right _ (List.mem_append_right _ (List.mem_append_right _ (List.mem_append_right _ (h))))))) (by decide +kernel))
set_option maxHeartbeats 4000000 in
set_option maxRecDepth 100000 in
theorem k_X9_headsToSplit (l : Launch) (D : va_G) (ty : Nat → ClassId) (td mi sz : Nat) (pp : pT) (x1 : Nat) (x2 : Nat) (pn : Int32) (x3 : Nat) (rn : Int32) (x4 : Nat) (x5 : Nat) (tn : Int32) (x6 : Nat) (x7 : Nat) (en : Int32) (rf : Nat → Option Nat) (x20 : Nat) (x8 : Nat) (x21 : Nat) (x28 : Nat) (x35 : Nat) (an : Int32) (x36 : Nat) (x37 : Nat) (x38 : Nat) (ch : Int32) (cg : Int32) (fb : Int32) (mh : Int32) (ml : Int32) (ih : Int32) (lb : Int32) (ic : Int32) (x22 : Nat) (x23 : Nat) (x24 : Nat) (x25 : Nat) (x26 : Nat) (x27 : Nat) (cn : Int32) (c1 : Nat → Int32) (c2 : Nat → Int32) (c3 : Nat → Int32) (c4 : Nat → Int32) (ac : Nat → Int32) (obi : Nat → Int32) (sc : Nat → Int32) (a1 : Int32) (a2 : Int32) (hok : pOK pp) (hru : ∀ (i a : Nat), rf i = some a → a ∈ pRA pp) (TT : r_k_X9_headsToSplit) (hTT : TT = m_k_X9_headsToSplit pp rn rf an ch cg c1 c2 c3 c4 ac obi sc a1 a2) : Met l yX9_headsToSplit vs_k_X9_headsToSplit { frames := 4, cells := 0, slots := 0, locals := 91 } (va_Pc [.ref x20, .int a1, .int a2] (wq_P D ty td mi ([(x1, .inr (8, [.ref x2, .int pn, .ref x3, .int rn, .ref x4, .ref x5, .int tn, .ref x6, .ref x7, .int en])), (x3, .inl (ty 4, 20, .inr (.inr (.inr (.inr rf))))), (x20, .inr (11, [.ref x1, .ref x8, .ref x21, .ref x28, .ref x35, .int an, .ref x36, .ref x37, .ref x38, .int ch, .int cg, .int fb, .int mh, .int ml, .int ih, .int lb, .int ic])), (x21, .inr (9, [.ref x22, .ref x23, .ref x24, .ref x25, .ref x26, .ref x27, .int cn])), (x22, .inl (ty 0, 300, .inl c1)), (x23, .inl (ty 0, 300, .inl c2)), (x24, .inl (ty 0, 300, .inl c3)), (x25, .inl (ty 0, 300, .inl c4)), (x35, .inl (ty 0, 300, .inl ac)), (x36, .inl (ty 0, 6, .inl obi)), (x37, .inl (ty 0, 6, .inl sc))] ++ pw ty pp) sz)) (va_Qi (fun (r : Int32) (u : va_W) => (r = TT ∧ (u = ([(x1, .inr (8, [.ref x2, .int pn, .ref x3, .int rn, .ref x4, .ref x5, .int tn, .ref x6, .ref x7, .int en])), (x3, .inl (ty 4, 20, .inr (.inr (.inr (.inr rf))))), (x20, .inr (11, [.ref x1, .ref x8, .ref x21, .ref x28, .ref x35, .int an, .ref x36, .ref x37, .ref x38, .int ch, .int cg, .int fb, .int mh, .int ml, .int ih, .int lb, .int ic])), (x21, .inr (9, [.ref x22, .ref x23, .ref x24, .ref x25, .ref x26, .ref x27, .int cn])), (x22, .inl (ty 0, 300, .inl c1)), (x23, .inl (ty 0, 300, .inl c2)), (x24, .inl (ty 0, 300, .inl c3)), (x25, .inl (ty 0, 300, .inl c4)), (x35, .inl (ty 0, 300, .inl ac)), (x36, .inl (ty 0, 6, .inl obi)), (x37, .inl (ty 0, 6, .inl sc))] ++ pw ty pp)))) (wq_B D (va_A ([(x1, .inr (8, [.ref x2, .int pn, .ref x3, .int rn, .ref x4, .ref x5, .int tn, .ref x6, .ref x7, .int en])), (x3, .inl (ty 4, 20, .inr (.inr (.inr (.inr rf))))), (x20, .inr (11, [.ref x1, .ref x8, .ref x21, .ref x28, .ref x35, .int an, .ref x36, .ref x37, .ref x38, .int ch, .int cg, .int fb, .int mh, .int ml, .int ih, .int lb, .int ic])), (x21, .inr (9, [.ref x22, .ref x23, .ref x24, .ref x25, .ref x26, .ref x27, .int cn])), (x22, .inl (ty 0, 300, .inl c1)), (x23, .inl (ty 0, 300, .inl c2)), (x24, .inl (ty 0, 300, .inl c3)), (x25, .inl (ty 0, 300, .inl c4)), (x35, .inl (ty 0, 300, .inl ac)), (x36, .inl (ty 0, 6, .inl obi)), (x37, .inl (ty 0, 6, .inl sc))] ++ pw ty pp) sz)) (va_A ([(x1, .inr (8, [.ref x2, .int pn, .ref x3, .int rn, .ref x4, .ref x5, .int tn, .ref x6, .ref x7, .int en])), (x3, .inl (ty 4, 20, .inr (.inr (.inr (.inr rf))))), (x20, .inr (11, [.ref x1, .ref x8, .ref x21, .ref x28, .ref x35, .int an, .ref x36, .ref x37, .ref x38, .int ch, .int cg, .int fb, .int mh, .int ml, .int ih, .int lb, .int ic])), (x21, .inr (9, [.ref x22, .ref x23, .ref x24, .ref x25, .ref x26, .ref x27, .int cn])), (x22, .inl (ty 0, 300, .inl c1)), (x23, .inl (ty 0, 300, .inl c2)), (x24, .inl (ty 0, 300, .inl c3)), (x25, .inl (ty 0, 300, .inl c4)), (x35, .inl (ty 0, 300, .inl ac)), (x36, .inl (ty 0, 6, .inl obi)), (x37, .inl (ty 0, 6, .inl sc))] ++ pw ty pp) sz)) 0 0 (va_A ([(x1, .inr (8, [.ref x2, .int pn, .ref x3, .int rn, .ref x4, .ref x5, .int tn, .ref x6, .ref x7, .int en])), (x3, .inl (ty 4, 20, .inr (.inr (.inr (.inr rf))))), (x20, .inr (11, [.ref x1, .ref x8, .ref x21, .ref x28, .ref x35, .int an, .ref x36, .ref x37, .ref x38, .int ch, .int cg, .int fb, .int mh, .int ml, .int ih, .int lb, .int ic])), (x21, .inr (9, [.ref x22, .ref x23, .ref x24, .ref x25, .ref x26, .ref x27, .int cn])), (x22, .inl (ty 0, 300, .inl c1)), (x23, .inl (ty 0, 300, .inl c2)), (x24, .inl (ty 0, 300, .inl c3)), (x25, .inl (ty 0, 300, .inl c4)), (x35, .inl (ty 0, 300, .inl ac)), (x36, .inl (ty 0, 6, .inl obi)), (x37, .inl (ty 0, 6, .inl sc))] ++ pw ty pp) sz) := by
  refine Met.ofW (cc := cX9_headsToSplit) (maxL := 7) (ret := (some .int)) (by decide) rfl ?_
  intro p e s m args below meth c s₁ B hml hv
  obtain ⟨rfl, hsz, hP, hK, hD0, hE⟩ := hv
  have hx := B.exec
  have hb := B.bytes
  have hr := B.returns
  have hts := atoms_spec (ws := vs_k_X9_headsToSplit) B.pre
  have hown : s.vm.findClass RX9 = some m.cls := findClass_of_methodNamed B.named
  have hlocks := B.notSynchronized
  subst hsz
  have hD := hD0.self (sz := s.heap.size)
  generalize hAe : va_A ([(x1, .inr (8, [.ref x2, .int pn, .ref x3, .int rn, .ref x4, .ref x5, .int tn, .ref x6, .ref x7, .int en])), (x3, .inl (ty 4, 20, .inr (.inr (.inr (.inr rf))))), (x20, .inr (11, [.ref x1, .ref x8, .ref x21, .ref x28, .ref x35, .int an, .ref x36, .ref x37, .ref x38, .int ch, .int cg, .int fb, .int mh, .int ml, .int ih, .int lb, .int ic])), (x21, .inr (9, [.ref x22, .ref x23, .ref x24, .ref x25, .ref x26, .ref x27, .int cn])), (x22, .inl (ty 0, 300, .inl c1)), (x23, .inl (ty 0, 300, .inl c2)), (x24, .inl (ty 0, 300, .inl c3)), (x25, .inl (ty 0, 300, .inl c4)), (x35, .inl (ty 0, 300, .inl ac)), (x36, .inl (ty 0, 6, .inl obi)), (x37, .inl (ty 0, 6, .inl sc))] ++ pw ty pp) s.heap.size = A at hD hE ⊢
  have hA : ∀ q : Nat, s.heap.size ≤ q → A q := fun q h => by rw [← hAe]; exact Or.inr h
  have hS : va_S A s.heap s.heap [] := va_S.rf
  have hP : va_P D vwCl ([(x1, .inr (8, [.ref x2, .int pn, .ref x3, .int rn, .ref x4, .ref x5, .int tn, .ref x6, .ref x7, .int en])), (x3, .inl (ty 4, 20, .inr (.inr (.inr (.inr rf))))), (x20, .inr (11, [.ref x1, .ref x8, .ref x21, .ref x28, .ref x35, .int an, .ref x36, .ref x37, .ref x38, .int ch, .int cg, .int fb, .int mh, .int ml, .int ih, .int lb, .int ic])), (x21, .inr (9, [.ref x22, .ref x23, .ref x24, .ref x25, .ref x26, .ref x27, .int cn])), (x22, .inl (ty 0, 300, .inl c1)), (x23, .inl (ty 0, 300, .inl c2)), (x24, .inl (ty 0, 300, .inl c3)), (x25, .inl (ty 0, 300, .inl c4)), (x35, .inl (ty 0, 300, .inl ac)), (x36, .inl (ty 0, 6, .inl obi)), (x37, .inl (ty 0, 6, .inl sc))] ++ pw ty pp) s.heap := hP
  have hl := lv_entry ([.ref x20, .int a1, .int a2]) (n := 7) (Nat.le_of_ble_eq_true rfl)
  rw [lg_entry_eq]
  generalize (lg_sl ([.ref x20, .int a1, .int a2]) ++ List.replicate (7 - (lg_sl ([.ref x20, .int a1, .int a2])).length) Slot.unset).toArray = ls at hl ⊢
  have hl : lv_has ls 7 [(0, .ref x20), (1, .int a1), (2, .int a2)] := hl
  have END : ∀ (r : Int32), TT = r → ∀ (H : Heap) (locs : List Loc), va_P D vwCl ([(x1, .inr (8, [.ref x2, .int pn, .ref x3, .int rn, .ref x4, .ref x5, .int tn, .ref x6, .ref x7, .int en])), (x3, .inl (ty 4, 20, .inr (.inr (.inr (.inr rf))))), (x20, .inr (11, [.ref x1, .ref x8, .ref x21, .ref x28, .ref x35, .int an, .ref x36, .ref x37, .ref x38, .int ch, .int cg, .int fb, .int mh, .int ml, .int ih, .int lb, .int ic])), (x21, .inr (9, [.ref x22, .ref x23, .ref x24, .ref x25, .ref x26, .ref x27, .int cn])), (x22, .inl (ty 0, 300, .inl c1)), (x23, .inl (ty 0, 300, .inl c2)), (x24, .inl (ty 0, 300, .inl c3)), (x25, .inl (ty 0, 300, .inl c4)), (x35, .inl (ty 0, 300, .inl ac)), (x36, .inl (ty 0, 6, .inl obi)), (x37, .inl (ty 0, 6, .inl sc))] ++ pw ty pp) H → va_D A ([(x1, .inr (8, [.ref x2, .int pn, .ref x3, .int rn, .ref x4, .ref x5, .int tn, .ref x6, .ref x7, .int en])), (x3, .inl (ty 4, 20, .inr (.inr (.inr (.inr rf))))), (x20, .inr (11, [.ref x1, .ref x8, .ref x21, .ref x28, .ref x35, .int an, .ref x36, .ref x37, .ref x38, .int ch, .int cg, .int fb, .int mh, .int ml, .int ih, .int lb, .int ic])), (x21, .inr (9, [.ref x22, .ref x23, .ref x24, .ref x25, .ref x26, .ref x27, .int cn])), (x22, .inl (ty 0, 300, .inl c1)), (x23, .inl (ty 0, 300, .inl c2)), (x24, .inl (ty 0, 300, .inl c3)), (x25, .inl (ty 0, 300, .inl c4)), (x35, .inl (ty 0, 300, .inl ac)), (x36, .inl (ty 0, 6, .inl obi)), (x37, .inl (ty 0, 6, .inl sc))] ++ pw ty pp) → va_S A s.heap H locs → ∀ (ls : Array Slot) (pc : Nat), decode cX9_headsToSplit pc = .ok (.ireturn, 1) → W p l e (headSpec vs_k_X9_headsToSplit { frames := 4, cells := 0, slots := 0, locals := 91 }).room s m ([.ref x20, .int a1, .int a2] : List Value).toArray below meth c H locs 0 0 (MQ below (va_Qi (fun (r : Int32) (u : va_W) => (r = TT ∧ (u = ([(x1, .inr (8, [.ref x2, .int pn, .ref x3, .int rn, .ref x4, .ref x5, .int tn, .ref x6, .ref x7, .int en])), (x3, .inl (ty 4, 20, .inr (.inr (.inr (.inr rf))))), (x20, .inr (11, [.ref x1, .ref x8, .ref x21, .ref x28, .ref x35, .int an, .ref x36, .ref x37, .ref x38, .int ch, .int cg, .int fb, .int mh, .int ml, .int ih, .int lb, .int ic])), (x21, .inr (9, [.ref x22, .ref x23, .ref x24, .ref x25, .ref x26, .ref x27, .int cn])), (x22, .inl (ty 0, 300, .inl c1)), (x23, .inl (ty 0, 300, .inl c2)), (x24, .inl (ty 0, 300, .inl c3)), (x25, .inl (ty 0, 300, .inl c4)), (x35, .inl (ty 0, 300, .inl ac)), (x36, .inl (ty 0, 6, .inl obi)), (x37, .inl (ty 0, 6, .inl sc))] ++ pw ty pp)))) (wq_B D A) A) ([.ref x20, .int a1, .int a2] : List Value).toArray s 0 0 A) (F0 m pc ls [.int r]) := by
    intro r hT H locs hP hD hS ls pc hd
    have hM : TT = r := hT
    exact W.iret (v := r) hx hb hr (fun t ht hW => ⟨⟨r, ([(x1, .inr (8, [.ref x2, .int pn, .ref x3, .int rn, .ref x4, .ref x5, .int tn, .ref x6, .ref x7, .int en])), (x3, .inl (ty 4, 20, .inr (.inr (.inr (.inr rf))))), (x20, .inr (11, [.ref x1, .ref x8, .ref x21, .ref x28, .ref x35, .int an, .ref x36, .ref x37, .ref x38, .int ch, .int cg, .int fb, .int mh, .int ml, .int ih, .int lb, .int ic])), (x21, .inr (9, [.ref x22, .ref x23, .ref x24, .ref x25, .ref x26, .ref x27, .int cn])), (x22, .inl (ty 0, 300, .inl c1)), (x23, .inl (ty 0, 300, .inl c2)), (x24, .inl (ty 0, 300, .inl c3)), (x25, .inl (ty 0, 300, .inl c4)), (x35, .inl (ty 0, 300, .inl ac)), (x36, .inl (ty 0, 6, .inl obi)), (x37, .inl (ty 0, 6, .inl sc))] ++ pw ty pp), rfl, ⟨(by rw [hM]), rfl⟩, wq_B.of ht hP hD⟩, hS.F ht⟩) hS.2.2 hd
  have hT := hTT
  rw [m_k_X9_headsToSplit] at hT
  refine lv_aload_n hx hb dX9_headsToSplit_0 rfl (lv_at hl 0 rfl) ?_
  refine lv_iload_n hx hb dX9_headsToSplit_1 rfl (lv_at hl 1 rfl) ?_
  obtain ⟨t_2, ht_2⟩ : ∃ t, t = m_k_X9_countsHeld pp rn rf cg obi sc a1 := ⟨_, rfl⟩
  rw [lE_eq ht_2] at hT
  refine wq_iP (wc := [(x1, .inr (8, [.ref x2, .int pn, .ref x3, .int rn, .ref x4, .ref x5, .int tn, .ref x6, .ref x7, .int en])), (x3, .inl (ty 4, 20, .inr (.inr (.inr (.inr rf))))), (x20, .inr (11, [.ref x1, .ref x8, .ref x21, .ref x28, .ref x35, .int an, .ref x36, .ref x37, .ref x38, .int ch, .int cg, .int fb, .int mh, .int ml, .int ih, .int lb, .int ic])), (x36, .inl (ty 0, 6, .inl obi)), (x37, .inl (ty 0, 6, .inl sc))]) (wr := [(x21, .inr (9, [.ref x22, .ref x23, .ref x24, .ref x25, .ref x26, .ref x27, .int cn])), (x22, .inl (ty 0, 300, .inl c1)), (x23, .inl (ty 0, 300, .inl c2)), (x24, .inl (ty 0, 300, .inl c3)), (x25, .inl (ty 0, 300, .inl c4)), (x35, .inl (ty 0, 300, .inl ac))]) (pl := pw ty pp) (ux := [(x1, .inr (8, [.ref x2, .int pn, .ref x3, .int rn, .ref x4, .ref x5, .int tn, .ref x6, .ref x7, .int en])), (x3, .inl (ty 4, 20, .inr (.inr (.inr (.inr rf))))), (x20, .inr (11, [.ref x1, .ref x8, .ref x21, .ref x28, .ref x35, .int an, .ref x36, .ref x37, .ref x38, .int ch, .int cg, .int fb, .int mh, .int ml, .int ih, .int lb, .int ic])), (x36, .inl (ty 0, 6, .inl obi)), (x37, .inl (ty 0, 6, .inl sc))]) (va_runV (As := [.int a1]) (rest := []) ⟨hx, hb, hml, hown, hts⟩ (k_X9_countsHeld l D ty td mi s.heap.size pp x1 x2 pn x3 rn x4 x5 tn x6 x7 en rf x20 x8 x21 x28 x35 an x36 x37 x38 ch cg fb mh ml ih lb ic obi sc a1 hok hru t_2 ht_2) (cwV 1 hts gv_k_X9_headsToSplit_0 rfl rfl rfl (by decide +kernel) ⟨(Nat.le_of_ble_eq_true rfl), (Nat.le_of_ble_eq_true rfl)⟩) ⟨(wq_preSP hP hD hK hE hS hA [0, 1, 2, 9, 10] rfl (by decide) (As := .ref x20 :: [.int a1])).1, va_recv (q0 := 2) (ci := 11) hK hP rfl rfl, (wq_preSP hP hD hK hE hS hA [0, 1, 2, 9, 10] rfl (by decide) (As := .ref x20 :: [.int a1])).2⟩ rfl rfl hl.1 rfl (lv_room (Nat.le_of_ble_eq_true rfl)) dX9_headsToSplit_2 ⟨(Nat.le_of_ble_eq_true rfl), (Nat.le_of_ble_eq_true rfl)⟩) hS hA hP hD [0, 1, 2, 9, 10] [3, 4, 5, 6, 7, 8] rfl rfl (by decide) (by decide) (fun _ _ h => h.2) (fun r H locs hw hP hD hS => ?_)
  obtain ⟨hr0, -⟩ := hw
  subst r
  have hP : va_P D vwCl ([(x21, .inr (9, [.ref x22, .ref x23, .ref x24, .ref x25, .ref x26, .ref x27, .int cn])), (x22, .inl (ty 0, 300, .inl c1)), (x23, .inl (ty 0, 300, .inl c2)), (x24, .inl (ty 0, 300, .inl c3)), (x25, .inl (ty 0, 300, .inl c4)), (x35, .inl (ty 0, 300, .inl ac)), (x1, .inr (8, [.ref x2, .int pn, .ref x3, .int rn, .ref x4, .ref x5, .int tn, .ref x6, .ref x7, .int en])), (x3, .inl (ty 4, 20, .inr (.inr (.inr (.inr rf))))), (x20, .inr (11, [.ref x1, .ref x8, .ref x21, .ref x28, .ref x35, .int an, .ref x36, .ref x37, .ref x38, .int ch, .int cg, .int fb, .int mh, .int ml, .int ih, .int lb, .int ic])), (x36, .inl (ty 0, 6, .inl obi)), (x37, .inl (ty 0, 6, .inl sc))] ++ pw ty pp) H := hP
  have hD : va_D A ([(x21, .inr (9, [.ref x22, .ref x23, .ref x24, .ref x25, .ref x26, .ref x27, .int cn])), (x22, .inl (ty 0, 300, .inl c1)), (x23, .inl (ty 0, 300, .inl c2)), (x24, .inl (ty 0, 300, .inl c3)), (x25, .inl (ty 0, 300, .inl c4)), (x35, .inl (ty 0, 300, .inl ac)), (x1, .inr (8, [.ref x2, .int pn, .ref x3, .int rn, .ref x4, .ref x5, .int tn, .ref x6, .ref x7, .int en])), (x3, .inl (ty 4, 20, .inr (.inr (.inr (.inr rf))))), (x20, .inr (11, [.ref x1, .ref x8, .ref x21, .ref x28, .ref x35, .int an, .ref x36, .ref x37, .ref x38, .int ch, .int cg, .int fb, .int mh, .int ml, .int ih, .int lb, .int ic])), (x36, .inl (ty 0, 6, .inl obi)), (x37, .inl (ty 0, 6, .inl sc))] ++ pw ty pp) := hD
  refine W.widen (k := 0) (n := 0) (Nat.le_of_ble_eq_true rfl) (Nat.le_of_ble_eq_true rfl) ?_
  refine lv_istore_n (lv' := [(3, .int t_2), (0, .ref x20), (1, .int a1), (2, .int a2)]) hx hb dX9_headsToSplit_5 rfl hl (by decide) rfl (fun ls hl => ?_)
  refine lv_iconst (v := 0) hx hb dX9_headsToSplit_6 (by decide) ?_
  refine lv_istore (lv' := [(4, .int 0), (3, .int t_2), (0, .ref x20), (1, .int a1), (2, .int a2)]) hx hb dX9_headsToSplit_7 hl (by decide) rfl (fun ls hl => ?_)
  have L_9 : ∀ (n_9 : Nat) (v4_9 : Int32), (2147483648 - v4_9.toInt).toNat < n_9 → TT = m_k_X9_headsToSplit_9 an ch c1 c2 c3 c4 ac a1 a2 t_2 n_9 v4_9 → 0 ≤ v4_9.toInt → ∀ (H : Heap) (locs : List Loc), va_P D vwCl ([(x1, .inr (8, [.ref x2, .int pn, .ref x3, .int rn, .ref x4, .ref x5, .int tn, .ref x6, .ref x7, .int en])), (x3, .inl (ty 4, 20, .inr (.inr (.inr (.inr rf))))), (x20, .inr (11, [.ref x1, .ref x8, .ref x21, .ref x28, .ref x35, .int an, .ref x36, .ref x37, .ref x38, .int ch, .int cg, .int fb, .int mh, .int ml, .int ih, .int lb, .int ic])), (x21, .inr (9, [.ref x22, .ref x23, .ref x24, .ref x25, .ref x26, .ref x27, .int cn])), (x22, .inl (ty 0, 300, .inl c1)), (x23, .inl (ty 0, 300, .inl c2)), (x24, .inl (ty 0, 300, .inl c3)), (x25, .inl (ty 0, 300, .inl c4)), (x35, .inl (ty 0, 300, .inl ac)), (x36, .inl (ty 0, 6, .inl obi)), (x37, .inl (ty 0, 6, .inl sc))] ++ pw ty pp) H → va_D A ([(x1, .inr (8, [.ref x2, .int pn, .ref x3, .int rn, .ref x4, .ref x5, .int tn, .ref x6, .ref x7, .int en])), (x3, .inl (ty 4, 20, .inr (.inr (.inr (.inr rf))))), (x20, .inr (11, [.ref x1, .ref x8, .ref x21, .ref x28, .ref x35, .int an, .ref x36, .ref x37, .ref x38, .int ch, .int cg, .int fb, .int mh, .int ml, .int ih, .int lb, .int ic])), (x21, .inr (9, [.ref x22, .ref x23, .ref x24, .ref x25, .ref x26, .ref x27, .int cn])), (x22, .inl (ty 0, 300, .inl c1)), (x23, .inl (ty 0, 300, .inl c2)), (x24, .inl (ty 0, 300, .inl c3)), (x25, .inl (ty 0, 300, .inl c4)), (x35, .inl (ty 0, 300, .inl ac)), (x36, .inl (ty 0, 6, .inl obi)), (x37, .inl (ty 0, 6, .inl sc))] ++ pw ty pp) → va_S A s.heap H locs → ∀ ls : Array Slot, lv_has ls 7 [(0, .ref x20), (1, .int a1), (2, .int a2), (3, .int t_2), (4, .int v4_9)] → W p l e (headSpec vs_k_X9_headsToSplit { frames := 4, cells := 0, slots := 0, locals := 91 }).room s m ([.ref x20, .int a1, .int a2] : List Value).toArray below meth c H locs 0 0 (MQ below (va_Qi (fun (r : Int32) (u : va_W) => (r = TT ∧ (u = ([(x1, .inr (8, [.ref x2, .int pn, .ref x3, .int rn, .ref x4, .ref x5, .int tn, .ref x6, .ref x7, .int en])), (x3, .inl (ty 4, 20, .inr (.inr (.inr (.inr rf))))), (x20, .inr (11, [.ref x1, .ref x8, .ref x21, .ref x28, .ref x35, .int an, .ref x36, .ref x37, .ref x38, .int ch, .int cg, .int fb, .int mh, .int ml, .int ih, .int lb, .int ic])), (x21, .inr (9, [.ref x22, .ref x23, .ref x24, .ref x25, .ref x26, .ref x27, .int cn])), (x22, .inl (ty 0, 300, .inl c1)), (x23, .inl (ty 0, 300, .inl c2)), (x24, .inl (ty 0, 300, .inl c3)), (x25, .inl (ty 0, 300, .inl c4)), (x35, .inl (ty 0, 300, .inl ac)), (x36, .inl (ty 0, 6, .inl obi)), (x37, .inl (ty 0, 6, .inl sc))] ++ pw ty pp)))) (wq_B D A) A) ([.ref x20, .int a1, .int a2] : List Value).toArray s 0 0 A) (F0 m 9 ls []) := by
    intro n_9
    induction n_9 with
    | zero => intro v4_9 hu; exact absurd hu (Nat.not_lt_zero _)
    | succ n_9 ih_9 =>
      intro v4_9 hu_9 hT hn_9 H locs hP hD hS ls hl
      rw [m_k_X9_headsToSplit_9_succ, m_k_X9_headsToSplit_9s] at hT
      refine lv_iload hx hb dX9_headsToSplit_9 (lv_at hl 4 rfl) ?_
      refine lv_aload_n hx hb dX9_headsToSplit_11 rfl (lv_at hl 0 rfl) ?_
      refine va_get (D := D) (ci := 11) (v := .int an) (C := RX9) (T := TX9) (N := 17) hx hb hts iv_k_X9_headsToSplit_X9 hown hK hP 2 rfl rfl 5 (by decide) (hts (.fieldLink RX9 276 "AnswerFold$Solver" "activeCount" "I") (by decide +kernel)) (fun _ h9 => h9) rfl dX9_headsToSplit_12 ?_
      refine lv_icmp_ge (tgt := 87) hx hb dX9_headsToSplit_15 (by decide) (fun c_3 => ?_) (fun c_3 => ?_)
      · rw [if_pos c_3] at hT
        refine lv_iconst (v := 0) hx hb dX9_headsToSplit_87 (by decide) ?_
        exact END 0 hT _ _ hP hD hS _ _ dX9_headsToSplit_88
      · rw [if_neg c_3] at hT
        refine lv_iload hx hb dX9_headsToSplit_18 (lv_at hl 4 rfl) ?_
        refine lv_sipush (v := 300) hx hb dX9_headsToSplit_20 (by decide) ?_
        refine lv_icmp_ge (tgt := 87) hx hb dX9_headsToSplit_23 (by decide) (fun c_4 => ?_) (fun c_4 => ?_)
        · rw [if_pos c_4] at hT
          refine lv_iconst (v := 0) hx hb dX9_headsToSplit_87 (by decide) ?_
          exact END 0 hT _ _ hP hD hS _ _ dX9_headsToSplit_88
        · rw [if_neg c_4] at hT
          refine lv_aload_n hx hb dX9_headsToSplit_26 rfl (lv_at hl 0 rfl) ?_
          refine va_get (D := D) (ci := 11) (v := .ref x35) (C := RX9) (T := TX9) (N := 17) hx hb hts iv_k_X9_headsToSplit_X9 hown hK hP 2 rfl rfl 4 (by decide) (hts (.fieldLink RX9 21 "AnswerFold$Solver" "active" "[I") (by decide +kernel)) (fun _ h9 => h9) rfl dX9_headsToSplit_27 ?_
          refine lv_iload hx hb dX9_headsToSplit_30 (lv_at hl 4 rfl) ?_
          refine va_iald (D := D) hx hb hK hP 8 0 rfl rfl (wi_in hn_9 (wi_hi c_4 (by decide))) dX9_headsToSplit_32 ?_
          refine lv_istore (lv' := [(5, .int (ac v4_9.toNatClampNeg)), (0, .ref x20), (1, .int a1), (2, .int a2), (3, .int t_2), (4, .int v4_9)]) hx hb dX9_headsToSplit_33 hl (by decide) rfl (fun ls hl => ?_)
          refine lv_aload_n hx hb dX9_headsToSplit_35 rfl (lv_at hl 1 rfl) ?_
          refine va_get (D := D) (ci := 11) (v := .ref x21) (C := RX9) (T := TX9) (N := 17) hx hb hts iv_k_X9_headsToSplit_X9 hown hK hP 2 rfl rfl 2 (by decide) (hts (.fieldLink RX9 12 "AnswerFold$Solver" "checks" "LAnswerFold$Rows;") (by decide +kernel)) (fun _ h9 => h9) rfl dX9_headsToSplit_36 ?_
          refine lv_iload hx hb dX9_headsToSplit_39 (lv_at hl 0 rfl) ?_
          obtain ⟨t_41, ht_41⟩ : ∃ t, t = m_k_X7_headsAt c4 (ac v4_9.toNatClampNeg) := ⟨_, rfl⟩
          rw [lE_eq ht_41] at hT
          refine wq_iQ (wc := [(x21, .inr (9, [.ref x22, .ref x23, .ref x24, .ref x25, .ref x26, .ref x27, .int cn])), (x25, .inl (ty 0, 300, .inl c4))]) (wr := [(x1, .inr (8, [.ref x2, .int pn, .ref x3, .int rn, .ref x4, .ref x5, .int tn, .ref x6, .ref x7, .int en])), (x3, .inl (ty 4, 20, .inr (.inr (.inr (.inr rf))))), (x20, .inr (11, [.ref x1, .ref x8, .ref x21, .ref x28, .ref x35, .int an, .ref x36, .ref x37, .ref x38, .int ch, .int cg, .int fb, .int mh, .int ml, .int ih, .int lb, .int ic])), (x22, .inl (ty 0, 300, .inl c1)), (x23, .inl (ty 0, 300, .inl c2)), (x24, .inl (ty 0, 300, .inl c3)), (x35, .inl (ty 0, 300, .inl ac)), (x36, .inl (ty 0, 6, .inl obi)), (x37, .inl (ty 0, 6, .inl sc))]) (pl := pw ty pp) (va_runV (As := [.int (ac v4_9.toNatClampNeg)]) (rest := []) ⟨hx, hb, hml, hown, hts⟩ (k_X7_headsAt l D ty td mi H.size x21 x22 x23 x24 x25 x26 x27 cn c4 (ac v4_9.toNatClampNeg) t_41 ht_41) (cwV 1 hts gv_k_X9_headsToSplit_1 rfl rfl rfl (by decide +kernel) ⟨(Nat.le_of_ble_eq_true rfl), (Nat.le_of_ble_eq_true rfl)⟩) ⟨(wq_preS (vP_left hP) (vD_left hD) hK hE hS hA [3, 7] rfl (by decide) (As := .ref x21 :: [.int (ac v4_9.toNatClampNeg)])).1, va_recv (q0 := 3) (ci := 9) hK hP rfl rfl, (wq_preS (vP_left hP) (vD_left hD) hK hE hS hA [3, 7] rfl (by decide) (As := .ref x21 :: [.int (ac v4_9.toNatClampNeg)])).2⟩ rfl rfl hl.1 rfl (lv_room (Nat.le_of_ble_eq_true rfl)) dX9_headsToSplit_41 ⟨(Nat.le_of_ble_eq_true rfl), (Nat.le_of_ble_eq_true rfl)⟩) hS hA hP hD [3, 7] [0, 1, 2, 4, 5, 6, 8, 9, 10] rfl rfl (by decide) (by decide) (fun r u H locs hw hP hD hS => ?_)
          obtain ⟨hr0, rfl⟩ := hw
          subst r
          have hP : va_P D vwCl ([(x1, .inr (8, [.ref x2, .int pn, .ref x3, .int rn, .ref x4, .ref x5, .int tn, .ref x6, .ref x7, .int en])), (x3, .inl (ty 4, 20, .inr (.inr (.inr (.inr rf))))), (x20, .inr (11, [.ref x1, .ref x8, .ref x21, .ref x28, .ref x35, .int an, .ref x36, .ref x37, .ref x38, .int ch, .int cg, .int fb, .int mh, .int ml, .int ih, .int lb, .int ic])), (x22, .inl (ty 0, 300, .inl c1)), (x23, .inl (ty 0, 300, .inl c2)), (x24, .inl (ty 0, 300, .inl c3)), (x35, .inl (ty 0, 300, .inl ac)), (x36, .inl (ty 0, 6, .inl obi)), (x37, .inl (ty 0, 6, .inl sc)), (x21, .inr (9, [.ref x22, .ref x23, .ref x24, .ref x25, .ref x26, .ref x27, .int cn])), (x25, .inl (ty 0, 300, .inl c4))] ++ pw ty pp) H := hP
          have hD : va_D A ([(x1, .inr (8, [.ref x2, .int pn, .ref x3, .int rn, .ref x4, .ref x5, .int tn, .ref x6, .ref x7, .int en])), (x3, .inl (ty 4, 20, .inr (.inr (.inr (.inr rf))))), (x20, .inr (11, [.ref x1, .ref x8, .ref x21, .ref x28, .ref x35, .int an, .ref x36, .ref x37, .ref x38, .int ch, .int cg, .int fb, .int mh, .int ml, .int ih, .int lb, .int ic])), (x22, .inl (ty 0, 300, .inl c1)), (x23, .inl (ty 0, 300, .inl c2)), (x24, .inl (ty 0, 300, .inl c3)), (x35, .inl (ty 0, 300, .inl ac)), (x36, .inl (ty 0, 6, .inl obi)), (x37, .inl (ty 0, 6, .inl sc)), (x21, .inr (9, [.ref x22, .ref x23, .ref x24, .ref x25, .ref x26, .ref x27, .int cn])), (x25, .inl (ty 0, 300, .inl c4))] ++ pw ty pp) := hD
          refine W.widen (k := 0) (n := 0) (Nat.le_of_ble_eq_true rfl) (Nat.le_of_ble_eq_true rfl) ?_
          refine lv_iload_n hx hb dX9_headsToSplit_44 rfl (lv_at hl 3 rfl) ?_
          refine lv_iand hx hb dX9_headsToSplit_45 ?_
          refine lv_istore (lv' := [(6, .int (t_41 &&& a2)), (5, .int (ac v4_9.toNatClampNeg)), (0, .ref x20), (1, .int a1), (2, .int a2), (3, .int t_2), (4, .int v4_9)]) hx hb dX9_headsToSplit_46 hl (by decide) rfl (fun ls hl => ?_)
          refine lv_aload_n hx hb dX9_headsToSplit_48 rfl (lv_at hl 2 rfl) ?_
          refine lv_iload hx hb dX9_headsToSplit_49 (lv_at hl 1 rfl) ?_
          obtain ⟨t_51, ht_51⟩ : ∃ t, t = m_k_X9_isChoice ch c1 (ac v4_9.toNatClampNeg) := ⟨_, rfl⟩
          rw [lE_eq ht_51] at hT
          refine wq_iQ (wc := [(x20, .inr (11, [.ref x1, .ref x8, .ref x21, .ref x28, .ref x35, .int an, .ref x36, .ref x37, .ref x38, .int ch, .int cg, .int fb, .int mh, .int ml, .int ih, .int lb, .int ic])), (x21, .inr (9, [.ref x22, .ref x23, .ref x24, .ref x25, .ref x26, .ref x27, .int cn])), (x22, .inl (ty 0, 300, .inl c1))]) (wr := [(x1, .inr (8, [.ref x2, .int pn, .ref x3, .int rn, .ref x4, .ref x5, .int tn, .ref x6, .ref x7, .int en])), (x3, .inl (ty 4, 20, .inr (.inr (.inr (.inr rf))))), (x23, .inl (ty 0, 300, .inl c2)), (x24, .inl (ty 0, 300, .inl c3)), (x35, .inl (ty 0, 300, .inl ac)), (x36, .inl (ty 0, 6, .inl obi)), (x37, .inl (ty 0, 6, .inl sc)), (x25, .inl (ty 0, 300, .inl c4))]) (pl := pw ty pp) (va_runV (As := [.int (ac v4_9.toNatClampNeg)]) (rest := []) ⟨hx, hb, hml, hown, hts⟩ (k_X9_isChoice l D ty td mi H.size x20 x1 x8 x21 x28 x35 an x36 x37 x38 ch cg fb mh ml ih lb ic x22 x23 x24 x25 x26 x27 cn c1 (ac v4_9.toNatClampNeg) t_51 ht_51) (cwV 1 hts gv_k_X9_headsToSplit_2 rfl rfl rfl (by decide +kernel) ⟨(Nat.le_of_ble_eq_true rfl), (Nat.le_of_ble_eq_true rfl)⟩) ⟨(wq_preS (vP_left hP) (vD_left hD) hK hE hS hA [2, 9, 3] rfl (by decide) (As := .ref x20 :: [.int (ac v4_9.toNatClampNeg)])).1, va_recv (q0 := 2) (ci := 11) hK hP rfl rfl, (wq_preS (vP_left hP) (vD_left hD) hK hE hS hA [2, 9, 3] rfl (by decide) (As := .ref x20 :: [.int (ac v4_9.toNatClampNeg)])).2⟩ rfl rfl hl.1 rfl (lv_room (Nat.le_of_ble_eq_true rfl)) dX9_headsToSplit_51 ⟨(Nat.le_of_ble_eq_true rfl), (Nat.le_of_ble_eq_true rfl)⟩) hS hA hP hD [2, 9, 3] [0, 1, 4, 5, 6, 7, 8, 10] rfl rfl (by decide) (by decide) (fun r u H locs hw hP hD hS => ?_)
          obtain ⟨hr0, c_9, rfl⟩ := hw
          subst r
          have hP : va_P D vwCl ([(x1, .inr (8, [.ref x2, .int pn, .ref x3, .int rn, .ref x4, .ref x5, .int tn, .ref x6, .ref x7, .int en])), (x3, .inl (ty 4, 20, .inr (.inr (.inr (.inr rf))))), (x23, .inl (ty 0, 300, .inl c2)), (x24, .inl (ty 0, 300, .inl c3)), (x35, .inl (ty 0, 300, .inl ac)), (x36, .inl (ty 0, 6, .inl obi)), (x37, .inl (ty 0, 6, .inl sc)), (x25, .inl (ty 0, 300, .inl c4)), (x20, .inr (11, [.ref x1, .ref x8, .ref x21, .ref x28, .ref x35, .int an, .ref x36, .ref x37, .ref x38, .int ch, .int cg, .int fb, .int mh, .int ml, .int ih, .int lb, .int ic])), (x21, .inr (9, [.ref x22, .ref x23, .ref x24, .ref x25, .ref x26, .ref x27, .int cn])), (x22, .inl (ty 0, 300, .inl c1))] ++ pw ty pp) H := hP
          have hD : va_D A ([(x1, .inr (8, [.ref x2, .int pn, .ref x3, .int rn, .ref x4, .ref x5, .int tn, .ref x6, .ref x7, .int en])), (x3, .inl (ty 4, 20, .inr (.inr (.inr (.inr rf))))), (x23, .inl (ty 0, 300, .inl c2)), (x24, .inl (ty 0, 300, .inl c3)), (x35, .inl (ty 0, 300, .inl ac)), (x36, .inl (ty 0, 6, .inl obi)), (x37, .inl (ty 0, 6, .inl sc)), (x25, .inl (ty 0, 300, .inl c4)), (x20, .inr (11, [.ref x1, .ref x8, .ref x21, .ref x28, .ref x35, .int an, .ref x36, .ref x37, .ref x38, .int ch, .int cg, .int fb, .int mh, .int ml, .int ih, .int lb, .int ic])), (x21, .inr (9, [.ref x22, .ref x23, .ref x24, .ref x25, .ref x26, .ref x27, .int cn])), (x22, .inl (ty 0, 300, .inl c1))] ++ pw ty pp) := hD
          refine W.widen (k := 0) (n := 0) (Nat.le_of_ble_eq_true rfl) (Nat.le_of_ble_eq_true rfl) ?_
          have J_81 : ∀ (_ : Unit), TT = m_k_X9_headsToSplit_81 (m_k_X9_headsToSplit_9 an ch c1 c2 c3 c4 ac a1 a2 t_2 n_9) v4_9 → ∀ (H : Heap) (locs : List Loc), va_P D vwCl ([(x1, .inr (8, [.ref x2, .int pn, .ref x3, .int rn, .ref x4, .ref x5, .int tn, .ref x6, .ref x7, .int en])), (x3, .inl (ty 4, 20, .inr (.inr (.inr (.inr rf))))), (x20, .inr (11, [.ref x1, .ref x8, .ref x21, .ref x28, .ref x35, .int an, .ref x36, .ref x37, .ref x38, .int ch, .int cg, .int fb, .int mh, .int ml, .int ih, .int lb, .int ic])), (x21, .inr (9, [.ref x22, .ref x23, .ref x24, .ref x25, .ref x26, .ref x27, .int cn])), (x22, .inl (ty 0, 300, .inl c1)), (x23, .inl (ty 0, 300, .inl c2)), (x24, .inl (ty 0, 300, .inl c3)), (x25, .inl (ty 0, 300, .inl c4)), (x35, .inl (ty 0, 300, .inl ac)), (x36, .inl (ty 0, 6, .inl obi)), (x37, .inl (ty 0, 6, .inl sc))] ++ pw ty pp) H → va_D A ([(x1, .inr (8, [.ref x2, .int pn, .ref x3, .int rn, .ref x4, .ref x5, .int tn, .ref x6, .ref x7, .int en])), (x3, .inl (ty 4, 20, .inr (.inr (.inr (.inr rf))))), (x20, .inr (11, [.ref x1, .ref x8, .ref x21, .ref x28, .ref x35, .int an, .ref x36, .ref x37, .ref x38, .int ch, .int cg, .int fb, .int mh, .int ml, .int ih, .int lb, .int ic])), (x21, .inr (9, [.ref x22, .ref x23, .ref x24, .ref x25, .ref x26, .ref x27, .int cn])), (x22, .inl (ty 0, 300, .inl c1)), (x23, .inl (ty 0, 300, .inl c2)), (x24, .inl (ty 0, 300, .inl c3)), (x25, .inl (ty 0, 300, .inl c4)), (x35, .inl (ty 0, 300, .inl ac)), (x36, .inl (ty 0, 6, .inl obi)), (x37, .inl (ty 0, 6, .inl sc))] ++ pw ty pp) → va_S A s.heap H locs → ∀ ls : Array Slot, lv_has ls 7 [(0, .ref x20), (1, .int a1), (2, .int a2), (3, .int t_2), (4, .int v4_9)] → W p l e (headSpec vs_k_X9_headsToSplit { frames := 4, cells := 0, slots := 0, locals := 91 }).room s m ([.ref x20, .int a1, .int a2] : List Value).toArray below meth c H locs 0 0 (MQ below (va_Qi (fun (r : Int32) (u : va_W) => (r = TT ∧ (u = ([(x1, .inr (8, [.ref x2, .int pn, .ref x3, .int rn, .ref x4, .ref x5, .int tn, .ref x6, .ref x7, .int en])), (x3, .inl (ty 4, 20, .inr (.inr (.inr (.inr rf))))), (x20, .inr (11, [.ref x1, .ref x8, .ref x21, .ref x28, .ref x35, .int an, .ref x36, .ref x37, .ref x38, .int ch, .int cg, .int fb, .int mh, .int ml, .int ih, .int lb, .int ic])), (x21, .inr (9, [.ref x22, .ref x23, .ref x24, .ref x25, .ref x26, .ref x27, .int cn])), (x22, .inl (ty 0, 300, .inl c1)), (x23, .inl (ty 0, 300, .inl c2)), (x24, .inl (ty 0, 300, .inl c3)), (x25, .inl (ty 0, 300, .inl c4)), (x35, .inl (ty 0, 300, .inl ac)), (x36, .inl (ty 0, 6, .inl obi)), (x37, .inl (ty 0, 6, .inl sc))] ++ pw ty pp)))) (wq_B D A) A) ([.ref x20, .int a1, .int a2] : List Value).toArray s 0 0 A) (F0 m 81 ls []) := by
            intro _ hT  H locs hP hD hS ls hl
            rw [m_k_X9_headsToSplit_81] at hT
            refine lv_iinc (v := v4_9 + 1) (lv' := [(4, .int (v4_9 + 1)), (0, .ref x20), (1, .int a1), (2, .int a2), (3, .int t_2)]) hx hb dX9_headsToSplit_81 hl (k := 4) rfl (by rfl) (by decide) rfl (fun ls hl => ?_)
            refine lv_goto (tgt := 9) hx hb dX9_headsToSplit_84 (by decide) ?_
            exact ih_9 (v4_9 + 1) (wi_up hu_9 (Int32.not_le.mp c_3)) hT (wi_inc hn_9 (Int32.not_le.mp c_3)) _ _ hP hD hS _ (lv_sub hl [1, 2, 3, 4, 0] rfl)
          refine lv_if_ne (tgt := 81) hx hb dX9_headsToSplit_54 (by decide) (fun c_10 => ?_) (fun c_10 => ?_)
          · rw [if_neg c_10] at hT
            exact J_81 () hT _ _ (tP_sub hP [0, 1, 8, 9, 10, 2, 3, 7, 4, 5, 6] rfl) (tD_sub hD [0, 1, 8, 9, 10, 2, 3, 7, 4, 5, 6] (by decide) rfl) hS _ (lv_sub hl [2, 3, 4, 5, 6] rfl)
          · rw [if_pos c_10] at hT
            refine lv_iload hx hb dX9_headsToSplit_57 (lv_at hl 0 rfl) ?_
            refine lv_iload_n hx hb dX9_headsToSplit_59 rfl (lv_at hl 3 rfl) ?_
            refine lv_iand hx hb dX9_headsToSplit_60 ?_
            refine lv_if_ne (tgt := 81) hx hb dX9_headsToSplit_61 (by decide) (fun c_11 => ?_) (fun c_11 => ?_)
            · rw [if_neg c_11] at hT
              exact J_81 () hT _ _ (tP_sub hP [0, 1, 8, 9, 10, 2, 3, 7, 4, 5, 6] rfl) (tD_sub hD [0, 1, 8, 9, 10, 2, 3, 7, 4, 5, 6] (by decide) rfl) hS _ (lv_sub hl [2, 3, 4, 5, 6] rfl)
            · rw [if_pos c_11] at hT
              refine lv_aload_n hx hb dX9_headsToSplit_64 rfl (lv_at hl 2 rfl) ?_
              refine va_get (D := D) (ci := 11) (v := .ref x21) (C := RX9) (T := TX9) (N := 17) hx hb hts iv_k_X9_headsToSplit_X9 hown hK hP 8 rfl rfl 2 (by decide) (hts (.fieldLink RX9 12 "AnswerFold$Solver" "checks" "LAnswerFold$Rows;") (by decide +kernel)) (fun _ h9 => h9) rfl dX9_headsToSplit_65 ?_
              refine lv_iload hx hb dX9_headsToSplit_68 (lv_at hl 1 rfl) ?_
              refine lv_iload_n hx hb dX9_headsToSplit_70 rfl (lv_at hl 3 rfl) ?_
              refine lv_iload_n hx hb dX9_headsToSplit_71 rfl (lv_at hl 5 rfl) ?_
              obtain ⟨t_72, ht_72⟩ : ∃ t, t = m_k_X7_bodyHolds c1 c2 c3 (ac v4_9.toNatClampNeg) a1 t_2 := ⟨_, rfl⟩
              rw [lE_eq ht_72] at hT
              refine wq_iQ (wc := [(x21, .inr (9, [.ref x22, .ref x23, .ref x24, .ref x25, .ref x26, .ref x27, .int cn])), (x22, .inl (ty 0, 300, .inl c1)), (x23, .inl (ty 0, 300, .inl c2)), (x24, .inl (ty 0, 300, .inl c3))]) (wr := [(x1, .inr (8, [.ref x2, .int pn, .ref x3, .int rn, .ref x4, .ref x5, .int tn, .ref x6, .ref x7, .int en])), (x3, .inl (ty 4, 20, .inr (.inr (.inr (.inr rf))))), (x35, .inl (ty 0, 300, .inl ac)), (x36, .inl (ty 0, 6, .inl obi)), (x37, .inl (ty 0, 6, .inl sc)), (x25, .inl (ty 0, 300, .inl c4)), (x20, .inr (11, [.ref x1, .ref x8, .ref x21, .ref x28, .ref x35, .int an, .ref x36, .ref x37, .ref x38, .int ch, .int cg, .int fb, .int mh, .int ml, .int ih, .int lb, .int ic]))]) (pl := pw ty pp) (va_runV (As := [.int (ac v4_9.toNatClampNeg), .int a1, .int t_2]) (rest := []) ⟨hx, hb, hml, hown, hts⟩ (k_X7_bodyHolds l D ty td mi H.size x21 x22 x23 x24 x25 x26 x27 cn c1 c2 c3 (ac v4_9.toNatClampNeg) a1 t_2 t_72 ht_72) (cwV 3 hts gv_k_X9_headsToSplit_3 rfl rfl rfl (by decide +kernel) ⟨(Nat.le_of_ble_eq_true rfl), (Nat.le_of_ble_eq_true rfl)⟩) ⟨(wq_preS (vP_left hP) (vD_left hD) hK hE hS hA [9, 10, 2, 3] rfl (by decide) (As := .ref x21 :: [.int (ac v4_9.toNatClampNeg), .int a1, .int t_2])).1, va_recv (q0 := 9) (ci := 9) hK hP rfl rfl, (wq_preS (vP_left hP) (vD_left hD) hK hE hS hA [9, 10, 2, 3] rfl (by decide) (As := .ref x21 :: [.int (ac v4_9.toNatClampNeg), .int a1, .int t_2])).2⟩ rfl rfl hl.1 rfl (lv_room (Nat.le_of_ble_eq_true rfl)) dX9_headsToSplit_72 ⟨(Nat.le_of_ble_eq_true rfl), (Nat.le_of_ble_eq_true rfl)⟩) hS hA hP hD [9, 10, 2, 3] [0, 1, 4, 5, 6, 7, 8] rfl rfl (by decide) (by decide) (fun r u H locs hw hP hD hS => ?_)
              obtain ⟨hr0, c_14, rfl⟩ := hw
              subst r
              have hP : va_P D vwCl ([(x1, .inr (8, [.ref x2, .int pn, .ref x3, .int rn, .ref x4, .ref x5, .int tn, .ref x6, .ref x7, .int en])), (x3, .inl (ty 4, 20, .inr (.inr (.inr (.inr rf))))), (x35, .inl (ty 0, 300, .inl ac)), (x36, .inl (ty 0, 6, .inl obi)), (x37, .inl (ty 0, 6, .inl sc)), (x25, .inl (ty 0, 300, .inl c4)), (x20, .inr (11, [.ref x1, .ref x8, .ref x21, .ref x28, .ref x35, .int an, .ref x36, .ref x37, .ref x38, .int ch, .int cg, .int fb, .int mh, .int ml, .int ih, .int lb, .int ic])), (x21, .inr (9, [.ref x22, .ref x23, .ref x24, .ref x25, .ref x26, .ref x27, .int cn])), (x22, .inl (ty 0, 300, .inl c1)), (x23, .inl (ty 0, 300, .inl c2)), (x24, .inl (ty 0, 300, .inl c3))] ++ pw ty pp) H := hP
              have hD : va_D A ([(x1, .inr (8, [.ref x2, .int pn, .ref x3, .int rn, .ref x4, .ref x5, .int tn, .ref x6, .ref x7, .int en])), (x3, .inl (ty 4, 20, .inr (.inr (.inr (.inr rf))))), (x35, .inl (ty 0, 300, .inl ac)), (x36, .inl (ty 0, 6, .inl obi)), (x37, .inl (ty 0, 6, .inl sc)), (x25, .inl (ty 0, 300, .inl c4)), (x20, .inr (11, [.ref x1, .ref x8, .ref x21, .ref x28, .ref x35, .int an, .ref x36, .ref x37, .ref x38, .int ch, .int cg, .int fb, .int mh, .int ml, .int ih, .int lb, .int ic])), (x21, .inr (9, [.ref x22, .ref x23, .ref x24, .ref x25, .ref x26, .ref x27, .int cn])), (x22, .inl (ty 0, 300, .inl c1)), (x23, .inl (ty 0, 300, .inl c2)), (x24, .inl (ty 0, 300, .inl c3))] ++ pw ty pp) := hD
              refine W.widen (k := 0) (n := 0) (Nat.le_of_ble_eq_true rfl) (Nat.le_of_ble_eq_true rfl) ?_
              refine lv_if_eq (tgt := 81) hx hb dX9_headsToSplit_75 (by decide) (fun c_15 => ?_) (fun c_15 => ?_)
              · rw [if_pos c_15] at hT
                exact J_81 () hT _ _ (tP_sub hP [0, 1, 6, 7, 8, 9, 10, 5, 2, 3, 4] rfl) (tD_sub hD [0, 1, 6, 7, 8, 9, 10, 5, 2, 3, 4] (by decide) rfl) hS _ (lv_sub hl [2, 3, 4, 5, 6] rfl)
              · rw [if_neg c_15] at hT
                refine lv_iload hx hb dX9_headsToSplit_78 (lv_at hl 0 rfl) ?_
                exact END (t_41 &&& a2) hT _ _ (tP_sub hP [0, 1, 6, 7, 8, 9, 10, 5, 2, 3, 4] rfl) (tD_sub hD [0, 1, 6, 7, 8, 9, 10, 5, 2, 3, 4] (by decide) rfl) hS _ _ dX9_headsToSplit_80
  exact L_9 wF 0 (wF_up 0) hT (by decide) _ _ (tP_sub hP [6, 7, 8, 0, 1, 2, 3, 4, 5, 9, 10] rfl) (tD_sub hD [6, 7, 8, 0, 1, 2, 3, 4, 5, 9, 10] (by decide) rfl) hS _ (lv_sub hl [2, 3, 4, 1, 0] rfl)
theorem dX9_hasSmaller_0 : decode cX9_hasSmaller 0 = .ok (.aload_n 0, 1) := by decide +kernel
theorem dX9_hasSmaller_1 : decode cX9_hasSmaller 1 = .ok (.iload_n 1, 1) := by decide +kernel
theorem dX9_hasSmaller_2 : decode cX9_hasSmaller 2 = .ok (.invokevirtual 266, 3) := by decide +kernel
theorem dX9_hasSmaller_5 : decode cX9_hasSmaller 5 = .ok (.aload_n 0, 1) := by decide +kernel
theorem dX9_hasSmaller_6 : decode cX9_hasSmaller 6 = .ok (.getfield 31, 3) := by decide +kernel
theorem dX9_hasSmaller_9 : decode cX9_hasSmaller 9 = .ok (.iconst 0, 1) := by decide +kernel
theorem dX9_hasSmaller_10 : decode cX9_hasSmaller 10 = .ok (.iload_n 1, 1) := by decide +kernel
theorem dX9_hasSmaller_11 : decode cX9_hasSmaller 11 = .ok (.aload_n 0, 1) := by decide +kernel
theorem dX9_hasSmaller_12 : decode cX9_hasSmaller 12 = .ok (.getfield 75, 3) := by decide +kernel
theorem dX9_hasSmaller_15 : decode cX9_hasSmaller 15 = .ok (.iand, 1) := by decide +kernel
theorem dX9_hasSmaller_16 : decode cX9_hasSmaller 16 = .ok (.iastore, 1) := by decide +kernel
theorem dX9_hasSmaller_17 : decode cX9_hasSmaller 17 = .ok (.iconst 1, 1) := by decide +kernel
theorem dX9_hasSmaller_18 : decode cX9_hasSmaller 18 = .ok (.istore_n 2, 1) := by decide +kernel
theorem dX9_hasSmaller_19 : decode cX9_hasSmaller 19 = .ok (.iconst 0, 1) := by decide +kernel
theorem dX9_hasSmaller_20 : decode cX9_hasSmaller 20 = .ok (.istore_n 3, 1) := by decide +kernel
theorem dX9_hasSmaller_21 : decode cX9_hasSmaller 21 = .ok (.iload_n 2, 1) := by decide +kernel
theorem dX9_hasSmaller_22 : decode cX9_hasSmaller 22 = .ok (.ifCond .le 114, 3) := by decide +kernel
theorem dX9_hasSmaller_25 : decode cX9_hasSmaller 25 = .ok (.iload_n 2, 1) := by decide +kernel
theorem dX9_hasSmaller_26 : decode cX9_hasSmaller 26 = .ok (.aload_n 0, 1) := by decide +kernel
theorem dX9_hasSmaller_27 : decode cX9_hasSmaller 27 = .ok (.getfield 31, 3) := by decide +kernel
theorem dX9_hasSmaller_30 : decode cX9_hasSmaller 30 = .ok (.arraylength, 1) := by decide +kernel
theorem dX9_hasSmaller_31 : decode cX9_hasSmaller 31 = .ok (.if_icmp .ge 105, 3) := by decide +kernel
theorem dX9_hasSmaller_34 : decode cX9_hasSmaller 34 = .ok (.iload_n 3, 1) := by decide +kernel
theorem dX9_hasSmaller_35 : decode cX9_hasSmaller 35 = .ok (.ldc_w 269, 3) := by decide +kernel
theorem dX9_hasSmaller_38 : decode cX9_hasSmaller 38 = .ok (.if_icmp .ge 98, 3) := by decide +kernel
theorem dX9_hasSmaller_41 : decode cX9_hasSmaller 41 = .ok (.iinc 2 (-1), 3) := by decide +kernel
theorem dX9_hasSmaller_44 : decode cX9_hasSmaller 44 = .ok (.aload_n 0, 1) := by decide +kernel
theorem dX9_hasSmaller_45 : decode cX9_hasSmaller 45 = .ok (.aload_n 0, 1) := by decide +kernel
theorem dX9_hasSmaller_46 : decode cX9_hasSmaller 46 = .ok (.getfield 31, 3) := by decide +kernel
theorem dX9_hasSmaller_49 : decode cX9_hasSmaller 49 = .ok (.iload_n 2, 1) := by decide +kernel
theorem dX9_hasSmaller_50 : decode cX9_hasSmaller 50 = .ok (.iaload, 1) := by decide +kernel
theorem dX9_hasSmaller_51 : decode cX9_hasSmaller 51 = .ok (.iload_n 1, 1) := by decide +kernel
theorem dX9_hasSmaller_52 : decode cX9_hasSmaller 52 = .ok (.invokevirtual 270, 3) := by decide +kernel
theorem dX9_hasSmaller_55 : decode cX9_hasSmaller 55 = .ok (.istore 4, 2) := by decide +kernel
theorem dX9_hasSmaller_57 : decode cX9_hasSmaller 57 = .ok (.aload_n 0, 1) := by decide +kernel
theorem dX9_hasSmaller_58 : decode cX9_hasSmaller 58 = .ok (.iload 4, 2) := by decide +kernel
theorem dX9_hasSmaller_60 : decode cX9_hasSmaller 60 = .ok (.iload_n 1, 1) := by decide +kernel
theorem dX9_hasSmaller_61 : decode cX9_hasSmaller 61 = .ok (.invokevirtual 273, 3) := by decide +kernel
theorem dX9_hasSmaller_64 : decode cX9_hasSmaller 64 = .ok (.istore 5, 2) := by decide +kernel
theorem dX9_hasSmaller_66 : decode cX9_hasSmaller 66 = .ok (.iload 5, 2) := by decide +kernel
theorem dX9_hasSmaller_68 : decode cX9_hasSmaller 68 = .ok (.ifCond .ne 11, 3) := by decide +kernel
theorem dX9_hasSmaller_71 : decode cX9_hasSmaller 71 = .ok (.iload 4, 2) := by decide +kernel
theorem dX9_hasSmaller_73 : decode cX9_hasSmaller 73 = .ok (.iload_n 1, 1) := by decide +kernel
theorem dX9_hasSmaller_74 : decode cX9_hasSmaller 74 = .ok (.if_icmp .eq 56, 3) := by decide +kernel
theorem dX9_hasSmaller_77 : decode cX9_hasSmaller 77 = .ok (.iconst 1, 1) := by decide +kernel
theorem dX9_hasSmaller_78 : decode cX9_hasSmaller 78 = .ok (.ireturn, 1) := by decide +kernel
theorem dX9_hasSmaller_79 : decode cX9_hasSmaller 79 = .ok (.iload_n 2, 1) := by decide +kernel
theorem dX9_hasSmaller_80 : decode cX9_hasSmaller 80 = .ok (.iconst 1, 1) := by decide +kernel
theorem dX9_hasSmaller_81 : decode cX9_hasSmaller 81 = .ok (.iadd, 1) := by decide +kernel
theorem dX9_hasSmaller_82 : decode cX9_hasSmaller 82 = .ok (.aload_n 0, 1) := by decide +kernel
theorem dX9_hasSmaller_83 : decode cX9_hasSmaller 83 = .ok (.getfield 31, 3) := by decide +kernel
theorem dX9_hasSmaller_86 : decode cX9_hasSmaller 86 = .ok (.arraylength, 1) := by decide +kernel
theorem dX9_hasSmaller_87 : decode cX9_hasSmaller 87 = .ok (.if_icmp .ge 43, 3) := by decide +kernel
theorem dX9_hasSmaller_90 : decode cX9_hasSmaller 90 = .ok (.iload 5, 2) := by decide +kernel
theorem dX9_hasSmaller_92 : decode cX9_hasSmaller 92 = .ok (.iload 5, 2) := by decide +kernel
theorem dX9_hasSmaller_94 : decode cX9_hasSmaller 94 = .ok (.ineg, 1) := by decide +kernel
theorem dX9_hasSmaller_95 : decode cX9_hasSmaller 95 = .ok (.iand, 1) := by decide +kernel
theorem dX9_hasSmaller_96 : decode cX9_hasSmaller 96 = .ok (.istore 6, 2) := by decide +kernel
theorem dX9_hasSmaller_98 : decode cX9_hasSmaller 98 = .ok (.aload_n 0, 1) := by decide +kernel
theorem dX9_hasSmaller_99 : decode cX9_hasSmaller 99 = .ok (.getfield 31, 3) := by decide +kernel
theorem dX9_hasSmaller_102 : decode cX9_hasSmaller 102 = .ok (.iload_n 2, 1) := by decide +kernel
theorem dX9_hasSmaller_103 : decode cX9_hasSmaller 103 = .ok (.iload 4, 2) := by decide +kernel
theorem dX9_hasSmaller_105 : decode cX9_hasSmaller 105 = .ok (.iload 6, 2) := by decide +kernel
theorem dX9_hasSmaller_107 : decode cX9_hasSmaller 107 = .ok (.ior, 1) := by decide +kernel
theorem dX9_hasSmaller_108 : decode cX9_hasSmaller 108 = .ok (.iastore, 1) := by decide +kernel
theorem dX9_hasSmaller_109 : decode cX9_hasSmaller 109 = .ok (.aload_n 0, 1) := by decide +kernel
theorem dX9_hasSmaller_110 : decode cX9_hasSmaller 110 = .ok (.getfield 31, 3) := by decide +kernel
theorem dX9_hasSmaller_113 : decode cX9_hasSmaller 113 = .ok (.iload_n 2, 1) := by decide +kernel
theorem dX9_hasSmaller_114 : decode cX9_hasSmaller 114 = .ok (.iconst 1, 1) := by decide +kernel
theorem dX9_hasSmaller_115 : decode cX9_hasSmaller 115 = .ok (.iadd, 1) := by decide +kernel
theorem dX9_hasSmaller_116 : decode cX9_hasSmaller 116 = .ok (.iload 4, 2) := by decide +kernel
theorem dX9_hasSmaller_118 : decode cX9_hasSmaller 118 = .ok (.iload 5, 2) := by decide +kernel
theorem dX9_hasSmaller_120 : decode cX9_hasSmaller 120 = .ok (.iload 6, 2) := by decide +kernel
theorem dX9_hasSmaller_122 : decode cX9_hasSmaller 122 = .ok (.iconst (-1), 1) := by decide +kernel
theorem dX9_hasSmaller_123 : decode cX9_hasSmaller 123 = .ok (.ixor, 1) := by decide +kernel
theorem dX9_hasSmaller_124 : decode cX9_hasSmaller 124 = .ok (.iand, 1) := by decide +kernel
theorem dX9_hasSmaller_125 : decode cX9_hasSmaller 125 = .ok (.ior, 1) := by decide +kernel
theorem dX9_hasSmaller_126 : decode cX9_hasSmaller 126 = .ok (.iastore, 1) := by decide +kernel
theorem dX9_hasSmaller_127 : decode cX9_hasSmaller 127 = .ok (.iinc 2 2, 3) := by decide +kernel
theorem dX9_hasSmaller_130 : decode cX9_hasSmaller 130 = .ok (.iinc 3 1, 3) := by decide +kernel
theorem dX9_hasSmaller_133 : decode cX9_hasSmaller 133 = .ok (.goto (-112), 3) := by decide +kernel
theorem dX9_hasSmaller_136 : decode cX9_hasSmaller 136 = .ok (.iconst 0, 1) := by decide +kernel
theorem dX9_hasSmaller_137 : decode cX9_hasSmaller 137 = .ok (.ireturn, 1) := by decide +kernel
abbrev r_k_X9_hasSmaller : Type := Int32 × Int32 × (Nat → Int32) × (Nat → Int32)
def m_k_X9_hasSmaller_130 (rec_21 : Int32 → Int32 → (Nat → Int32) → r_k_X9_hasSmaller) (v3_21 : Int32) (v2_130 : Int32) (x38_f_130 : Nat → Int32) : r_k_X9_hasSmaller :=
  rec_21 v2_130 (v3_21 + 1) x38_f_130
def m_k_X9_hasSmaller_21s (pp : pT) (rn : Int32) (rf : Nat → Option Nat) (ch : Int32) (cg : Int32) (c1 : Nat → Int32) (c2 : Nat → Int32) (c3 : Nat → Int32) (c4 : Nat → Int32) (obi : Nat → Int32) (sc : Nat → Int32) (a1 : Int32) (t_2 : r_k_X9_listActive) (rec_21 : Int32 → Int32 → (Nat → Int32) → r_k_X9_hasSmaller) (v2_21 : Int32) (v3_21 : Int32) (x38_f_21 : Nat → Int32) : r_k_X9_hasSmaller :=
  if v2_21 ≤ 0 then
    (0, t_2.1, t_2.2, x38_f_21)
  else
    if 26 ≤ v2_21 then
      (0, t_2.1, t_2.2, x38_f_21)
    else
      if 1000000 ≤ v3_21 then
        (0, t_2.1, t_2.2, x38_f_21)
      else
        lE (m_k_X9_grow pp rn rf t_2.1 ch cg c1 c2 c3 c4 t_2.2 obi sc (x38_f_21 (v2_21 + (-1)).toNatClampNeg) a1) (fun t_52 =>
          lE (m_k_X9_headsToSplit pp rn rf t_2.1 ch cg c1 c2 c3 c4 t_2.2 obi sc t_52 a1) (fun t_61 =>
            if t_61 = 0 then
              if t_52 = a1 then
                m_k_X9_hasSmaller_130 rec_21 v3_21 (v2_21 + (-1)) x38_f_21
              else
                (1, t_2.1, t_2.2, x38_f_21)
            else
              if 26 ≤ ((v2_21 + (-1)) + 1) then
                m_k_X9_hasSmaller_130 rec_21 v3_21 (v2_21 + (-1)) x38_f_21
              else
                m_k_X9_hasSmaller_130 rec_21 v3_21 ((v2_21 + (-1)) + 2) (upd (upd x38_f_21 ((v2_21 + (-1)).toNatClampNeg) (t_52 ||| (t_61 &&& (-t_61)))) (((v2_21 + (-1)) + 1).toNatClampNeg) (t_52 ||| (t_61 &&& ((t_61 &&& (-t_61)) ^^^ (-1)))))))
def m_k_X9_hasSmaller_21 (pp : pT) (rn : Int32) (rf : Nat → Option Nat) (ch : Int32) (cg : Int32) (c1 : Nat → Int32) (c2 : Nat → Int32) (c3 : Nat → Int32) (c4 : Nat → Int32) (obi : Nat → Int32) (sc : Nat → Int32) (a1 : Int32) (t_2 : r_k_X9_listActive) : Nat → Int32 → Int32 → (Nat → Int32) → r_k_X9_hasSmaller
  | 0, _, _, _ => (0, 0, (fun _ => 0), (fun _ => 0))
  | n + 1, v2_21, v3_21, x38_f_21 => m_k_X9_hasSmaller_21s pp rn rf ch cg c1 c2 c3 c4 obi sc a1 t_2 (fun v2_21 v3_21 x38_f_21 => m_k_X9_hasSmaller_21 pp rn rf ch cg c1 c2 c3 c4 obi sc a1 t_2 n v2_21 v3_21 x38_f_21) v2_21 v3_21 x38_f_21
theorem m_k_X9_hasSmaller_21_succ (pp : pT) (rn : Int32) (rf : Nat → Option Nat) (ch : Int32) (cg : Int32) (c1 : Nat → Int32) (c2 : Nat → Int32) (c3 : Nat → Int32) (c4 : Nat → Int32) (obi : Nat → Int32) (sc : Nat → Int32) (a1 : Int32) (t_2 : r_k_X9_listActive) (n : Nat) (v2_21 : Int32) (v3_21 : Int32) (x38_f_21 : Nat → Int32) : m_k_X9_hasSmaller_21 pp rn rf ch cg c1 c2 c3 c4 obi sc a1 t_2 (n + 1) v2_21 v3_21 x38_f_21 = m_k_X9_hasSmaller_21s pp rn rf ch cg c1 c2 c3 c4 obi sc a1 t_2 (m_k_X9_hasSmaller_21 pp rn rf ch cg c1 c2 c3 c4 obi sc a1 t_2 n) v2_21 v3_21 x38_f_21 := rfl
def m_k_X9_hasSmaller (pp : pT) (rn : Int32) (rf : Nat → Option Nat) (ch : Int32) (cg : Int32) (fb : Int32) (cn : Int32) (c1 : Nat → Int32) (c2 : Nat → Int32) (c3 : Nat → Int32) (c4 : Nat → Int32) (ac : Nat → Int32) (obi : Nat → Int32) (sc : Nat → Int32) (br : Nat → Int32) (a1 : Int32) : r_k_X9_hasSmaller :=
  lE (m_k_X9_listActive pp rn rf cg cn c1 c2 c3 c4 ac obi sc a1) (fun t_2 =>
    m_k_X9_hasSmaller_21 pp rn rf ch cg c1 c2 c3 c4 obi sc a1 t_2 wF 1 0 (upd br ((0 : Int32).toNatClampNeg) (a1 &&& fb)))
def vs_k_X9_hasSmaller : List Cond := .code yX9_hasSmaller cX9_hasSmaller 7 (some .boolean) :: ([.methodLink RX9 266 yX9_listActive, .instanceMethod yX9_listActive, .selects RX9 yX9_listActive yX9_listActive, .initialized RX9, .fieldLink RX9 31 "AnswerFold$Solver" "branches" "[I", .fieldLink RX9 75 "AnswerFold$Solver" "freeBits" "I", .constant RX9 269 1000000, .methodLink RX9 270 yX9_grow, .instanceMethod yX9_grow, .selects RX9 yX9_grow yX9_grow, .methodLink RX9 273 yX9_headsToSplit, .instanceMethod yX9_headsToSplit, .selects RX9 yX9_headsToSplit yX9_headsToSplit] ++ (vs_k_X9_listActive ++ (u_ws RX9 TX9 17 ++ (vs_k_X9_grow ++ (vs_k_X9_headsToSplit)))))
theorem iv_k_X9_hasSmaller_X9 : ∀ w ∈ u_ws RX9 TX9 17, w ∈ vs_k_X9_hasSmaller := (fun _ h => List.mem_cons_of_mem _ (List.mem_append_right _ (List.mem_append_right _ (List.mem_append_left _ h))))
set_option maxRecDepth 20000 in
theorem gv_k_X9_hasSmaller_0 : GoodIn vs_k_X9_hasSmaller (wsV RX9 266 RX9 yX9_listActive vs_k_X9_listActive) := goodIn_app (goodIn_sub (by decide +kernel) (by decide +kernel)) (goodIn_sub (fun _ h => List.mem_cons_of_mem _ (List.mem_append_right _ (List.mem_append_left _ h))) (by decide +kernel))
set_option maxRecDepth 20000 in
theorem gv_k_X9_hasSmaller_1 : GoodIn vs_k_X9_hasSmaller (wsV RX9 270 RX9 yX9_grow vs_k_X9_grow) := goodIn_app (goodIn_sub (by decide +kernel) (by decide +kernel)) (goodIn_sub (fun _ h => List.mem_cons_of_mem _ (List.mem_append_right _ (List.mem_append_right _ (List.mem_append_right _ (List.mem_append_left _ h))))) (by decide +kernel))
set_option maxRecDepth 20000 in
theorem gv_k_X9_hasSmaller_2 : GoodIn vs_k_X9_hasSmaller (wsV RX9 273 RX9 yX9_headsToSplit vs_k_X9_headsToSplit) := goodIn_app (goodIn_sub (by decide +kernel) (by decide +kernel)) (goodIn_sub (fun _ h => List.mem_cons_of_mem _ (List.mem_append_right _ (List.mem_append_right _ (List.mem_append_right _ (List.mem_append_right _ (h)))))) (by decide +kernel))
theorem om_k_X9_hasSmaller_0 (v2_21 : Int32) (v3_21 : Int32) (hn_21 : 0 ≤ v3_21.toInt) (c_3 : ¬ (v2_21 ≤ 0)) (c_4 : ¬ (26 ≤ v2_21)) (c_5 : ¬ (1000000 ≤ v3_21)) : vp_in (v2_21 + (-1)) 26 := by
  have f_0 := hn_21
  have f_1 := Int32.lt_iff_toInt_lt.mp (Int32.not_le.mp c_3)
  have f_2 := Int32.lt_iff_toInt_lt.mp (Int32.not_le.mp c_4)
  have f_3 := Int32.lt_iff_toInt_lt.mp (Int32.not_le.mp c_5)
  have nl_m1 : (-1 : Int32).toInt = -1 := rfl
  have nl_0 : (0 : Int32).toInt = 0 := rfl
  have nl_1000000 : (1000000 : Int32).toInt = 1000000 := rfl
  have nl_26 : (26 : Int32).toInt = 26 := rfl
  have r_v2_21 := wi_rng v2_21
  have q_1 : (v2_21 + (-1)).toInt = (v2_21 : Int32).toInt + ((-1) : Int32).toInt := wi_add (by omega) (by omega)
  exact wi_in (by omega) (by omega)
theorem om_k_X9_hasSmaller_1 (v2_21 : Int32) (v3_21 : Int32) (t_61 : r_k_X9_headsToSplit) (hn_21 : 0 ≤ v3_21.toInt) (c_3 : ¬ (v2_21 ≤ 0)) (c_4 : ¬ (26 ≤ v2_21)) (c_5 : ¬ (1000000 ≤ v3_21)) (c_10 : ¬ (t_61 = 0)) : vp_in (v2_21 + (-1)) 26 := by
  have f_0 := hn_21
  have f_1 := Int32.lt_iff_toInt_lt.mp (Int32.not_le.mp c_3)
  have f_2 := Int32.lt_iff_toInt_lt.mp (Int32.not_le.mp c_4)
  have f_3 := Int32.lt_iff_toInt_lt.mp (Int32.not_le.mp c_5)
  have f_4 : ¬ (t_61 : Int32).toInt = (0 : Int32).toInt := fun h => c_10 (Int32.toInt_inj.mp h)
  have nl_m1 : (-1 : Int32).toInt = -1 := rfl
  have nl_0 : (0 : Int32).toInt = 0 := rfl
  have nl_1000000 : (1000000 : Int32).toInt = 1000000 := rfl
  have nl_26 : (26 : Int32).toInt = 26 := rfl
  have r_v2_21 := wi_rng v2_21
  have q_1 : (v2_21 + (-1)).toInt = (v2_21 : Int32).toInt + ((-1) : Int32).toInt := wi_add (by omega) (by omega)
  exact wi_in (by omega) (by omega)
theorem om_k_X9_hasSmaller_2 (v2_21 : Int32) (v3_21 : Int32) (t_61 : r_k_X9_headsToSplit) (hn_21 : 0 ≤ v3_21.toInt) (c_3 : ¬ (v2_21 ≤ 0)) (c_4 : ¬ (26 ≤ v2_21)) (c_5 : ¬ (1000000 ≤ v3_21)) (c_10 : ¬ (t_61 = 0)) : vp_in ((v2_21 + (-1)) + 1) 26 := by
  have f_0 := hn_21
  have f_1 := Int32.lt_iff_toInt_lt.mp (Int32.not_le.mp c_3)
  have f_2 := Int32.lt_iff_toInt_lt.mp (Int32.not_le.mp c_4)
  have f_3 := Int32.lt_iff_toInt_lt.mp (Int32.not_le.mp c_5)
  have f_4 : ¬ (t_61 : Int32).toInt = (0 : Int32).toInt := fun h => c_10 (Int32.toInt_inj.mp h)
  have nl_m1 : (-1 : Int32).toInt = -1 := rfl
  have nl_0 : (0 : Int32).toInt = 0 := rfl
  have nl_1 : (1 : Int32).toInt = 1 := rfl
  have nl_1000000 : (1000000 : Int32).toInt = 1000000 := rfl
  have nl_26 : (26 : Int32).toInt = 26 := rfl
  have r_v2_21 := wi_rng v2_21
  have q_1 : (v2_21 + (-1)).toInt = (v2_21 : Int32).toInt + ((-1) : Int32).toInt := wi_add (by omega) (by omega)
  have q_2 : ((v2_21 + (-1)) + 1).toInt = ((v2_21 + (-1)) : Int32).toInt + (1 : Int32).toInt := wi_add (by omega) (by omega)
  exact wi_in (by omega) (by omega)
set_option maxHeartbeats 4000000 in
set_option maxRecDepth 100000 in
theorem k_X9_hasSmaller (l : Launch) (D : va_G) (ty : Nat → ClassId) (td mi sz : Nat) (pp : pT) (x1 : Nat) (x2 : Nat) (pn : Int32) (x3 : Nat) (rn : Int32) (x4 : Nat) (x5 : Nat) (tn : Int32) (x6 : Nat) (x7 : Nat) (en : Int32) (rf : Nat → Option Nat) (x20 : Nat) (x8 : Nat) (x21 : Nat) (x28 : Nat) (x35 : Nat) (an : Int32) (x36 : Nat) (x37 : Nat) (x38 : Nat) (ch : Int32) (cg : Int32) (fb : Int32) (mh : Int32) (ml : Int32) (ih : Int32) (lb : Int32) (ic : Int32) (x22 : Nat) (x23 : Nat) (x24 : Nat) (x25 : Nat) (x26 : Nat) (x27 : Nat) (cn : Int32) (c1 : Nat → Int32) (c2 : Nat → Int32) (c3 : Nat → Int32) (c4 : Nat → Int32) (ac : Nat → Int32) (obi : Nat → Int32) (sc : Nat → Int32) (br : Nat → Int32) (a1 : Int32) (hok : pOK pp) (hru : ∀ (i a : Nat), rf i = some a → a ∈ pRA pp) (TT : r_k_X9_hasSmaller) (hTT : TT = m_k_X9_hasSmaller pp rn rf ch cg fb cn c1 c2 c3 c4 ac obi sc br a1) : Met l yX9_hasSmaller vs_k_X9_hasSmaller { frames := 5, cells := 0, slots := 0, locals := 122 } (va_Pc [.ref x20, .int a1] (wq_P D ty td mi ([(x1, .inr (8, [.ref x2, .int pn, .ref x3, .int rn, .ref x4, .ref x5, .int tn, .ref x6, .ref x7, .int en])), (x3, .inl (ty 4, 20, .inr (.inr (.inr (.inr rf))))), (x20, .inr (11, [.ref x1, .ref x8, .ref x21, .ref x28, .ref x35, .int an, .ref x36, .ref x37, .ref x38, .int ch, .int cg, .int fb, .int mh, .int ml, .int ih, .int lb, .int ic])), (x21, .inr (9, [.ref x22, .ref x23, .ref x24, .ref x25, .ref x26, .ref x27, .int cn])), (x22, .inl (ty 0, 300, .inl c1)), (x23, .inl (ty 0, 300, .inl c2)), (x24, .inl (ty 0, 300, .inl c3)), (x25, .inl (ty 0, 300, .inl c4)), (x35, .inl (ty 0, 300, .inl ac)), (x36, .inl (ty 0, 6, .inl obi)), (x37, .inl (ty 0, 6, .inl sc)), (x38, .inl (ty 0, 26, .inl br))] ++ pw ty pp) sz)) (va_Qi (fun (r : Int32) (u : va_W) => (r = TT.1 ∧ (TT.1 = 0 ∨ TT.1 = 1) ∧ (u = ([(x1, .inr (8, [.ref x2, .int pn, .ref x3, .int rn, .ref x4, .ref x5, .int tn, .ref x6, .ref x7, .int en])), (x3, .inl (ty 4, 20, .inr (.inr (.inr (.inr rf))))), (x20, .inr (11, [.ref x1, .ref x8, .ref x21, .ref x28, .ref x35, .int TT.2.1, .ref x36, .ref x37, .ref x38, .int ch, .int cg, .int fb, .int mh, .int ml, .int ih, .int lb, .int ic])), (x21, .inr (9, [.ref x22, .ref x23, .ref x24, .ref x25, .ref x26, .ref x27, .int cn])), (x22, .inl (ty 0, 300, .inl c1)), (x23, .inl (ty 0, 300, .inl c2)), (x24, .inl (ty 0, 300, .inl c3)), (x25, .inl (ty 0, 300, .inl c4)), (x35, .inl (ty 0, 300, .inl TT.2.2.1)), (x36, .inl (ty 0, 6, .inl obi)), (x37, .inl (ty 0, 6, .inl sc)), (x38, .inl (ty 0, 26, .inl TT.2.2.2))] ++ pw ty pp)))) (wq_B D (va_A ([(x1, .inr (8, [.ref x2, .int pn, .ref x3, .int rn, .ref x4, .ref x5, .int tn, .ref x6, .ref x7, .int en])), (x3, .inl (ty 4, 20, .inr (.inr (.inr (.inr rf))))), (x20, .inr (11, [.ref x1, .ref x8, .ref x21, .ref x28, .ref x35, .int an, .ref x36, .ref x37, .ref x38, .int ch, .int cg, .int fb, .int mh, .int ml, .int ih, .int lb, .int ic])), (x21, .inr (9, [.ref x22, .ref x23, .ref x24, .ref x25, .ref x26, .ref x27, .int cn])), (x22, .inl (ty 0, 300, .inl c1)), (x23, .inl (ty 0, 300, .inl c2)), (x24, .inl (ty 0, 300, .inl c3)), (x25, .inl (ty 0, 300, .inl c4)), (x35, .inl (ty 0, 300, .inl ac)), (x36, .inl (ty 0, 6, .inl obi)), (x37, .inl (ty 0, 6, .inl sc)), (x38, .inl (ty 0, 26, .inl br))] ++ pw ty pp) sz)) (va_A ([(x1, .inr (8, [.ref x2, .int pn, .ref x3, .int rn, .ref x4, .ref x5, .int tn, .ref x6, .ref x7, .int en])), (x3, .inl (ty 4, 20, .inr (.inr (.inr (.inr rf))))), (x20, .inr (11, [.ref x1, .ref x8, .ref x21, .ref x28, .ref x35, .int an, .ref x36, .ref x37, .ref x38, .int ch, .int cg, .int fb, .int mh, .int ml, .int ih, .int lb, .int ic])), (x21, .inr (9, [.ref x22, .ref x23, .ref x24, .ref x25, .ref x26, .ref x27, .int cn])), (x22, .inl (ty 0, 300, .inl c1)), (x23, .inl (ty 0, 300, .inl c2)), (x24, .inl (ty 0, 300, .inl c3)), (x25, .inl (ty 0, 300, .inl c4)), (x35, .inl (ty 0, 300, .inl ac)), (x36, .inl (ty 0, 6, .inl obi)), (x37, .inl (ty 0, 6, .inl sc)), (x38, .inl (ty 0, 26, .inl br))] ++ pw ty pp) sz)) 0 0 (va_A ([(x1, .inr (8, [.ref x2, .int pn, .ref x3, .int rn, .ref x4, .ref x5, .int tn, .ref x6, .ref x7, .int en])), (x3, .inl (ty 4, 20, .inr (.inr (.inr (.inr rf))))), (x20, .inr (11, [.ref x1, .ref x8, .ref x21, .ref x28, .ref x35, .int an, .ref x36, .ref x37, .ref x38, .int ch, .int cg, .int fb, .int mh, .int ml, .int ih, .int lb, .int ic])), (x21, .inr (9, [.ref x22, .ref x23, .ref x24, .ref x25, .ref x26, .ref x27, .int cn])), (x22, .inl (ty 0, 300, .inl c1)), (x23, .inl (ty 0, 300, .inl c2)), (x24, .inl (ty 0, 300, .inl c3)), (x25, .inl (ty 0, 300, .inl c4)), (x35, .inl (ty 0, 300, .inl ac)), (x36, .inl (ty 0, 6, .inl obi)), (x37, .inl (ty 0, 6, .inl sc)), (x38, .inl (ty 0, 26, .inl br))] ++ pw ty pp) sz) := by
  refine Met.ofW (cc := cX9_hasSmaller) (maxL := 7) (ret := (some .boolean)) (by decide) rfl ?_
  intro p e s m args below meth c s₁ B hml hv
  obtain ⟨rfl, hsz, hP, hK, hD0, hE⟩ := hv
  have hx := B.exec
  have hb := B.bytes
  have hr := B.returns
  have hts := atoms_spec (ws := vs_k_X9_hasSmaller) B.pre
  have hown : s.vm.findClass RX9 = some m.cls := findClass_of_methodNamed B.named
  have hlocks := B.notSynchronized
  subst hsz
  have hD := hD0.self (sz := s.heap.size)
  generalize hAe : va_A ([(x1, .inr (8, [.ref x2, .int pn, .ref x3, .int rn, .ref x4, .ref x5, .int tn, .ref x6, .ref x7, .int en])), (x3, .inl (ty 4, 20, .inr (.inr (.inr (.inr rf))))), (x20, .inr (11, [.ref x1, .ref x8, .ref x21, .ref x28, .ref x35, .int an, .ref x36, .ref x37, .ref x38, .int ch, .int cg, .int fb, .int mh, .int ml, .int ih, .int lb, .int ic])), (x21, .inr (9, [.ref x22, .ref x23, .ref x24, .ref x25, .ref x26, .ref x27, .int cn])), (x22, .inl (ty 0, 300, .inl c1)), (x23, .inl (ty 0, 300, .inl c2)), (x24, .inl (ty 0, 300, .inl c3)), (x25, .inl (ty 0, 300, .inl c4)), (x35, .inl (ty 0, 300, .inl ac)), (x36, .inl (ty 0, 6, .inl obi)), (x37, .inl (ty 0, 6, .inl sc)), (x38, .inl (ty 0, 26, .inl br))] ++ pw ty pp) s.heap.size = A at hD hE ⊢
  have hA : ∀ q : Nat, s.heap.size ≤ q → A q := fun q h => by rw [← hAe]; exact Or.inr h
  have hS : va_S A s.heap s.heap [] := va_S.rf
  have hP : va_P D vwCl ([(x1, .inr (8, [.ref x2, .int pn, .ref x3, .int rn, .ref x4, .ref x5, .int tn, .ref x6, .ref x7, .int en])), (x3, .inl (ty 4, 20, .inr (.inr (.inr (.inr rf))))), (x20, .inr (11, [.ref x1, .ref x8, .ref x21, .ref x28, .ref x35, .int an, .ref x36, .ref x37, .ref x38, .int ch, .int cg, .int fb, .int mh, .int ml, .int ih, .int lb, .int ic])), (x21, .inr (9, [.ref x22, .ref x23, .ref x24, .ref x25, .ref x26, .ref x27, .int cn])), (x22, .inl (ty 0, 300, .inl c1)), (x23, .inl (ty 0, 300, .inl c2)), (x24, .inl (ty 0, 300, .inl c3)), (x25, .inl (ty 0, 300, .inl c4)), (x35, .inl (ty 0, 300, .inl ac)), (x36, .inl (ty 0, 6, .inl obi)), (x37, .inl (ty 0, 6, .inl sc)), (x38, .inl (ty 0, 26, .inl br))] ++ pw ty pp) s.heap := hP
  have hl := lv_entry ([.ref x20, .int a1]) (n := 7) (Nat.le_of_ble_eq_true rfl)
  rw [lg_entry_eq]
  generalize (lg_sl ([.ref x20, .int a1]) ++ List.replicate (7 - (lg_sl ([.ref x20, .int a1])).length) Slot.unset).toArray = ls at hl ⊢
  have hl : lv_has ls 7 [(0, .ref x20), (1, .int a1)] := hl
  have END : ∀ (r : Int32) (e0 : Int32) (e1 : Nat → Int32) (e2 : Nat → Int32), TT = (r, e0, e1, e2) → (r = 0 ∨ r = 1) → ∀ (H : Heap) (locs : List Loc), va_P D vwCl ([(x1, .inr (8, [.ref x2, .int pn, .ref x3, .int rn, .ref x4, .ref x5, .int tn, .ref x6, .ref x7, .int en])), (x3, .inl (ty 4, 20, .inr (.inr (.inr (.inr rf))))), (x20, .inr (11, [.ref x1, .ref x8, .ref x21, .ref x28, .ref x35, .int e0, .ref x36, .ref x37, .ref x38, .int ch, .int cg, .int fb, .int mh, .int ml, .int ih, .int lb, .int ic])), (x21, .inr (9, [.ref x22, .ref x23, .ref x24, .ref x25, .ref x26, .ref x27, .int cn])), (x22, .inl (ty 0, 300, .inl c1)), (x23, .inl (ty 0, 300, .inl c2)), (x24, .inl (ty 0, 300, .inl c3)), (x25, .inl (ty 0, 300, .inl c4)), (x35, .inl (ty 0, 300, .inl e1)), (x36, .inl (ty 0, 6, .inl obi)), (x37, .inl (ty 0, 6, .inl sc)), (x38, .inl (ty 0, 26, .inl e2))] ++ pw ty pp) H → va_D A ([(x1, .inr (8, [.ref x2, .int pn, .ref x3, .int rn, .ref x4, .ref x5, .int tn, .ref x6, .ref x7, .int en])), (x3, .inl (ty 4, 20, .inr (.inr (.inr (.inr rf))))), (x20, .inr (11, [.ref x1, .ref x8, .ref x21, .ref x28, .ref x35, .int e0, .ref x36, .ref x37, .ref x38, .int ch, .int cg, .int fb, .int mh, .int ml, .int ih, .int lb, .int ic])), (x21, .inr (9, [.ref x22, .ref x23, .ref x24, .ref x25, .ref x26, .ref x27, .int cn])), (x22, .inl (ty 0, 300, .inl c1)), (x23, .inl (ty 0, 300, .inl c2)), (x24, .inl (ty 0, 300, .inl c3)), (x25, .inl (ty 0, 300, .inl c4)), (x35, .inl (ty 0, 300, .inl e1)), (x36, .inl (ty 0, 6, .inl obi)), (x37, .inl (ty 0, 6, .inl sc)), (x38, .inl (ty 0, 26, .inl e2))] ++ pw ty pp) → va_S A s.heap H locs → ∀ (ls : Array Slot) (pc : Nat), decode cX9_hasSmaller pc = .ok (.ireturn, 1) → W p l e (headSpec vs_k_X9_hasSmaller { frames := 5, cells := 0, slots := 0, locals := 122 }).room s m ([.ref x20, .int a1] : List Value).toArray below meth c H locs 0 0 (MQ below (va_Qi (fun (r : Int32) (u : va_W) => (r = TT.1 ∧ (TT.1 = 0 ∨ TT.1 = 1) ∧ (u = ([(x1, .inr (8, [.ref x2, .int pn, .ref x3, .int rn, .ref x4, .ref x5, .int tn, .ref x6, .ref x7, .int en])), (x3, .inl (ty 4, 20, .inr (.inr (.inr (.inr rf))))), (x20, .inr (11, [.ref x1, .ref x8, .ref x21, .ref x28, .ref x35, .int TT.2.1, .ref x36, .ref x37, .ref x38, .int ch, .int cg, .int fb, .int mh, .int ml, .int ih, .int lb, .int ic])), (x21, .inr (9, [.ref x22, .ref x23, .ref x24, .ref x25, .ref x26, .ref x27, .int cn])), (x22, .inl (ty 0, 300, .inl c1)), (x23, .inl (ty 0, 300, .inl c2)), (x24, .inl (ty 0, 300, .inl c3)), (x25, .inl (ty 0, 300, .inl c4)), (x35, .inl (ty 0, 300, .inl TT.2.2.1)), (x36, .inl (ty 0, 6, .inl obi)), (x37, .inl (ty 0, 6, .inl sc)), (x38, .inl (ty 0, 26, .inl TT.2.2.2))] ++ pw ty pp)))) (wq_B D A) A) ([.ref x20, .int a1] : List Value).toArray s 0 0 A) (F0 m pc ls [.int r]) := by
    intro r e0 e1 e2 hT hb01 H locs hP hD hS ls pc hd
    have hM : TT = (r, e0, e1, e2) := hT
    exact W.zret (v := r) hx hb hr (wz_nar hb01) (fun t ht hW => ⟨⟨r, ([(x1, .inr (8, [.ref x2, .int pn, .ref x3, .int rn, .ref x4, .ref x5, .int tn, .ref x6, .ref x7, .int en])), (x3, .inl (ty 4, 20, .inr (.inr (.inr (.inr rf))))), (x20, .inr (11, [.ref x1, .ref x8, .ref x21, .ref x28, .ref x35, .int e0, .ref x36, .ref x37, .ref x38, .int ch, .int cg, .int fb, .int mh, .int ml, .int ih, .int lb, .int ic])), (x21, .inr (9, [.ref x22, .ref x23, .ref x24, .ref x25, .ref x26, .ref x27, .int cn])), (x22, .inl (ty 0, 300, .inl c1)), (x23, .inl (ty 0, 300, .inl c2)), (x24, .inl (ty 0, 300, .inl c3)), (x25, .inl (ty 0, 300, .inl c4)), (x35, .inl (ty 0, 300, .inl e1)), (x36, .inl (ty 0, 6, .inl obi)), (x37, .inl (ty 0, 6, .inl sc)), (x38, .inl (ty 0, 26, .inl e2))] ++ pw ty pp), rfl, ⟨(by rw [hM]), (by rw [hM]; exact hb01), (by rw [hM])⟩, wq_B.of ht hP hD⟩, hS.F ht⟩) hS.2.2 hd
  have hT := hTT
  rw [m_k_X9_hasSmaller] at hT
  refine lv_aload_n hx hb dX9_hasSmaller_0 rfl (lv_at hl 0 rfl) ?_
  refine lv_iload_n hx hb dX9_hasSmaller_1 rfl (lv_at hl 1 rfl) ?_
  obtain ⟨t_2, ht_2⟩ : ∃ t, t = m_k_X9_listActive pp rn rf cg cn c1 c2 c3 c4 ac obi sc a1 := ⟨_, rfl⟩
  rw [lE_eq ht_2] at hT
  refine wq_vP (wc := [(x1, .inr (8, [.ref x2, .int pn, .ref x3, .int rn, .ref x4, .ref x5, .int tn, .ref x6, .ref x7, .int en])), (x3, .inl (ty 4, 20, .inr (.inr (.inr (.inr rf))))), (x20, .inr (11, [.ref x1, .ref x8, .ref x21, .ref x28, .ref x35, .int an, .ref x36, .ref x37, .ref x38, .int ch, .int cg, .int fb, .int mh, .int ml, .int ih, .int lb, .int ic])), (x21, .inr (9, [.ref x22, .ref x23, .ref x24, .ref x25, .ref x26, .ref x27, .int cn])), (x22, .inl (ty 0, 300, .inl c1)), (x23, .inl (ty 0, 300, .inl c2)), (x24, .inl (ty 0, 300, .inl c3)), (x25, .inl (ty 0, 300, .inl c4)), (x35, .inl (ty 0, 300, .inl ac)), (x36, .inl (ty 0, 6, .inl obi)), (x37, .inl (ty 0, 6, .inl sc))]) (wr := [(x38, .inl (ty 0, 26, .inl br))]) (pl := pw ty pp) (ux := [(x1, .inr (8, [.ref x2, .int pn, .ref x3, .int rn, .ref x4, .ref x5, .int tn, .ref x6, .ref x7, .int en])), (x3, .inl (ty 4, 20, .inr (.inr (.inr (.inr rf))))), (x20, .inr (11, [.ref x1, .ref x8, .ref x21, .ref x28, .ref x35, .int t_2.1, .ref x36, .ref x37, .ref x38, .int ch, .int cg, .int fb, .int mh, .int ml, .int ih, .int lb, .int ic])), (x21, .inr (9, [.ref x22, .ref x23, .ref x24, .ref x25, .ref x26, .ref x27, .int cn])), (x22, .inl (ty 0, 300, .inl c1)), (x23, .inl (ty 0, 300, .inl c2)), (x24, .inl (ty 0, 300, .inl c3)), (x25, .inl (ty 0, 300, .inl c4)), (x35, .inl (ty 0, 300, .inl t_2.2)), (x36, .inl (ty 0, 6, .inl obi)), (x37, .inl (ty 0, 6, .inl sc))]) (va_runV (As := [.int a1]) (rest := []) ⟨hx, hb, hml, hown, hts⟩ (k_X9_listActive l D ty td mi s.heap.size pp x1 x2 pn x3 rn x4 x5 tn x6 x7 en rf x20 x8 x21 x28 x35 an x36 x37 x38 ch cg fb mh ml ih lb ic x22 x23 x24 x25 x26 x27 cn c1 c2 c3 c4 ac obi sc a1 hok hru t_2 ht_2) (cwV 1 hts gv_k_X9_hasSmaller_0 rfl rfl rfl (by decide +kernel) ⟨(Nat.le_of_ble_eq_true rfl), (Nat.le_of_ble_eq_true rfl)⟩) ⟨(wq_preSP hP hD hK hE hS hA [0, 1, 2, 3, 4, 5, 6, 7, 8, 9, 10] rfl (by decide) (As := .ref x20 :: [.int a1])).1, va_recv (q0 := 2) (ci := 11) hK hP rfl rfl, (wq_preSP hP hD hK hE hS hA [0, 1, 2, 3, 4, 5, 6, 7, 8, 9, 10] rfl (by decide) (As := .ref x20 :: [.int a1])).2⟩ rfl rfl hl.1 rfl (lv_room (Nat.le_of_ble_eq_true rfl)) dX9_hasSmaller_2 ⟨(Nat.le_of_ble_eq_true rfl), (Nat.le_of_ble_eq_true rfl)⟩) hS hA hP hD [0, 1, 2, 3, 4, 5, 6, 7, 8, 9, 10] [11] rfl rfl (by decide) (by decide) (fun _ h => h) (fun  H locs hw hP hD hS => ?_)
  have hP : va_P D vwCl ([(x38, .inl (ty 0, 26, .inl br)), (x1, .inr (8, [.ref x2, .int pn, .ref x3, .int rn, .ref x4, .ref x5, .int tn, .ref x6, .ref x7, .int en])), (x3, .inl (ty 4, 20, .inr (.inr (.inr (.inr rf))))), (x20, .inr (11, [.ref x1, .ref x8, .ref x21, .ref x28, .ref x35, .int t_2.1, .ref x36, .ref x37, .ref x38, .int ch, .int cg, .int fb, .int mh, .int ml, .int ih, .int lb, .int ic])), (x21, .inr (9, [.ref x22, .ref x23, .ref x24, .ref x25, .ref x26, .ref x27, .int cn])), (x22, .inl (ty 0, 300, .inl c1)), (x23, .inl (ty 0, 300, .inl c2)), (x24, .inl (ty 0, 300, .inl c3)), (x25, .inl (ty 0, 300, .inl c4)), (x35, .inl (ty 0, 300, .inl t_2.2)), (x36, .inl (ty 0, 6, .inl obi)), (x37, .inl (ty 0, 6, .inl sc))] ++ pw ty pp) H := hP
  have hD : va_D A ([(x38, .inl (ty 0, 26, .inl br)), (x1, .inr (8, [.ref x2, .int pn, .ref x3, .int rn, .ref x4, .ref x5, .int tn, .ref x6, .ref x7, .int en])), (x3, .inl (ty 4, 20, .inr (.inr (.inr (.inr rf))))), (x20, .inr (11, [.ref x1, .ref x8, .ref x21, .ref x28, .ref x35, .int t_2.1, .ref x36, .ref x37, .ref x38, .int ch, .int cg, .int fb, .int mh, .int ml, .int ih, .int lb, .int ic])), (x21, .inr (9, [.ref x22, .ref x23, .ref x24, .ref x25, .ref x26, .ref x27, .int cn])), (x22, .inl (ty 0, 300, .inl c1)), (x23, .inl (ty 0, 300, .inl c2)), (x24, .inl (ty 0, 300, .inl c3)), (x25, .inl (ty 0, 300, .inl c4)), (x35, .inl (ty 0, 300, .inl t_2.2)), (x36, .inl (ty 0, 6, .inl obi)), (x37, .inl (ty 0, 6, .inl sc))] ++ pw ty pp) := hD
  refine W.widen (k := 0) (n := 0) (Nat.le_of_ble_eq_true rfl) (Nat.le_of_ble_eq_true rfl) ?_
  refine lv_aload_n hx hb dX9_hasSmaller_5 rfl (lv_at hl 0 rfl) ?_
  refine va_get (D := D) (ci := 11) (v := .ref x38) (C := RX9) (T := TX9) (N := 17) hx hb hts iv_k_X9_hasSmaller_X9 hown hK hP 3 rfl rfl 8 (by decide) (hts (.fieldLink RX9 31 "AnswerFold$Solver" "branches" "[I") (by decide +kernel)) (fun _ h9 => h9) rfl dX9_hasSmaller_6 ?_
  refine lv_iconst (v := 0) hx hb dX9_hasSmaller_9 (by decide) ?_
  refine lv_iload_n hx hb dX9_hasSmaller_10 rfl (lv_at hl 1 rfl) ?_
  refine lv_aload_n hx hb dX9_hasSmaller_11 rfl (lv_at hl 0 rfl) ?_
  refine va_get (D := D) (ci := 11) (v := .int fb) (C := RX9) (T := TX9) (N := 17) hx hb hts iv_k_X9_hasSmaller_X9 hown hK hP 3 rfl rfl 11 (by decide) (hts (.fieldLink RX9 75 "AnswerFold$Solver" "freeBits" "I") (by decide +kernel)) (fun _ h9 => h9) rfl dX9_hasSmaller_12 ?_
  refine lv_iand hx hb dX9_hasSmaller_15 ?_
  refine va_iast (D := D) hx hb hK hP hD hS 0 0 rfl rfl (vp_in_iff.mpr (by decide)) dX9_hasSmaller_16 (fun H locs hP hD hS => ?_)
  have hP : va_P D vwCl ([(x38, .inl (ty 0, 26, .inl (upd br ((0 : Int32).toNatClampNeg) (a1 &&& fb)))), (x1, .inr (8, [.ref x2, .int pn, .ref x3, .int rn, .ref x4, .ref x5, .int tn, .ref x6, .ref x7, .int en])), (x3, .inl (ty 4, 20, .inr (.inr (.inr (.inr rf))))), (x20, .inr (11, [.ref x1, .ref x8, .ref x21, .ref x28, .ref x35, .int t_2.1, .ref x36, .ref x37, .ref x38, .int ch, .int cg, .int fb, .int mh, .int ml, .int ih, .int lb, .int ic])), (x21, .inr (9, [.ref x22, .ref x23, .ref x24, .ref x25, .ref x26, .ref x27, .int cn])), (x22, .inl (ty 0, 300, .inl c1)), (x23, .inl (ty 0, 300, .inl c2)), (x24, .inl (ty 0, 300, .inl c3)), (x25, .inl (ty 0, 300, .inl c4)), (x35, .inl (ty 0, 300, .inl t_2.2)), (x36, .inl (ty 0, 6, .inl obi)), (x37, .inl (ty 0, 6, .inl sc))] ++ pw ty pp) H := hP
  have hD : va_D A ([(x38, .inl (ty 0, 26, .inl (upd br ((0 : Int32).toNatClampNeg) (a1 &&& fb)))), (x1, .inr (8, [.ref x2, .int pn, .ref x3, .int rn, .ref x4, .ref x5, .int tn, .ref x6, .ref x7, .int en])), (x3, .inl (ty 4, 20, .inr (.inr (.inr (.inr rf))))), (x20, .inr (11, [.ref x1, .ref x8, .ref x21, .ref x28, .ref x35, .int t_2.1, .ref x36, .ref x37, .ref x38, .int ch, .int cg, .int fb, .int mh, .int ml, .int ih, .int lb, .int ic])), (x21, .inr (9, [.ref x22, .ref x23, .ref x24, .ref x25, .ref x26, .ref x27, .int cn])), (x22, .inl (ty 0, 300, .inl c1)), (x23, .inl (ty 0, 300, .inl c2)), (x24, .inl (ty 0, 300, .inl c3)), (x25, .inl (ty 0, 300, .inl c4)), (x35, .inl (ty 0, 300, .inl t_2.2)), (x36, .inl (ty 0, 6, .inl obi)), (x37, .inl (ty 0, 6, .inl sc))] ++ pw ty pp) := hD
  refine lv_iconst (v := 1) hx hb dX9_hasSmaller_17 (by decide) ?_
  refine lv_istore_n (lv' := [(2, .int 1), (0, .ref x20), (1, .int a1)]) hx hb dX9_hasSmaller_18 rfl hl (by decide) rfl (fun ls hl => ?_)
  refine lv_iconst (v := 0) hx hb dX9_hasSmaller_19 (by decide) ?_
  refine lv_istore_n (lv' := [(3, .int 0), (2, .int 1), (0, .ref x20), (1, .int a1)]) hx hb dX9_hasSmaller_20 rfl hl (by decide) rfl (fun ls hl => ?_)
  have L_21 : ∀ (n_21 : Nat) (v2_21 : Int32) (v3_21 : Int32) (x38_f_21 : Nat → Int32), (2147483648 - v3_21.toInt).toNat < n_21 → TT = m_k_X9_hasSmaller_21 pp rn rf ch cg c1 c2 c3 c4 obi sc a1 t_2 n_21 v2_21 v3_21 x38_f_21 → 0 ≤ v3_21.toInt → ∀ (H : Heap) (locs : List Loc), va_P D vwCl ([(x1, .inr (8, [.ref x2, .int pn, .ref x3, .int rn, .ref x4, .ref x5, .int tn, .ref x6, .ref x7, .int en])), (x3, .inl (ty 4, 20, .inr (.inr (.inr (.inr rf))))), (x20, .inr (11, [.ref x1, .ref x8, .ref x21, .ref x28, .ref x35, .int t_2.1, .ref x36, .ref x37, .ref x38, .int ch, .int cg, .int fb, .int mh, .int ml, .int ih, .int lb, .int ic])), (x21, .inr (9, [.ref x22, .ref x23, .ref x24, .ref x25, .ref x26, .ref x27, .int cn])), (x22, .inl (ty 0, 300, .inl c1)), (x23, .inl (ty 0, 300, .inl c2)), (x24, .inl (ty 0, 300, .inl c3)), (x25, .inl (ty 0, 300, .inl c4)), (x35, .inl (ty 0, 300, .inl t_2.2)), (x36, .inl (ty 0, 6, .inl obi)), (x37, .inl (ty 0, 6, .inl sc)), (x38, .inl (ty 0, 26, .inl x38_f_21))] ++ pw ty pp) H → va_D A ([(x1, .inr (8, [.ref x2, .int pn, .ref x3, .int rn, .ref x4, .ref x5, .int tn, .ref x6, .ref x7, .int en])), (x3, .inl (ty 4, 20, .inr (.inr (.inr (.inr rf))))), (x20, .inr (11, [.ref x1, .ref x8, .ref x21, .ref x28, .ref x35, .int t_2.1, .ref x36, .ref x37, .ref x38, .int ch, .int cg, .int fb, .int mh, .int ml, .int ih, .int lb, .int ic])), (x21, .inr (9, [.ref x22, .ref x23, .ref x24, .ref x25, .ref x26, .ref x27, .int cn])), (x22, .inl (ty 0, 300, .inl c1)), (x23, .inl (ty 0, 300, .inl c2)), (x24, .inl (ty 0, 300, .inl c3)), (x25, .inl (ty 0, 300, .inl c4)), (x35, .inl (ty 0, 300, .inl t_2.2)), (x36, .inl (ty 0, 6, .inl obi)), (x37, .inl (ty 0, 6, .inl sc)), (x38, .inl (ty 0, 26, .inl x38_f_21))] ++ pw ty pp) → va_S A s.heap H locs → ∀ ls : Array Slot, lv_has ls 7 [(0, .ref x20), (1, .int a1), (2, .int v2_21), (3, .int v3_21)] → W p l e (headSpec vs_k_X9_hasSmaller { frames := 5, cells := 0, slots := 0, locals := 122 }).room s m ([.ref x20, .int a1] : List Value).toArray below meth c H locs 0 0 (MQ below (va_Qi (fun (r : Int32) (u : va_W) => (r = TT.1 ∧ (TT.1 = 0 ∨ TT.1 = 1) ∧ (u = ([(x1, .inr (8, [.ref x2, .int pn, .ref x3, .int rn, .ref x4, .ref x5, .int tn, .ref x6, .ref x7, .int en])), (x3, .inl (ty 4, 20, .inr (.inr (.inr (.inr rf))))), (x20, .inr (11, [.ref x1, .ref x8, .ref x21, .ref x28, .ref x35, .int TT.2.1, .ref x36, .ref x37, .ref x38, .int ch, .int cg, .int fb, .int mh, .int ml, .int ih, .int lb, .int ic])), (x21, .inr (9, [.ref x22, .ref x23, .ref x24, .ref x25, .ref x26, .ref x27, .int cn])), (x22, .inl (ty 0, 300, .inl c1)), (x23, .inl (ty 0, 300, .inl c2)), (x24, .inl (ty 0, 300, .inl c3)), (x25, .inl (ty 0, 300, .inl c4)), (x35, .inl (ty 0, 300, .inl TT.2.2.1)), (x36, .inl (ty 0, 6, .inl obi)), (x37, .inl (ty 0, 6, .inl sc)), (x38, .inl (ty 0, 26, .inl TT.2.2.2))] ++ pw ty pp)))) (wq_B D A) A) ([.ref x20, .int a1] : List Value).toArray s 0 0 A) (F0 m 21 ls []) := by
    intro n_21
    induction n_21 with
    | zero => intro v2_21 v3_21 x38_f_21 hu; exact absurd hu (Nat.not_lt_zero _)
    | succ n_21 ih_21 =>
      intro v2_21 v3_21 x38_f_21 hu_21 hT hn_21 H locs hP hD hS ls hl
      rw [m_k_X9_hasSmaller_21_succ, m_k_X9_hasSmaller_21s] at hT
      refine lv_iload_n hx hb dX9_hasSmaller_21 rfl (lv_at hl 2 rfl) ?_
      refine lv_if_le (tgt := 136) hx hb dX9_hasSmaller_22 (by decide) (fun c_3 => ?_) (fun c_3 => ?_)
      · rw [if_pos c_3] at hT
        refine lv_iconst (v := 0) hx hb dX9_hasSmaller_136 (by decide) ?_
        exact END 0 t_2.1 t_2.2 x38_f_21 hT (by decide) _ _ hP hD hS _ _ dX9_hasSmaller_137
      · rw [if_neg c_3] at hT
        refine lv_iload_n hx hb dX9_hasSmaller_25 rfl (lv_at hl 2 rfl) ?_
        refine lv_aload_n hx hb dX9_hasSmaller_26 rfl (lv_at hl 0 rfl) ?_
        refine va_get (D := D) (ci := 11) (v := .ref x38) (C := RX9) (T := TX9) (N := 17) hx hb hts iv_k_X9_hasSmaller_X9 hown hK hP 2 rfl rfl 8 (by decide) (hts (.fieldLink RX9 31 "AnswerFold$Solver" "branches" "[I") (by decide +kernel)) (fun _ h9 => h9) rfl dX9_hasSmaller_27 ?_
        refine va_alen (D := D) (v := 26) hx hb hK hP 11 0 rfl rfl (by first | decide | rfl) dX9_hasSmaller_30 ?_
        refine lv_icmp_ge (tgt := 136) hx hb dX9_hasSmaller_31 (by decide) (fun c_4 => ?_) (fun c_4 => ?_)
        · rw [if_pos c_4] at hT
          refine lv_iconst (v := 0) hx hb dX9_hasSmaller_136 (by decide) ?_
          exact END 0 t_2.1 t_2.2 x38_f_21 hT (by decide) _ _ hP hD hS _ _ dX9_hasSmaller_137
        · rw [if_neg c_4] at hT
          refine lv_iload_n hx hb dX9_hasSmaller_34 rfl (lv_at hl 3 rfl) ?_
          refine lv_ldcw (v := 1000000) hx hb hown (hts (.constant RX9 269 1000000) (by decide +kernel)) dX9_hasSmaller_35 ?_
          refine lv_icmp_ge (tgt := 136) hx hb dX9_hasSmaller_38 (by decide) (fun c_5 => ?_) (fun c_5 => ?_)
          · rw [if_pos c_5] at hT
            refine lv_iconst (v := 0) hx hb dX9_hasSmaller_136 (by decide) ?_
            exact END 0 t_2.1 t_2.2 x38_f_21 hT (by decide) _ _ hP hD hS _ _ dX9_hasSmaller_137
          · rw [if_neg c_5] at hT
            refine lv_iinc (v := v2_21 + (-1)) (lv' := [(2, .int (v2_21 + (-1))), (0, .ref x20), (1, .int a1), (3, .int v3_21)]) hx hb dX9_hasSmaller_41 hl (k := 2) rfl (by rfl) (by decide) rfl (fun ls hl => ?_)
            refine lv_aload_n hx hb dX9_hasSmaller_44 rfl (lv_at hl 1 rfl) ?_
            refine lv_aload_n hx hb dX9_hasSmaller_45 rfl (lv_at hl 1 rfl) ?_
            refine va_get (D := D) (ci := 11) (v := .ref x38) (C := RX9) (T := TX9) (N := 17) hx hb hts iv_k_X9_hasSmaller_X9 hown hK hP 2 rfl rfl 8 (by decide) (hts (.fieldLink RX9 31 "AnswerFold$Solver" "branches" "[I") (by decide +kernel)) (fun _ h9 => h9) rfl dX9_hasSmaller_46 ?_
            refine lv_iload_n hx hb dX9_hasSmaller_49 rfl (lv_at hl 0 rfl) ?_
            refine va_iald (D := D) hx hb hK hP 11 0 rfl rfl (om_k_X9_hasSmaller_0 v2_21 v3_21 hn_21 c_3 c_4 c_5) dX9_hasSmaller_50 ?_
            refine lv_iload_n hx hb dX9_hasSmaller_51 rfl (lv_at hl 2 rfl) ?_
            obtain ⟨t_52, ht_52⟩ : ∃ t, t = m_k_X9_grow pp rn rf t_2.1 ch cg c1 c2 c3 c4 t_2.2 obi sc (x38_f_21 (v2_21 + (-1)).toNatClampNeg) a1 := ⟨_, rfl⟩
            rw [lE_eq ht_52] at hT
            refine wq_iP (wc := [(x1, .inr (8, [.ref x2, .int pn, .ref x3, .int rn, .ref x4, .ref x5, .int tn, .ref x6, .ref x7, .int en])), (x3, .inl (ty 4, 20, .inr (.inr (.inr (.inr rf))))), (x20, .inr (11, [.ref x1, .ref x8, .ref x21, .ref x28, .ref x35, .int t_2.1, .ref x36, .ref x37, .ref x38, .int ch, .int cg, .int fb, .int mh, .int ml, .int ih, .int lb, .int ic])), (x21, .inr (9, [.ref x22, .ref x23, .ref x24, .ref x25, .ref x26, .ref x27, .int cn])), (x22, .inl (ty 0, 300, .inl c1)), (x23, .inl (ty 0, 300, .inl c2)), (x24, .inl (ty 0, 300, .inl c3)), (x25, .inl (ty 0, 300, .inl c4)), (x35, .inl (ty 0, 300, .inl t_2.2)), (x36, .inl (ty 0, 6, .inl obi)), (x37, .inl (ty 0, 6, .inl sc))]) (wr := [(x38, .inl (ty 0, 26, .inl x38_f_21))]) (pl := pw ty pp) (ux := [(x1, .inr (8, [.ref x2, .int pn, .ref x3, .int rn, .ref x4, .ref x5, .int tn, .ref x6, .ref x7, .int en])), (x3, .inl (ty 4, 20, .inr (.inr (.inr (.inr rf))))), (x20, .inr (11, [.ref x1, .ref x8, .ref x21, .ref x28, .ref x35, .int t_2.1, .ref x36, .ref x37, .ref x38, .int ch, .int cg, .int fb, .int mh, .int ml, .int ih, .int lb, .int ic])), (x21, .inr (9, [.ref x22, .ref x23, .ref x24, .ref x25, .ref x26, .ref x27, .int cn])), (x22, .inl (ty 0, 300, .inl c1)), (x23, .inl (ty 0, 300, .inl c2)), (x24, .inl (ty 0, 300, .inl c3)), (x25, .inl (ty 0, 300, .inl c4)), (x35, .inl (ty 0, 300, .inl t_2.2)), (x36, .inl (ty 0, 6, .inl obi)), (x37, .inl (ty 0, 6, .inl sc))]) (va_runV (As := [.int (x38_f_21 (v2_21 + (-1)).toNatClampNeg), .int a1]) (rest := []) ⟨hx, hb, hml, hown, hts⟩ (k_X9_grow l D ty td mi H.size pp x1 x2 pn x3 rn x4 x5 tn x6 x7 en rf x20 x8 x21 x28 x35 t_2.1 x36 x37 x38 ch cg fb mh ml ih lb ic x22 x23 x24 x25 x26 x27 cn c1 c2 c3 c4 t_2.2 obi sc (x38_f_21 (v2_21 + (-1)).toNatClampNeg) a1 hok hru t_52 ht_52) (cwV 2 hts gv_k_X9_hasSmaller_1 rfl rfl rfl (by decide +kernel) ⟨(Nat.le_of_ble_eq_true rfl), (Nat.le_of_ble_eq_true rfl)⟩) ⟨(wq_preSP hP hD hK hE hS hA [0, 1, 2, 3, 4, 5, 6, 7, 8, 9, 10] rfl (by decide) (As := .ref x20 :: [.int (x38_f_21 (v2_21 + (-1)).toNatClampNeg), .int a1])).1, va_recv (q0 := 2) (ci := 11) hK hP rfl rfl, (wq_preSP hP hD hK hE hS hA [0, 1, 2, 3, 4, 5, 6, 7, 8, 9, 10] rfl (by decide) (As := .ref x20 :: [.int (x38_f_21 (v2_21 + (-1)).toNatClampNeg), .int a1])).2⟩ rfl rfl hl.1 rfl (lv_room (Nat.le_of_ble_eq_true rfl)) dX9_hasSmaller_52 ⟨(Nat.le_of_ble_eq_true rfl), (Nat.le_of_ble_eq_true rfl)⟩) hS hA hP hD [0, 1, 2, 3, 4, 5, 6, 7, 8, 9, 10] [11] rfl rfl (by decide) (by decide) (fun _ _ h => h.2) (fun r H locs hw hP hD hS => ?_)
            obtain ⟨hr0, -⟩ := hw
            subst r
            have hP : va_P D vwCl ([(x38, .inl (ty 0, 26, .inl x38_f_21)), (x1, .inr (8, [.ref x2, .int pn, .ref x3, .int rn, .ref x4, .ref x5, .int tn, .ref x6, .ref x7, .int en])), (x3, .inl (ty 4, 20, .inr (.inr (.inr (.inr rf))))), (x20, .inr (11, [.ref x1, .ref x8, .ref x21, .ref x28, .ref x35, .int t_2.1, .ref x36, .ref x37, .ref x38, .int ch, .int cg, .int fb, .int mh, .int ml, .int ih, .int lb, .int ic])), (x21, .inr (9, [.ref x22, .ref x23, .ref x24, .ref x25, .ref x26, .ref x27, .int cn])), (x22, .inl (ty 0, 300, .inl c1)), (x23, .inl (ty 0, 300, .inl c2)), (x24, .inl (ty 0, 300, .inl c3)), (x25, .inl (ty 0, 300, .inl c4)), (x35, .inl (ty 0, 300, .inl t_2.2)), (x36, .inl (ty 0, 6, .inl obi)), (x37, .inl (ty 0, 6, .inl sc))] ++ pw ty pp) H := hP
            have hD : va_D A ([(x38, .inl (ty 0, 26, .inl x38_f_21)), (x1, .inr (8, [.ref x2, .int pn, .ref x3, .int rn, .ref x4, .ref x5, .int tn, .ref x6, .ref x7, .int en])), (x3, .inl (ty 4, 20, .inr (.inr (.inr (.inr rf))))), (x20, .inr (11, [.ref x1, .ref x8, .ref x21, .ref x28, .ref x35, .int t_2.1, .ref x36, .ref x37, .ref x38, .int ch, .int cg, .int fb, .int mh, .int ml, .int ih, .int lb, .int ic])), (x21, .inr (9, [.ref x22, .ref x23, .ref x24, .ref x25, .ref x26, .ref x27, .int cn])), (x22, .inl (ty 0, 300, .inl c1)), (x23, .inl (ty 0, 300, .inl c2)), (x24, .inl (ty 0, 300, .inl c3)), (x25, .inl (ty 0, 300, .inl c4)), (x35, .inl (ty 0, 300, .inl t_2.2)), (x36, .inl (ty 0, 6, .inl obi)), (x37, .inl (ty 0, 6, .inl sc))] ++ pw ty pp) := hD
            refine W.widen (k := 0) (n := 0) (Nat.le_of_ble_eq_true rfl) (Nat.le_of_ble_eq_true rfl) ?_
            refine lv_istore (lv' := [(4, .int t_52), (2, .int (v2_21 + (-1))), (0, .ref x20), (1, .int a1), (3, .int v3_21)]) hx hb dX9_hasSmaller_55 hl (by decide) rfl (fun ls hl => ?_)
            refine lv_aload_n hx hb dX9_hasSmaller_57 rfl (lv_at hl 2 rfl) ?_
            refine lv_iload hx hb dX9_hasSmaller_58 (lv_at hl 0 rfl) ?_
            refine lv_iload_n hx hb dX9_hasSmaller_60 rfl (lv_at hl 3 rfl) ?_
            obtain ⟨t_61, ht_61⟩ : ∃ t, t = m_k_X9_headsToSplit pp rn rf t_2.1 ch cg c1 c2 c3 c4 t_2.2 obi sc t_52 a1 := ⟨_, rfl⟩
            rw [lE_eq ht_61] at hT
            refine wq_iP (wc := [(x1, .inr (8, [.ref x2, .int pn, .ref x3, .int rn, .ref x4, .ref x5, .int tn, .ref x6, .ref x7, .int en])), (x3, .inl (ty 4, 20, .inr (.inr (.inr (.inr rf))))), (x20, .inr (11, [.ref x1, .ref x8, .ref x21, .ref x28, .ref x35, .int t_2.1, .ref x36, .ref x37, .ref x38, .int ch, .int cg, .int fb, .int mh, .int ml, .int ih, .int lb, .int ic])), (x21, .inr (9, [.ref x22, .ref x23, .ref x24, .ref x25, .ref x26, .ref x27, .int cn])), (x22, .inl (ty 0, 300, .inl c1)), (x23, .inl (ty 0, 300, .inl c2)), (x24, .inl (ty 0, 300, .inl c3)), (x25, .inl (ty 0, 300, .inl c4)), (x35, .inl (ty 0, 300, .inl t_2.2)), (x36, .inl (ty 0, 6, .inl obi)), (x37, .inl (ty 0, 6, .inl sc))]) (wr := [(x38, .inl (ty 0, 26, .inl x38_f_21))]) (pl := pw ty pp) (ux := [(x1, .inr (8, [.ref x2, .int pn, .ref x3, .int rn, .ref x4, .ref x5, .int tn, .ref x6, .ref x7, .int en])), (x3, .inl (ty 4, 20, .inr (.inr (.inr (.inr rf))))), (x20, .inr (11, [.ref x1, .ref x8, .ref x21, .ref x28, .ref x35, .int t_2.1, .ref x36, .ref x37, .ref x38, .int ch, .int cg, .int fb, .int mh, .int ml, .int ih, .int lb, .int ic])), (x21, .inr (9, [.ref x22, .ref x23, .ref x24, .ref x25, .ref x26, .ref x27, .int cn])), (x22, .inl (ty 0, 300, .inl c1)), (x23, .inl (ty 0, 300, .inl c2)), (x24, .inl (ty 0, 300, .inl c3)), (x25, .inl (ty 0, 300, .inl c4)), (x35, .inl (ty 0, 300, .inl t_2.2)), (x36, .inl (ty 0, 6, .inl obi)), (x37, .inl (ty 0, 6, .inl sc))]) (va_runV (As := [.int t_52, .int a1]) (rest := []) ⟨hx, hb, hml, hown, hts⟩ (k_X9_headsToSplit l D ty td mi H.size pp x1 x2 pn x3 rn x4 x5 tn x6 x7 en rf x20 x8 x21 x28 x35 t_2.1 x36 x37 x38 ch cg fb mh ml ih lb ic x22 x23 x24 x25 x26 x27 cn c1 c2 c3 c4 t_2.2 obi sc t_52 a1 hok hru t_61 ht_61) (cwV 2 hts gv_k_X9_hasSmaller_2 rfl rfl rfl (by decide +kernel) ⟨(Nat.le_of_ble_eq_true rfl), (Nat.le_of_ble_eq_true rfl)⟩) ⟨(wq_preSP hP hD hK hE hS hA [1, 2, 3, 4, 5, 6, 7, 8, 9, 10, 11] rfl (by decide) (As := .ref x20 :: [.int t_52, .int a1])).1, va_recv (q0 := 3) (ci := 11) hK hP rfl rfl, (wq_preSP hP hD hK hE hS hA [1, 2, 3, 4, 5, 6, 7, 8, 9, 10, 11] rfl (by decide) (As := .ref x20 :: [.int t_52, .int a1])).2⟩ rfl rfl hl.1 rfl (lv_room (Nat.le_of_ble_eq_true rfl)) dX9_hasSmaller_61 ⟨(Nat.le_of_ble_eq_true rfl), (Nat.le_of_ble_eq_true rfl)⟩) hS hA hP hD [1, 2, 3, 4, 5, 6, 7, 8, 9, 10, 11] [0] rfl rfl (by decide) (by decide) (fun _ _ h => h.2) (fun r H locs hw hP hD hS => ?_)
            obtain ⟨hr0, -⟩ := hw
            subst r
            have hP : va_P D vwCl ([(x38, .inl (ty 0, 26, .inl x38_f_21)), (x1, .inr (8, [.ref x2, .int pn, .ref x3, .int rn, .ref x4, .ref x5, .int tn, .ref x6, .ref x7, .int en])), (x3, .inl (ty 4, 20, .inr (.inr (.inr (.inr rf))))), (x20, .inr (11, [.ref x1, .ref x8, .ref x21, .ref x28, .ref x35, .int t_2.1, .ref x36, .ref x37, .ref x38, .int ch, .int cg, .int fb, .int mh, .int ml, .int ih, .int lb, .int ic])), (x21, .inr (9, [.ref x22, .ref x23, .ref x24, .ref x25, .ref x26, .ref x27, .int cn])), (x22, .inl (ty 0, 300, .inl c1)), (x23, .inl (ty 0, 300, .inl c2)), (x24, .inl (ty 0, 300, .inl c3)), (x25, .inl (ty 0, 300, .inl c4)), (x35, .inl (ty 0, 300, .inl t_2.2)), (x36, .inl (ty 0, 6, .inl obi)), (x37, .inl (ty 0, 6, .inl sc))] ++ pw ty pp) H := hP
            have hD : va_D A ([(x38, .inl (ty 0, 26, .inl x38_f_21)), (x1, .inr (8, [.ref x2, .int pn, .ref x3, .int rn, .ref x4, .ref x5, .int tn, .ref x6, .ref x7, .int en])), (x3, .inl (ty 4, 20, .inr (.inr (.inr (.inr rf))))), (x20, .inr (11, [.ref x1, .ref x8, .ref x21, .ref x28, .ref x35, .int t_2.1, .ref x36, .ref x37, .ref x38, .int ch, .int cg, .int fb, .int mh, .int ml, .int ih, .int lb, .int ic])), (x21, .inr (9, [.ref x22, .ref x23, .ref x24, .ref x25, .ref x26, .ref x27, .int cn])), (x22, .inl (ty 0, 300, .inl c1)), (x23, .inl (ty 0, 300, .inl c2)), (x24, .inl (ty 0, 300, .inl c3)), (x25, .inl (ty 0, 300, .inl c4)), (x35, .inl (ty 0, 300, .inl t_2.2)), (x36, .inl (ty 0, 6, .inl obi)), (x37, .inl (ty 0, 6, .inl sc))] ++ pw ty pp) := hD
            refine W.widen (k := 0) (n := 0) (Nat.le_of_ble_eq_true rfl) (Nat.le_of_ble_eq_true rfl) ?_
            refine lv_istore (lv' := [(5, .int t_61), (4, .int t_52), (2, .int (v2_21 + (-1))), (0, .ref x20), (1, .int a1), (3, .int v3_21)]) hx hb dX9_hasSmaller_64 hl (by decide) rfl (fun ls hl => ?_)
            refine lv_iload hx hb dX9_hasSmaller_66 (lv_at hl 0 rfl) ?_
            have J_130 : ∀ (v2_130 : Int32) (x38_f_130 : Nat → Int32), TT = m_k_X9_hasSmaller_130 (m_k_X9_hasSmaller_21 pp rn rf ch cg c1 c2 c3 c4 obi sc a1 t_2 n_21) v3_21 v2_130 x38_f_130 → ∀ (H : Heap) (locs : List Loc), va_P D vwCl ([(x1, .inr (8, [.ref x2, .int pn, .ref x3, .int rn, .ref x4, .ref x5, .int tn, .ref x6, .ref x7, .int en])), (x3, .inl (ty 4, 20, .inr (.inr (.inr (.inr rf))))), (x20, .inr (11, [.ref x1, .ref x8, .ref x21, .ref x28, .ref x35, .int t_2.1, .ref x36, .ref x37, .ref x38, .int ch, .int cg, .int fb, .int mh, .int ml, .int ih, .int lb, .int ic])), (x21, .inr (9, [.ref x22, .ref x23, .ref x24, .ref x25, .ref x26, .ref x27, .int cn])), (x22, .inl (ty 0, 300, .inl c1)), (x23, .inl (ty 0, 300, .inl c2)), (x24, .inl (ty 0, 300, .inl c3)), (x25, .inl (ty 0, 300, .inl c4)), (x35, .inl (ty 0, 300, .inl t_2.2)), (x36, .inl (ty 0, 6, .inl obi)), (x37, .inl (ty 0, 6, .inl sc)), (x38, .inl (ty 0, 26, .inl x38_f_130))] ++ pw ty pp) H → va_D A ([(x1, .inr (8, [.ref x2, .int pn, .ref x3, .int rn, .ref x4, .ref x5, .int tn, .ref x6, .ref x7, .int en])), (x3, .inl (ty 4, 20, .inr (.inr (.inr (.inr rf))))), (x20, .inr (11, [.ref x1, .ref x8, .ref x21, .ref x28, .ref x35, .int t_2.1, .ref x36, .ref x37, .ref x38, .int ch, .int cg, .int fb, .int mh, .int ml, .int ih, .int lb, .int ic])), (x21, .inr (9, [.ref x22, .ref x23, .ref x24, .ref x25, .ref x26, .ref x27, .int cn])), (x22, .inl (ty 0, 300, .inl c1)), (x23, .inl (ty 0, 300, .inl c2)), (x24, .inl (ty 0, 300, .inl c3)), (x25, .inl (ty 0, 300, .inl c4)), (x35, .inl (ty 0, 300, .inl t_2.2)), (x36, .inl (ty 0, 6, .inl obi)), (x37, .inl (ty 0, 6, .inl sc)), (x38, .inl (ty 0, 26, .inl x38_f_130))] ++ pw ty pp) → va_S A s.heap H locs → ∀ ls : Array Slot, lv_has ls 7 [(0, .ref x20), (1, .int a1), (2, .int v2_130), (3, .int v3_21)] → W p l e (headSpec vs_k_X9_hasSmaller { frames := 5, cells := 0, slots := 0, locals := 122 }).room s m ([.ref x20, .int a1] : List Value).toArray below meth c H locs 0 0 (MQ below (va_Qi (fun (r : Int32) (u : va_W) => (r = TT.1 ∧ (TT.1 = 0 ∨ TT.1 = 1) ∧ (u = ([(x1, .inr (8, [.ref x2, .int pn, .ref x3, .int rn, .ref x4, .ref x5, .int tn, .ref x6, .ref x7, .int en])), (x3, .inl (ty 4, 20, .inr (.inr (.inr (.inr rf))))), (x20, .inr (11, [.ref x1, .ref x8, .ref x21, .ref x28, .ref x35, .int TT.2.1, .ref x36, .ref x37, .ref x38, .int ch, .int cg, .int fb, .int mh, .int ml, .int ih, .int lb, .int ic])), (x21, .inr (9, [.ref x22, .ref x23, .ref x24, .ref x25, .ref x26, .ref x27, .int cn])), (x22, .inl (ty 0, 300, .inl c1)), (x23, .inl (ty 0, 300, .inl c2)), (x24, .inl (ty 0, 300, .inl c3)), (x25, .inl (ty 0, 300, .inl c4)), (x35, .inl (ty 0, 300, .inl TT.2.2.1)), (x36, .inl (ty 0, 6, .inl obi)), (x37, .inl (ty 0, 6, .inl sc)), (x38, .inl (ty 0, 26, .inl TT.2.2.2))] ++ pw ty pp)))) (wq_B D A) A) ([.ref x20, .int a1] : List Value).toArray s 0 0 A) (F0 m 130 ls []) := by
              intro v2_130 x38_f_130 hT  H locs hP hD hS ls hl
              rw [m_k_X9_hasSmaller_130] at hT
              refine lv_iinc (v := v3_21 + 1) (lv' := [(3, .int (v3_21 + 1)), (0, .ref x20), (1, .int a1), (2, .int v2_130)]) hx hb dX9_hasSmaller_130 hl (k := 3) rfl (by rfl) (by decide) rfl (fun ls hl => ?_)
              refine lv_goto (tgt := 21) hx hb dX9_hasSmaller_133 (by decide) ?_
              exact ih_21 v2_130 (v3_21 + 1) x38_f_130 (wi_up hu_21 (Int32.not_le.mp c_5)) hT (wi_inc hn_21 (Int32.not_le.mp c_5)) _ _ hP hD hS _ (lv_sub hl [1, 2, 3, 0] rfl)
            refine lv_if_ne (tgt := 79) hx hb dX9_hasSmaller_68 (by decide) (fun c_10 => ?_) (fun c_10 => ?_)
            · rw [if_neg c_10] at hT
              refine lv_iload_n hx hb dX9_hasSmaller_79 rfl (lv_at hl 2 rfl) ?_
              refine lv_iconst (v := 1) hx hb dX9_hasSmaller_80 (by decide) ?_
              refine lv_iadd hx hb dX9_hasSmaller_81 ?_
              refine lv_aload_n hx hb dX9_hasSmaller_82 rfl (lv_at hl 3 rfl) ?_
              refine va_get (D := D) (ci := 11) (v := .ref x38) (C := RX9) (T := TX9) (N := 17) hx hb hts iv_k_X9_hasSmaller_X9 hown hK hP 3 rfl rfl 8 (by decide) (hts (.fieldLink RX9 31 "AnswerFold$Solver" "branches" "[I") (by decide +kernel)) (fun _ h9 => h9) rfl dX9_hasSmaller_83 ?_
              refine va_alen (D := D) (v := 26) hx hb hK hP 0 0 rfl rfl (by first | decide | rfl) dX9_hasSmaller_86 ?_
              refine lv_icmp_ge (tgt := 130) hx hb dX9_hasSmaller_87 (by decide) (fun c_11 => ?_) (fun c_11 => ?_)
              · rw [if_pos c_11] at hT
                exact J_130 (v2_21 + (-1)) x38_f_21 hT _ _ (tP_sub hP [1, 2, 3, 4, 5, 6, 7, 8, 9, 10, 11, 0] rfl) (tD_sub hD [1, 2, 3, 4, 5, 6, 7, 8, 9, 10, 11, 0] (by decide) rfl) hS _ (lv_sub hl [3, 4, 2, 5] rfl)
              · rw [if_neg c_11] at hT
                refine lv_iload hx hb dX9_hasSmaller_90 (lv_at hl 0 rfl) ?_
                refine lv_iload hx hb dX9_hasSmaller_92 (lv_at hl 0 rfl) ?_
                refine lv_ineg hx hb dX9_hasSmaller_94 ?_
                refine lv_iand hx hb dX9_hasSmaller_95 ?_
                refine lv_istore (lv' := [(6, .int (t_61 &&& (-t_61))), (5, .int t_61), (4, .int t_52), (2, .int (v2_21 + (-1))), (0, .ref x20), (1, .int a1), (3, .int v3_21)]) hx hb dX9_hasSmaller_96 hl (by decide) rfl (fun ls hl => ?_)
                refine lv_aload_n hx hb dX9_hasSmaller_98 rfl (lv_at hl 4 rfl) ?_
                refine va_get (D := D) (ci := 11) (v := .ref x38) (C := RX9) (T := TX9) (N := 17) hx hb hts iv_k_X9_hasSmaller_X9 hown hK hP 3 rfl rfl 8 (by decide) (hts (.fieldLink RX9 31 "AnswerFold$Solver" "branches" "[I") (by decide +kernel)) (fun _ h9 => h9) rfl dX9_hasSmaller_99 ?_
                refine lv_iload_n hx hb dX9_hasSmaller_102 rfl (lv_at hl 3 rfl) ?_
                refine lv_iload hx hb dX9_hasSmaller_103 (lv_at hl 2 rfl) ?_
                refine lv_iload hx hb dX9_hasSmaller_105 (lv_at hl 0 rfl) ?_
                refine lv_ior hx hb dX9_hasSmaller_107 ?_
                refine va_iast (D := D) hx hb hK hP hD hS 0 0 rfl rfl (om_k_X9_hasSmaller_1 v2_21 v3_21 t_61 hn_21 c_3 c_4 c_5 c_10) dX9_hasSmaller_108 (fun H locs hP hD hS => ?_)
                have hP : va_P D vwCl ([(x38, .inl (ty 0, 26, .inl (upd x38_f_21 ((v2_21 + (-1)).toNatClampNeg) (t_52 ||| (t_61 &&& (-t_61)))))), (x1, .inr (8, [.ref x2, .int pn, .ref x3, .int rn, .ref x4, .ref x5, .int tn, .ref x6, .ref x7, .int en])), (x3, .inl (ty 4, 20, .inr (.inr (.inr (.inr rf))))), (x20, .inr (11, [.ref x1, .ref x8, .ref x21, .ref x28, .ref x35, .int t_2.1, .ref x36, .ref x37, .ref x38, .int ch, .int cg, .int fb, .int mh, .int ml, .int ih, .int lb, .int ic])), (x21, .inr (9, [.ref x22, .ref x23, .ref x24, .ref x25, .ref x26, .ref x27, .int cn])), (x22, .inl (ty 0, 300, .inl c1)), (x23, .inl (ty 0, 300, .inl c2)), (x24, .inl (ty 0, 300, .inl c3)), (x25, .inl (ty 0, 300, .inl c4)), (x35, .inl (ty 0, 300, .inl t_2.2)), (x36, .inl (ty 0, 6, .inl obi)), (x37, .inl (ty 0, 6, .inl sc))] ++ pw ty pp) H := hP
                have hD : va_D A ([(x38, .inl (ty 0, 26, .inl (upd x38_f_21 ((v2_21 + (-1)).toNatClampNeg) (t_52 ||| (t_61 &&& (-t_61)))))), (x1, .inr (8, [.ref x2, .int pn, .ref x3, .int rn, .ref x4, .ref x5, .int tn, .ref x6, .ref x7, .int en])), (x3, .inl (ty 4, 20, .inr (.inr (.inr (.inr rf))))), (x20, .inr (11, [.ref x1, .ref x8, .ref x21, .ref x28, .ref x35, .int t_2.1, .ref x36, .ref x37, .ref x38, .int ch, .int cg, .int fb, .int mh, .int ml, .int ih, .int lb, .int ic])), (x21, .inr (9, [.ref x22, .ref x23, .ref x24, .ref x25, .ref x26, .ref x27, .int cn])), (x22, .inl (ty 0, 300, .inl c1)), (x23, .inl (ty 0, 300, .inl c2)), (x24, .inl (ty 0, 300, .inl c3)), (x25, .inl (ty 0, 300, .inl c4)), (x35, .inl (ty 0, 300, .inl t_2.2)), (x36, .inl (ty 0, 6, .inl obi)), (x37, .inl (ty 0, 6, .inl sc))] ++ pw ty pp) := hD
                refine lv_aload_n hx hb dX9_hasSmaller_109 rfl (lv_at hl 4 rfl) ?_
                refine va_get (D := D) (ci := 11) (v := .ref x38) (C := RX9) (T := TX9) (N := 17) hx hb hts iv_k_X9_hasSmaller_X9 hown hK hP 3 rfl rfl 8 (by decide) (hts (.fieldLink RX9 31 "AnswerFold$Solver" "branches" "[I") (by decide +kernel)) (fun _ h9 => h9) rfl dX9_hasSmaller_110 ?_
                refine lv_iload_n hx hb dX9_hasSmaller_113 rfl (lv_at hl 3 rfl) ?_
                refine lv_iconst (v := 1) hx hb dX9_hasSmaller_114 (by decide) ?_
                refine lv_iadd hx hb dX9_hasSmaller_115 ?_
                refine lv_iload hx hb dX9_hasSmaller_116 (lv_at hl 2 rfl) ?_
                refine lv_iload hx hb dX9_hasSmaller_118 (lv_at hl 1 rfl) ?_
                refine lv_iload hx hb dX9_hasSmaller_120 (lv_at hl 0 rfl) ?_
                refine lv_iconst (v := (-1)) hx hb dX9_hasSmaller_122 (by decide) ?_
                refine lv_ixor hx hb dX9_hasSmaller_123 ?_
                refine lv_iand hx hb dX9_hasSmaller_124 ?_
                refine lv_ior hx hb dX9_hasSmaller_125 ?_
                refine va_iast (D := D) hx hb hK hP hD hS 0 0 rfl rfl (om_k_X9_hasSmaller_2 v2_21 v3_21 t_61 hn_21 c_3 c_4 c_5 c_10) dX9_hasSmaller_126 (fun H locs hP hD hS => ?_)
                have hP : va_P D vwCl ([(x38, .inl (ty 0, 26, .inl (upd (upd x38_f_21 ((v2_21 + (-1)).toNatClampNeg) (t_52 ||| (t_61 &&& (-t_61)))) (((v2_21 + (-1)) + 1).toNatClampNeg) (t_52 ||| (t_61 &&& ((t_61 &&& (-t_61)) ^^^ (-1))))))), (x1, .inr (8, [.ref x2, .int pn, .ref x3, .int rn, .ref x4, .ref x5, .int tn, .ref x6, .ref x7, .int en])), (x3, .inl (ty 4, 20, .inr (.inr (.inr (.inr rf))))), (x20, .inr (11, [.ref x1, .ref x8, .ref x21, .ref x28, .ref x35, .int t_2.1, .ref x36, .ref x37, .ref x38, .int ch, .int cg, .int fb, .int mh, .int ml, .int ih, .int lb, .int ic])), (x21, .inr (9, [.ref x22, .ref x23, .ref x24, .ref x25, .ref x26, .ref x27, .int cn])), (x22, .inl (ty 0, 300, .inl c1)), (x23, .inl (ty 0, 300, .inl c2)), (x24, .inl (ty 0, 300, .inl c3)), (x25, .inl (ty 0, 300, .inl c4)), (x35, .inl (ty 0, 300, .inl t_2.2)), (x36, .inl (ty 0, 6, .inl obi)), (x37, .inl (ty 0, 6, .inl sc))] ++ pw ty pp) H := hP
                have hD : va_D A ([(x38, .inl (ty 0, 26, .inl (upd (upd x38_f_21 ((v2_21 + (-1)).toNatClampNeg) (t_52 ||| (t_61 &&& (-t_61)))) (((v2_21 + (-1)) + 1).toNatClampNeg) (t_52 ||| (t_61 &&& ((t_61 &&& (-t_61)) ^^^ (-1))))))), (x1, .inr (8, [.ref x2, .int pn, .ref x3, .int rn, .ref x4, .ref x5, .int tn, .ref x6, .ref x7, .int en])), (x3, .inl (ty 4, 20, .inr (.inr (.inr (.inr rf))))), (x20, .inr (11, [.ref x1, .ref x8, .ref x21, .ref x28, .ref x35, .int t_2.1, .ref x36, .ref x37, .ref x38, .int ch, .int cg, .int fb, .int mh, .int ml, .int ih, .int lb, .int ic])), (x21, .inr (9, [.ref x22, .ref x23, .ref x24, .ref x25, .ref x26, .ref x27, .int cn])), (x22, .inl (ty 0, 300, .inl c1)), (x23, .inl (ty 0, 300, .inl c2)), (x24, .inl (ty 0, 300, .inl c3)), (x25, .inl (ty 0, 300, .inl c4)), (x35, .inl (ty 0, 300, .inl t_2.2)), (x36, .inl (ty 0, 6, .inl obi)), (x37, .inl (ty 0, 6, .inl sc))] ++ pw ty pp) := hD
                refine lv_iinc (v := (v2_21 + (-1)) + 2) (lv' := [(2, .int ((v2_21 + (-1)) + 2)), (6, .int (t_61 &&& (-t_61))), (5, .int t_61), (4, .int t_52), (0, .ref x20), (1, .int a1), (3, .int v3_21)]) hx hb dX9_hasSmaller_127 hl (k := 3) rfl (by rfl) (by decide) rfl (fun ls hl => ?_)
                exact J_130 ((v2_21 + (-1)) + 2) (upd (upd x38_f_21 ((v2_21 + (-1)).toNatClampNeg) (t_52 ||| (t_61 &&& (-t_61)))) (((v2_21 + (-1)) + 1).toNatClampNeg) (t_52 ||| (t_61 &&& ((t_61 &&& (-t_61)) ^^^ (-1))))) hT _ _ (tP_sub hP [1, 2, 3, 4, 5, 6, 7, 8, 9, 10, 11, 0] rfl) (tD_sub hD [1, 2, 3, 4, 5, 6, 7, 8, 9, 10, 11, 0] (by decide) rfl) hS _ (lv_sub hl [4, 5, 0, 6] rfl)
            · rw [if_pos c_10] at hT
              refine lv_iload hx hb dX9_hasSmaller_71 (lv_at hl 1 rfl) ?_
              refine lv_iload_n hx hb dX9_hasSmaller_73 rfl (lv_at hl 4 rfl) ?_
              refine lv_icmp_eq (tgt := 130) hx hb dX9_hasSmaller_74 (by decide) (fun c_12 => ?_) (fun c_12 => ?_)
              · rw [if_pos c_12] at hT
                exact J_130 (v2_21 + (-1)) x38_f_21 hT _ _ (tP_sub hP [1, 2, 3, 4, 5, 6, 7, 8, 9, 10, 11, 0] rfl) (tD_sub hD [1, 2, 3, 4, 5, 6, 7, 8, 9, 10, 11, 0] (by decide) rfl) hS _ (lv_sub hl [3, 4, 2, 5] rfl)
              · rw [if_neg c_12] at hT
                refine lv_iconst (v := 1) hx hb dX9_hasSmaller_77 (by decide) ?_
                exact END 1 t_2.1 t_2.2 x38_f_21 hT (by decide) _ _ (tP_sub hP [1, 2, 3, 4, 5, 6, 7, 8, 9, 10, 11, 0] rfl) (tD_sub hD [1, 2, 3, 4, 5, 6, 7, 8, 9, 10, 11, 0] (by decide) rfl) hS _ _ dX9_hasSmaller_78
  exact L_21 wF 1 0 (upd br ((0 : Int32).toNatClampNeg) (a1 &&& fb)) (wF_up 0) hT (by decide) _ _ (tP_sub hP [1, 2, 3, 4, 5, 6, 7, 8, 9, 10, 11, 0] rfl) (tD_sub hD [1, 2, 3, 4, 5, 6, 7, 8, 9, 10, 11, 0] (by decide) rfl) hS _ (lv_sub hl [2, 3, 1, 0] rfl)
theorem dX9_doesFor_0 : decode cX9_doesFor 0 = .ok (.iload_n 2, 1) := by decide +kernel
theorem dX9_doesFor_1 : decode cX9_doesFor 1 = .ok (.aload_n 0, 1) := by decide +kernel
theorem dX9_doesFor_2 : decode cX9_doesFor 2 = .ok (.getfield 75, 3) := by decide +kernel
theorem dX9_doesFor_5 : decode cX9_doesFor 5 = .ok (.iand, 1) := by decide +kernel
theorem dX9_doesFor_6 : decode cX9_doesFor 6 = .ok (.iload_n 1, 1) := by decide +kernel
theorem dX9_doesFor_7 : decode cX9_doesFor 7 = .ok (.iconst (-1), 1) := by decide +kernel
theorem dX9_doesFor_8 : decode cX9_doesFor 8 = .ok (.ixor, 1) := by decide +kernel
theorem dX9_doesFor_9 : decode cX9_doesFor 9 = .ok (.iand, 1) := by decide +kernel
theorem dX9_doesFor_10 : decode cX9_doesFor 10 = .ok (.ifCond .eq 5, 3) := by decide +kernel
theorem dX9_doesFor_13 : decode cX9_doesFor 13 = .ok (.iconst 0, 1) := by decide +kernel
theorem dX9_doesFor_14 : decode cX9_doesFor 14 = .ok (.ireturn, 1) := by decide +kernel
theorem dX9_doesFor_15 : decode cX9_doesFor 15 = .ok (.aload_n 0, 1) := by decide +kernel
theorem dX9_doesFor_16 : decode cX9_doesFor 16 = .ok (.iload_n 1, 1) := by decide +kernel
theorem dX9_doesFor_17 : decode cX9_doesFor 17 = .ok (.invokevirtual 241, 3) := by decide +kernel
theorem dX9_doesFor_20 : decode cX9_doesFor 20 = .ok (.istore_n 3, 1) := by decide +kernel
theorem dX9_doesFor_21 : decode cX9_doesFor 21 = .ok (.iconst 0, 1) := by decide +kernel
theorem dX9_doesFor_22 : decode cX9_doesFor 22 = .ok (.istore 4, 2) := by decide +kernel
theorem dX9_doesFor_24 : decode cX9_doesFor 24 = .ok (.iload 4, 2) := by decide +kernel
theorem dX9_doesFor_26 : decode cX9_doesFor 26 = .ok (.aload_n 0, 1) := by decide +kernel
theorem dX9_doesFor_27 : decode cX9_doesFor 27 = .ok (.getfield 276, 3) := by decide +kernel
theorem dX9_doesFor_30 : decode cX9_doesFor 30 = .ok (.if_icmp .ge 100, 3) := by decide +kernel
theorem dX9_doesFor_33 : decode cX9_doesFor 33 = .ok (.iload 4, 2) := by decide +kernel
theorem dX9_doesFor_35 : decode cX9_doesFor 35 = .ok (.sipush 300, 3) := by decide +kernel
theorem dX9_doesFor_38 : decode cX9_doesFor 38 = .ok (.if_icmp .ge 92, 3) := by decide +kernel
theorem dX9_doesFor_41 : decode cX9_doesFor 41 = .ok (.aload_n 0, 1) := by decide +kernel
theorem dX9_doesFor_42 : decode cX9_doesFor 42 = .ok (.getfield 21, 3) := by decide +kernel
theorem dX9_doesFor_45 : decode cX9_doesFor 45 = .ok (.iload 4, 2) := by decide +kernel
theorem dX9_doesFor_47 : decode cX9_doesFor 47 = .ok (.iaload, 1) := by decide +kernel
theorem dX9_doesFor_48 : decode cX9_doesFor 48 = .ok (.istore 5, 2) := by decide +kernel
theorem dX9_doesFor_50 : decode cX9_doesFor 50 = .ok (.aload_n 0, 1) := by decide +kernel
theorem dX9_doesFor_51 : decode cX9_doesFor 51 = .ok (.getfield 12, 3) := by decide +kernel
theorem dX9_doesFor_54 : decode cX9_doesFor 54 = .ok (.iload 5, 2) := by decide +kernel
theorem dX9_doesFor_56 : decode cX9_doesFor 56 = .ok (.invokevirtual 279, 3) := by decide +kernel
theorem dX9_doesFor_59 : decode cX9_doesFor 59 = .ok (.iload_n 2, 1) := by decide +kernel
theorem dX9_doesFor_60 : decode cX9_doesFor 60 = .ok (.iand, 1) := by decide +kernel
theorem dX9_doesFor_61 : decode cX9_doesFor 61 = .ok (.istore 6, 2) := by decide +kernel
theorem dX9_doesFor_63 : decode cX9_doesFor 63 = .ok (.aload_n 0, 1) := by decide +kernel
theorem dX9_doesFor_64 : decode cX9_doesFor 64 = .ok (.iload 5, 2) := by decide +kernel
theorem dX9_doesFor_66 : decode cX9_doesFor 66 = .ok (.invokevirtual 287, 3) := by decide +kernel
theorem dX9_doesFor_69 : decode cX9_doesFor 69 = .ok (.ifCond .eq 20, 3) := by decide +kernel
theorem dX9_doesFor_72 : decode cX9_doesFor 72 = .ok (.iload 6, 2) := by decide +kernel
theorem dX9_doesFor_74 : decode cX9_doesFor 74 = .ok (.iload_n 1, 1) := by decide +kernel
theorem dX9_doesFor_75 : decode cX9_doesFor 75 = .ok (.iconst (-1), 1) := by decide +kernel
theorem dX9_doesFor_76 : decode cX9_doesFor 76 = .ok (.ixor, 1) := by decide +kernel
theorem dX9_doesFor_77 : decode cX9_doesFor 77 = .ok (.iand, 1) := by decide +kernel
theorem dX9_doesFor_78 : decode cX9_doesFor 78 = .ok (.ifCond .ne 7, 3) := by decide +kernel
theorem dX9_doesFor_81 : decode cX9_doesFor 81 = .ok (.iconst 1, 1) := by decide +kernel
theorem dX9_doesFor_82 : decode cX9_doesFor 82 = .ok (.goto 19, 3) := by decide +kernel
theorem dX9_doesFor_85 : decode cX9_doesFor 85 = .ok (.iconst 0, 1) := by decide +kernel
theorem dX9_doesFor_86 : decode cX9_doesFor 86 = .ok (.goto 15, 3) := by decide +kernel
theorem dX9_doesFor_89 : decode cX9_doesFor 89 = .ok (.iload 6, 2) := by decide +kernel
theorem dX9_doesFor_91 : decode cX9_doesFor 91 = .ok (.iload_n 1, 1) := by decide +kernel
theorem dX9_doesFor_92 : decode cX9_doesFor 92 = .ok (.iand, 1) := by decide +kernel
theorem dX9_doesFor_93 : decode cX9_doesFor 93 = .ok (.ifCond .eq 7, 3) := by decide +kernel
theorem dX9_doesFor_96 : decode cX9_doesFor 96 = .ok (.iconst 1, 1) := by decide +kernel
theorem dX9_doesFor_97 : decode cX9_doesFor 97 = .ok (.goto 4, 3) := by decide +kernel
theorem dX9_doesFor_100 : decode cX9_doesFor 100 = .ok (.iconst 0, 1) := by decide +kernel
theorem dX9_doesFor_101 : decode cX9_doesFor 101 = .ok (.istore 7, 2) := by decide +kernel
theorem dX9_doesFor_103 : decode cX9_doesFor 103 = .ok (.iload 7, 2) := by decide +kernel
theorem dX9_doesFor_105 : decode cX9_doesFor 105 = .ok (.ifCond .ne 19, 3) := by decide +kernel
theorem dX9_doesFor_108 : decode cX9_doesFor 108 = .ok (.aload_n 0, 1) := by decide +kernel
theorem dX9_doesFor_109 : decode cX9_doesFor 109 = .ok (.getfield 12, 3) := by decide +kernel
theorem dX9_doesFor_112 : decode cX9_doesFor 112 = .ok (.iload 5, 2) := by decide +kernel
theorem dX9_doesFor_114 : decode cX9_doesFor 114 = .ok (.iload_n 1, 1) := by decide +kernel
theorem dX9_doesFor_115 : decode cX9_doesFor 115 = .ok (.iload_n 3, 1) := by decide +kernel
theorem dX9_doesFor_116 : decode cX9_doesFor 116 = .ok (.invokevirtual 282, 3) := by decide +kernel
theorem dX9_doesFor_119 : decode cX9_doesFor 119 = .ok (.ifCond .eq 5, 3) := by decide +kernel
theorem dX9_doesFor_122 : decode cX9_doesFor 122 = .ok (.iconst 0, 1) := by decide +kernel
theorem dX9_doesFor_123 : decode cX9_doesFor 123 = .ok (.ireturn, 1) := by decide +kernel
theorem dX9_doesFor_124 : decode cX9_doesFor 124 = .ok (.iinc 4 1, 3) := by decide +kernel
theorem dX9_doesFor_127 : decode cX9_doesFor 127 = .ok (.goto (-103), 3) := by decide +kernel
theorem dX9_doesFor_130 : decode cX9_doesFor 130 = .ok (.iconst 1, 1) := by decide +kernel
theorem dX9_doesFor_131 : decode cX9_doesFor 131 = .ok (.ireturn, 1) := by decide +kernel
abbrev r_k_X9_doesFor : Type := Int32
def m_k_X9_doesFor_124 (rec_24 : Int32 → r_k_X9_doesFor) (v4_24 : Int32) : r_k_X9_doesFor :=
  rec_24 (v4_24 + 1)
def m_k_X9_doesFor_101 (c1 : Nat → Int32) (c2 : Nat → Int32) (c3 : Nat → Int32) (ac : Nat → Int32) (a1 : Int32) (rec_24 : Int32 → r_k_X9_doesFor) (t_17 : r_k_X9_countsHeld) (v4_24 : Int32) (s0_101 : Int32) : r_k_X9_doesFor :=
  if s0_101 = 0 then
    lE (m_k_X7_bodyHolds c1 c2 c3 (ac v4_24.toNatClampNeg) a1 t_17) (fun t_116 =>
      if t_116 = 0 then
        m_k_X9_doesFor_124 rec_24 v4_24
      else
        0)
  else
    m_k_X9_doesFor_124 rec_24 v4_24
def m_k_X9_doesFor_24s (an : Int32) (ch : Int32) (c1 : Nat → Int32) (c2 : Nat → Int32) (c3 : Nat → Int32) (c4 : Nat → Int32) (ac : Nat → Int32) (a1 : Int32) (a2 : Int32) (t_17 : r_k_X9_countsHeld) (rec_24 : Int32 → r_k_X9_doesFor) (v4_24 : Int32) : r_k_X9_doesFor :=
  if an ≤ v4_24 then
    1
  else
    if 300 ≤ v4_24 then
      1
    else
      lE (m_k_X7_headsAt c4 (ac v4_24.toNatClampNeg)) (fun t_56 =>
        lE (m_k_X9_isChoice ch c1 (ac v4_24.toNatClampNeg)) (fun t_66 =>
          if t_66 = 0 then
            if ((t_56 &&& a2) &&& a1) = 0 then
              m_k_X9_doesFor_101 c1 c2 c3 ac a1 rec_24 t_17 v4_24 0
            else
              m_k_X9_doesFor_101 c1 c2 c3 ac a1 rec_24 t_17 v4_24 1
          else
            if ((t_56 &&& a2) &&& (a1 ^^^ (-1))) = 0 then
              m_k_X9_doesFor_101 c1 c2 c3 ac a1 rec_24 t_17 v4_24 1
            else
              m_k_X9_doesFor_101 c1 c2 c3 ac a1 rec_24 t_17 v4_24 0))
def m_k_X9_doesFor_24 (an : Int32) (ch : Int32) (c1 : Nat → Int32) (c2 : Nat → Int32) (c3 : Nat → Int32) (c4 : Nat → Int32) (ac : Nat → Int32) (a1 : Int32) (a2 : Int32) (t_17 : r_k_X9_countsHeld) : Nat → Int32 → r_k_X9_doesFor
  | 0, _ => (0)
  | n + 1, v4_24 => m_k_X9_doesFor_24s an ch c1 c2 c3 c4 ac a1 a2 t_17 (fun v4_24 => m_k_X9_doesFor_24 an ch c1 c2 c3 c4 ac a1 a2 t_17 n v4_24) v4_24
theorem m_k_X9_doesFor_24_succ (an : Int32) (ch : Int32) (c1 : Nat → Int32) (c2 : Nat → Int32) (c3 : Nat → Int32) (c4 : Nat → Int32) (ac : Nat → Int32) (a1 : Int32) (a2 : Int32) (t_17 : r_k_X9_countsHeld) (n : Nat) (v4_24 : Int32) : m_k_X9_doesFor_24 an ch c1 c2 c3 c4 ac a1 a2 t_17 (n + 1) v4_24 = m_k_X9_doesFor_24s an ch c1 c2 c3 c4 ac a1 a2 t_17 (m_k_X9_doesFor_24 an ch c1 c2 c3 c4 ac a1 a2 t_17 n) v4_24 := rfl
def m_k_X9_doesFor (pp : pT) (rn : Int32) (rf : Nat → Option Nat) (an : Int32) (ch : Int32) (cg : Int32) (fb : Int32) (c1 : Nat → Int32) (c2 : Nat → Int32) (c3 : Nat → Int32) (c4 : Nat → Int32) (ac : Nat → Int32) (obi : Nat → Int32) (sc : Nat → Int32) (a1 : Int32) (a2 : Int32) : r_k_X9_doesFor :=
  if ((a2 &&& fb) &&& (a1 ^^^ (-1))) = 0 then
    lE (m_k_X9_countsHeld pp rn rf cg obi sc a1) (fun t_17 =>
      m_k_X9_doesFor_24 an ch c1 c2 c3 c4 ac a1 a2 t_17 wF 0)
  else
    0
def vs_k_X9_doesFor : List Cond := .code yX9_doesFor cX9_doesFor 8 (some .boolean) :: ([.fieldLink RX9 75 "AnswerFold$Solver" "freeBits" "I", .methodLink RX9 241 yX9_countsHeld, .instanceMethod yX9_countsHeld, .selects RX9 yX9_countsHeld yX9_countsHeld, .initialized RX9, .fieldLink RX9 276 "AnswerFold$Solver" "activeCount" "I", .fieldLink RX9 21 "AnswerFold$Solver" "active" "[I", .fieldLink RX9 12 "AnswerFold$Solver" "checks" "LAnswerFold$Rows;", .methodLink RX9 279 yX7_headsAt, .instanceMethod yX7_headsAt, .selects RX7 yX7_headsAt yX7_headsAt, .initialized RX7, .methodLink RX9 287 yX9_isChoice, .instanceMethod yX9_isChoice, .selects RX9 yX9_isChoice yX9_isChoice, .methodLink RX9 282 yX7_bodyHolds, .instanceMethod yX7_bodyHolds, .selects RX7 yX7_bodyHolds yX7_bodyHolds] ++ (u_ws RX9 TX9 17 ++ (vs_k_X9_countsHeld ++ (vs_k_X7_headsAt ++ (vs_k_X9_isChoice ++ (vs_k_X7_bodyHolds))))))
theorem iv_k_X9_doesFor_X9 : ∀ w ∈ u_ws RX9 TX9 17, w ∈ vs_k_X9_doesFor := (fun _ h => List.mem_cons_of_mem _ (List.mem_append_right _ (List.mem_append_left _ h)))
set_option maxRecDepth 20000 in
theorem gv_k_X9_doesFor_0 : GoodIn vs_k_X9_doesFor (wsV RX9 241 RX9 yX9_countsHeld vs_k_X9_countsHeld) := goodIn_app (goodIn_sub (by decide +kernel) (by decide +kernel)) (goodIn_sub (fun _ h => List.mem_cons_of_mem _ (List.mem_append_right _ (List.mem_append_right _ (List.mem_append_left _ h)))) (by decide +kernel))
set_option maxRecDepth 20000 in
theorem gv_k_X9_doesFor_1 : GoodIn vs_k_X9_doesFor (wsV RX9 279 RX7 yX7_headsAt vs_k_X7_headsAt) := goodIn_app (goodIn_sub (by decide +kernel) (by decide +kernel)) (goodIn_sub (fun _ h => List.mem_cons_of_mem _ (List.mem_append_right _ (List.mem_append_right _ (List.mem_append_right _ (List.mem_append_left _ h))))) (by decide +kernel))
set_option maxRecDepth 20000 in
theorem gv_k_X9_doesFor_2 : GoodIn vs_k_X9_doesFor (wsV RX9 287 RX9 yX9_isChoice vs_k_X9_isChoice) := goodIn_app (goodIn_sub (by decide +kernel) (by decide +kernel)) (goodIn_sub (fun _ h => List.mem_cons_of_mem _ (List.mem_append_right _ (List.mem_append_right _ (List.mem_append_right _ (List.mem_append_right _ (List.mem_append_left _ h)))))) (by decide +kernel))
set_option maxRecDepth 20000 in
theorem gv_k_X9_doesFor_3 : GoodIn vs_k_X9_doesFor (wsV RX9 282 RX7 yX7_bodyHolds vs_k_X7_bodyHolds) := goodIn_app (goodIn_sub (by decide +kernel) (by decide +kernel)) (goodIn_sub (fun _ h => List.mem_cons_of_mem _ (List.mem_append_right _ (List.mem_append_right _ (List.mem_append_right _ (List.mem_append_right _ (List.mem_append_right _ (h))))))) (by decide +kernel))
set_option maxHeartbeats 4000000 in
set_option maxRecDepth 100000 in
theorem k_X9_doesFor (l : Launch) (D : va_G) (ty : Nat → ClassId) (td mi sz : Nat) (pp : pT) (x1 : Nat) (x2 : Nat) (pn : Int32) (x3 : Nat) (rn : Int32) (x4 : Nat) (x5 : Nat) (tn : Int32) (x6 : Nat) (x7 : Nat) (en : Int32) (rf : Nat → Option Nat) (x20 : Nat) (x8 : Nat) (x21 : Nat) (x28 : Nat) (x35 : Nat) (an : Int32) (x36 : Nat) (x37 : Nat) (x38 : Nat) (ch : Int32) (cg : Int32) (fb : Int32) (mh : Int32) (ml : Int32) (ih : Int32) (lb : Int32) (ic : Int32) (x22 : Nat) (x23 : Nat) (x24 : Nat) (x25 : Nat) (x26 : Nat) (x27 : Nat) (cn : Int32) (c1 : Nat → Int32) (c2 : Nat → Int32) (c3 : Nat → Int32) (c4 : Nat → Int32) (ac : Nat → Int32) (obi : Nat → Int32) (sc : Nat → Int32) (a1 : Int32) (a2 : Int32) (hok : pOK pp) (hru : ∀ (i a : Nat), rf i = some a → a ∈ pRA pp) (TT : r_k_X9_doesFor) (hTT : TT = m_k_X9_doesFor pp rn rf an ch cg fb c1 c2 c3 c4 ac obi sc a1 a2) : Met l yX9_doesFor vs_k_X9_doesFor { frames := 4, cells := 0, slots := 0, locals := 91 } (va_Pc [.ref x20, .int a1, .int a2] (wq_P D ty td mi ([(x1, .inr (8, [.ref x2, .int pn, .ref x3, .int rn, .ref x4, .ref x5, .int tn, .ref x6, .ref x7, .int en])), (x3, .inl (ty 4, 20, .inr (.inr (.inr (.inr rf))))), (x20, .inr (11, [.ref x1, .ref x8, .ref x21, .ref x28, .ref x35, .int an, .ref x36, .ref x37, .ref x38, .int ch, .int cg, .int fb, .int mh, .int ml, .int ih, .int lb, .int ic])), (x21, .inr (9, [.ref x22, .ref x23, .ref x24, .ref x25, .ref x26, .ref x27, .int cn])), (x22, .inl (ty 0, 300, .inl c1)), (x23, .inl (ty 0, 300, .inl c2)), (x24, .inl (ty 0, 300, .inl c3)), (x25, .inl (ty 0, 300, .inl c4)), (x35, .inl (ty 0, 300, .inl ac)), (x36, .inl (ty 0, 6, .inl obi)), (x37, .inl (ty 0, 6, .inl sc))] ++ pw ty pp) sz)) (va_Qi (fun (r : Int32) (u : va_W) => (r = TT ∧ (TT = 0 ∨ TT = 1) ∧ (u = ([(x1, .inr (8, [.ref x2, .int pn, .ref x3, .int rn, .ref x4, .ref x5, .int tn, .ref x6, .ref x7, .int en])), (x3, .inl (ty 4, 20, .inr (.inr (.inr (.inr rf))))), (x20, .inr (11, [.ref x1, .ref x8, .ref x21, .ref x28, .ref x35, .int an, .ref x36, .ref x37, .ref x38, .int ch, .int cg, .int fb, .int mh, .int ml, .int ih, .int lb, .int ic])), (x21, .inr (9, [.ref x22, .ref x23, .ref x24, .ref x25, .ref x26, .ref x27, .int cn])), (x22, .inl (ty 0, 300, .inl c1)), (x23, .inl (ty 0, 300, .inl c2)), (x24, .inl (ty 0, 300, .inl c3)), (x25, .inl (ty 0, 300, .inl c4)), (x35, .inl (ty 0, 300, .inl ac)), (x36, .inl (ty 0, 6, .inl obi)), (x37, .inl (ty 0, 6, .inl sc))] ++ pw ty pp)))) (wq_B D (va_A ([(x1, .inr (8, [.ref x2, .int pn, .ref x3, .int rn, .ref x4, .ref x5, .int tn, .ref x6, .ref x7, .int en])), (x3, .inl (ty 4, 20, .inr (.inr (.inr (.inr rf))))), (x20, .inr (11, [.ref x1, .ref x8, .ref x21, .ref x28, .ref x35, .int an, .ref x36, .ref x37, .ref x38, .int ch, .int cg, .int fb, .int mh, .int ml, .int ih, .int lb, .int ic])), (x21, .inr (9, [.ref x22, .ref x23, .ref x24, .ref x25, .ref x26, .ref x27, .int cn])), (x22, .inl (ty 0, 300, .inl c1)), (x23, .inl (ty 0, 300, .inl c2)), (x24, .inl (ty 0, 300, .inl c3)), (x25, .inl (ty 0, 300, .inl c4)), (x35, .inl (ty 0, 300, .inl ac)), (x36, .inl (ty 0, 6, .inl obi)), (x37, .inl (ty 0, 6, .inl sc))] ++ pw ty pp) sz)) (va_A ([(x1, .inr (8, [.ref x2, .int pn, .ref x3, .int rn, .ref x4, .ref x5, .int tn, .ref x6, .ref x7, .int en])), (x3, .inl (ty 4, 20, .inr (.inr (.inr (.inr rf))))), (x20, .inr (11, [.ref x1, .ref x8, .ref x21, .ref x28, .ref x35, .int an, .ref x36, .ref x37, .ref x38, .int ch, .int cg, .int fb, .int mh, .int ml, .int ih, .int lb, .int ic])), (x21, .inr (9, [.ref x22, .ref x23, .ref x24, .ref x25, .ref x26, .ref x27, .int cn])), (x22, .inl (ty 0, 300, .inl c1)), (x23, .inl (ty 0, 300, .inl c2)), (x24, .inl (ty 0, 300, .inl c3)), (x25, .inl (ty 0, 300, .inl c4)), (x35, .inl (ty 0, 300, .inl ac)), (x36, .inl (ty 0, 6, .inl obi)), (x37, .inl (ty 0, 6, .inl sc))] ++ pw ty pp) sz)) 0 0 (va_A ([(x1, .inr (8, [.ref x2, .int pn, .ref x3, .int rn, .ref x4, .ref x5, .int tn, .ref x6, .ref x7, .int en])), (x3, .inl (ty 4, 20, .inr (.inr (.inr (.inr rf))))), (x20, .inr (11, [.ref x1, .ref x8, .ref x21, .ref x28, .ref x35, .int an, .ref x36, .ref x37, .ref x38, .int ch, .int cg, .int fb, .int mh, .int ml, .int ih, .int lb, .int ic])), (x21, .inr (9, [.ref x22, .ref x23, .ref x24, .ref x25, .ref x26, .ref x27, .int cn])), (x22, .inl (ty 0, 300, .inl c1)), (x23, .inl (ty 0, 300, .inl c2)), (x24, .inl (ty 0, 300, .inl c3)), (x25, .inl (ty 0, 300, .inl c4)), (x35, .inl (ty 0, 300, .inl ac)), (x36, .inl (ty 0, 6, .inl obi)), (x37, .inl (ty 0, 6, .inl sc))] ++ pw ty pp) sz) := by
  refine Met.ofW (cc := cX9_doesFor) (maxL := 8) (ret := (some .boolean)) (by decide) rfl ?_
  intro p e s m args below meth c s₁ B hml hv
  obtain ⟨rfl, hsz, hP, hK, hD0, hE⟩ := hv
  have hx := B.exec
  have hb := B.bytes
  have hr := B.returns
  have hts := atoms_spec (ws := vs_k_X9_doesFor) B.pre
  have hown : s.vm.findClass RX9 = some m.cls := findClass_of_methodNamed B.named
  have hlocks := B.notSynchronized
  subst hsz
  have hD := hD0.self (sz := s.heap.size)
  generalize hAe : va_A ([(x1, .inr (8, [.ref x2, .int pn, .ref x3, .int rn, .ref x4, .ref x5, .int tn, .ref x6, .ref x7, .int en])), (x3, .inl (ty 4, 20, .inr (.inr (.inr (.inr rf))))), (x20, .inr (11, [.ref x1, .ref x8, .ref x21, .ref x28, .ref x35, .int an, .ref x36, .ref x37, .ref x38, .int ch, .int cg, .int fb, .int mh, .int ml, .int ih, .int lb, .int ic])), (x21, .inr (9, [.ref x22, .ref x23, .ref x24, .ref x25, .ref x26, .ref x27, .int cn])), (x22, .inl (ty 0, 300, .inl c1)), (x23, .inl (ty 0, 300, .inl c2)), (x24, .inl (ty 0, 300, .inl c3)), (x25, .inl (ty 0, 300, .inl c4)), (x35, .inl (ty 0, 300, .inl ac)), (x36, .inl (ty 0, 6, .inl obi)), (x37, .inl (ty 0, 6, .inl sc))] ++ pw ty pp) s.heap.size = A at hD hE ⊢
  have hA : ∀ q : Nat, s.heap.size ≤ q → A q := fun q h => by rw [← hAe]; exact Or.inr h
  have hS : va_S A s.heap s.heap [] := va_S.rf
  have hP : va_P D vwCl ([(x1, .inr (8, [.ref x2, .int pn, .ref x3, .int rn, .ref x4, .ref x5, .int tn, .ref x6, .ref x7, .int en])), (x3, .inl (ty 4, 20, .inr (.inr (.inr (.inr rf))))), (x20, .inr (11, [.ref x1, .ref x8, .ref x21, .ref x28, .ref x35, .int an, .ref x36, .ref x37, .ref x38, .int ch, .int cg, .int fb, .int mh, .int ml, .int ih, .int lb, .int ic])), (x21, .inr (9, [.ref x22, .ref x23, .ref x24, .ref x25, .ref x26, .ref x27, .int cn])), (x22, .inl (ty 0, 300, .inl c1)), (x23, .inl (ty 0, 300, .inl c2)), (x24, .inl (ty 0, 300, .inl c3)), (x25, .inl (ty 0, 300, .inl c4)), (x35, .inl (ty 0, 300, .inl ac)), (x36, .inl (ty 0, 6, .inl obi)), (x37, .inl (ty 0, 6, .inl sc))] ++ pw ty pp) s.heap := hP
  have hl := lv_entry ([.ref x20, .int a1, .int a2]) (n := 8) (Nat.le_of_ble_eq_true rfl)
  rw [lg_entry_eq]
  generalize (lg_sl ([.ref x20, .int a1, .int a2]) ++ List.replicate (8 - (lg_sl ([.ref x20, .int a1, .int a2])).length) Slot.unset).toArray = ls at hl ⊢
  have hl : lv_has ls 8 [(0, .ref x20), (1, .int a1), (2, .int a2)] := hl
  have END : ∀ (r : Int32), TT = r → (r = 0 ∨ r = 1) → ∀ (H : Heap) (locs : List Loc), va_P D vwCl ([(x1, .inr (8, [.ref x2, .int pn, .ref x3, .int rn, .ref x4, .ref x5, .int tn, .ref x6, .ref x7, .int en])), (x3, .inl (ty 4, 20, .inr (.inr (.inr (.inr rf))))), (x20, .inr (11, [.ref x1, .ref x8, .ref x21, .ref x28, .ref x35, .int an, .ref x36, .ref x37, .ref x38, .int ch, .int cg, .int fb, .int mh, .int ml, .int ih, .int lb, .int ic])), (x21, .inr (9, [.ref x22, .ref x23, .ref x24, .ref x25, .ref x26, .ref x27, .int cn])), (x22, .inl (ty 0, 300, .inl c1)), (x23, .inl (ty 0, 300, .inl c2)), (x24, .inl (ty 0, 300, .inl c3)), (x25, .inl (ty 0, 300, .inl c4)), (x35, .inl (ty 0, 300, .inl ac)), (x36, .inl (ty 0, 6, .inl obi)), (x37, .inl (ty 0, 6, .inl sc))] ++ pw ty pp) H → va_D A ([(x1, .inr (8, [.ref x2, .int pn, .ref x3, .int rn, .ref x4, .ref x5, .int tn, .ref x6, .ref x7, .int en])), (x3, .inl (ty 4, 20, .inr (.inr (.inr (.inr rf))))), (x20, .inr (11, [.ref x1, .ref x8, .ref x21, .ref x28, .ref x35, .int an, .ref x36, .ref x37, .ref x38, .int ch, .int cg, .int fb, .int mh, .int ml, .int ih, .int lb, .int ic])), (x21, .inr (9, [.ref x22, .ref x23, .ref x24, .ref x25, .ref x26, .ref x27, .int cn])), (x22, .inl (ty 0, 300, .inl c1)), (x23, .inl (ty 0, 300, .inl c2)), (x24, .inl (ty 0, 300, .inl c3)), (x25, .inl (ty 0, 300, .inl c4)), (x35, .inl (ty 0, 300, .inl ac)), (x36, .inl (ty 0, 6, .inl obi)), (x37, .inl (ty 0, 6, .inl sc))] ++ pw ty pp) → va_S A s.heap H locs → ∀ (ls : Array Slot) (pc : Nat), decode cX9_doesFor pc = .ok (.ireturn, 1) → W p l e (headSpec vs_k_X9_doesFor { frames := 4, cells := 0, slots := 0, locals := 91 }).room s m ([.ref x20, .int a1, .int a2] : List Value).toArray below meth c H locs 0 0 (MQ below (va_Qi (fun (r : Int32) (u : va_W) => (r = TT ∧ (TT = 0 ∨ TT = 1) ∧ (u = ([(x1, .inr (8, [.ref x2, .int pn, .ref x3, .int rn, .ref x4, .ref x5, .int tn, .ref x6, .ref x7, .int en])), (x3, .inl (ty 4, 20, .inr (.inr (.inr (.inr rf))))), (x20, .inr (11, [.ref x1, .ref x8, .ref x21, .ref x28, .ref x35, .int an, .ref x36, .ref x37, .ref x38, .int ch, .int cg, .int fb, .int mh, .int ml, .int ih, .int lb, .int ic])), (x21, .inr (9, [.ref x22, .ref x23, .ref x24, .ref x25, .ref x26, .ref x27, .int cn])), (x22, .inl (ty 0, 300, .inl c1)), (x23, .inl (ty 0, 300, .inl c2)), (x24, .inl (ty 0, 300, .inl c3)), (x25, .inl (ty 0, 300, .inl c4)), (x35, .inl (ty 0, 300, .inl ac)), (x36, .inl (ty 0, 6, .inl obi)), (x37, .inl (ty 0, 6, .inl sc))] ++ pw ty pp)))) (wq_B D A) A) ([.ref x20, .int a1, .int a2] : List Value).toArray s 0 0 A) (F0 m pc ls [.int r]) := by
    intro r hT hb01 H locs hP hD hS ls pc hd
    have hM : TT = r := hT
    exact W.zret (v := r) hx hb hr (wz_nar hb01) (fun t ht hW => ⟨⟨r, ([(x1, .inr (8, [.ref x2, .int pn, .ref x3, .int rn, .ref x4, .ref x5, .int tn, .ref x6, .ref x7, .int en])), (x3, .inl (ty 4, 20, .inr (.inr (.inr (.inr rf))))), (x20, .inr (11, [.ref x1, .ref x8, .ref x21, .ref x28, .ref x35, .int an, .ref x36, .ref x37, .ref x38, .int ch, .int cg, .int fb, .int mh, .int ml, .int ih, .int lb, .int ic])), (x21, .inr (9, [.ref x22, .ref x23, .ref x24, .ref x25, .ref x26, .ref x27, .int cn])), (x22, .inl (ty 0, 300, .inl c1)), (x23, .inl (ty 0, 300, .inl c2)), (x24, .inl (ty 0, 300, .inl c3)), (x25, .inl (ty 0, 300, .inl c4)), (x35, .inl (ty 0, 300, .inl ac)), (x36, .inl (ty 0, 6, .inl obi)), (x37, .inl (ty 0, 6, .inl sc))] ++ pw ty pp), rfl, ⟨(by rw [hM]), (by rw [hM]; exact hb01), rfl⟩, wq_B.of ht hP hD⟩, hS.F ht⟩) hS.2.2 hd
  have hT := hTT
  rw [m_k_X9_doesFor] at hT
  refine lv_iload_n hx hb dX9_doesFor_0 rfl (lv_at hl 2 rfl) ?_
  refine lv_aload_n hx hb dX9_doesFor_1 rfl (lv_at hl 0 rfl) ?_
  refine va_get (D := D) (ci := 11) (v := .int fb) (C := RX9) (T := TX9) (N := 17) hx hb hts iv_k_X9_doesFor_X9 hown hK hP 2 rfl rfl 11 (by decide) (hts (.fieldLink RX9 75 "AnswerFold$Solver" "freeBits" "I") (by decide +kernel)) (fun _ h9 => h9) rfl dX9_doesFor_2 ?_
  refine lv_iand hx hb dX9_doesFor_5 ?_
  refine lv_iload_n hx hb dX9_doesFor_6 rfl (lv_at hl 1 rfl) ?_
  refine lv_iconst (v := (-1)) hx hb dX9_doesFor_7 (by decide) ?_
  refine lv_ixor hx hb dX9_doesFor_8 ?_
  refine lv_iand hx hb dX9_doesFor_9 ?_
  refine lv_if_eq (tgt := 15) hx hb dX9_doesFor_10 (by decide) (fun c_1 => ?_) (fun c_1 => ?_)
  · rw [if_pos c_1] at hT
    refine lv_aload_n hx hb dX9_doesFor_15 rfl (lv_at hl 0 rfl) ?_
    refine lv_iload_n hx hb dX9_doesFor_16 rfl (lv_at hl 1 rfl) ?_
    obtain ⟨t_17, ht_17⟩ : ∃ t, t = m_k_X9_countsHeld pp rn rf cg obi sc a1 := ⟨_, rfl⟩
    rw [lE_eq ht_17] at hT
    refine wq_iP (wc := [(x1, .inr (8, [.ref x2, .int pn, .ref x3, .int rn, .ref x4, .ref x5, .int tn, .ref x6, .ref x7, .int en])), (x3, .inl (ty 4, 20, .inr (.inr (.inr (.inr rf))))), (x20, .inr (11, [.ref x1, .ref x8, .ref x21, .ref x28, .ref x35, .int an, .ref x36, .ref x37, .ref x38, .int ch, .int cg, .int fb, .int mh, .int ml, .int ih, .int lb, .int ic])), (x36, .inl (ty 0, 6, .inl obi)), (x37, .inl (ty 0, 6, .inl sc))]) (wr := [(x21, .inr (9, [.ref x22, .ref x23, .ref x24, .ref x25, .ref x26, .ref x27, .int cn])), (x22, .inl (ty 0, 300, .inl c1)), (x23, .inl (ty 0, 300, .inl c2)), (x24, .inl (ty 0, 300, .inl c3)), (x25, .inl (ty 0, 300, .inl c4)), (x35, .inl (ty 0, 300, .inl ac))]) (pl := pw ty pp) (ux := [(x1, .inr (8, [.ref x2, .int pn, .ref x3, .int rn, .ref x4, .ref x5, .int tn, .ref x6, .ref x7, .int en])), (x3, .inl (ty 4, 20, .inr (.inr (.inr (.inr rf))))), (x20, .inr (11, [.ref x1, .ref x8, .ref x21, .ref x28, .ref x35, .int an, .ref x36, .ref x37, .ref x38, .int ch, .int cg, .int fb, .int mh, .int ml, .int ih, .int lb, .int ic])), (x36, .inl (ty 0, 6, .inl obi)), (x37, .inl (ty 0, 6, .inl sc))]) (va_runV (As := [.int a1]) (rest := []) ⟨hx, hb, hml, hown, hts⟩ (k_X9_countsHeld l D ty td mi s.heap.size pp x1 x2 pn x3 rn x4 x5 tn x6 x7 en rf x20 x8 x21 x28 x35 an x36 x37 x38 ch cg fb mh ml ih lb ic obi sc a1 hok hru t_17 ht_17) (cwV 1 hts gv_k_X9_doesFor_0 rfl rfl rfl (by decide +kernel) ⟨(Nat.le_of_ble_eq_true rfl), (Nat.le_of_ble_eq_true rfl)⟩) ⟨(wq_preSP hP hD hK hE hS hA [0, 1, 2, 9, 10] rfl (by decide) (As := .ref x20 :: [.int a1])).1, va_recv (q0 := 2) (ci := 11) hK hP rfl rfl, (wq_preSP hP hD hK hE hS hA [0, 1, 2, 9, 10] rfl (by decide) (As := .ref x20 :: [.int a1])).2⟩ rfl rfl hl.1 rfl (lv_room (Nat.le_of_ble_eq_true rfl)) dX9_doesFor_17 ⟨(Nat.le_of_ble_eq_true rfl), (Nat.le_of_ble_eq_true rfl)⟩) hS hA hP hD [0, 1, 2, 9, 10] [3, 4, 5, 6, 7, 8] rfl rfl (by decide) (by decide) (fun _ _ h => h.2) (fun r H locs hw hP hD hS => ?_)
    obtain ⟨hr0, -⟩ := hw
    subst r
    have hP : va_P D vwCl ([(x21, .inr (9, [.ref x22, .ref x23, .ref x24, .ref x25, .ref x26, .ref x27, .int cn])), (x22, .inl (ty 0, 300, .inl c1)), (x23, .inl (ty 0, 300, .inl c2)), (x24, .inl (ty 0, 300, .inl c3)), (x25, .inl (ty 0, 300, .inl c4)), (x35, .inl (ty 0, 300, .inl ac)), (x1, .inr (8, [.ref x2, .int pn, .ref x3, .int rn, .ref x4, .ref x5, .int tn, .ref x6, .ref x7, .int en])), (x3, .inl (ty 4, 20, .inr (.inr (.inr (.inr rf))))), (x20, .inr (11, [.ref x1, .ref x8, .ref x21, .ref x28, .ref x35, .int an, .ref x36, .ref x37, .ref x38, .int ch, .int cg, .int fb, .int mh, .int ml, .int ih, .int lb, .int ic])), (x36, .inl (ty 0, 6, .inl obi)), (x37, .inl (ty 0, 6, .inl sc))] ++ pw ty pp) H := hP
    have hD : va_D A ([(x21, .inr (9, [.ref x22, .ref x23, .ref x24, .ref x25, .ref x26, .ref x27, .int cn])), (x22, .inl (ty 0, 300, .inl c1)), (x23, .inl (ty 0, 300, .inl c2)), (x24, .inl (ty 0, 300, .inl c3)), (x25, .inl (ty 0, 300, .inl c4)), (x35, .inl (ty 0, 300, .inl ac)), (x1, .inr (8, [.ref x2, .int pn, .ref x3, .int rn, .ref x4, .ref x5, .int tn, .ref x6, .ref x7, .int en])), (x3, .inl (ty 4, 20, .inr (.inr (.inr (.inr rf))))), (x20, .inr (11, [.ref x1, .ref x8, .ref x21, .ref x28, .ref x35, .int an, .ref x36, .ref x37, .ref x38, .int ch, .int cg, .int fb, .int mh, .int ml, .int ih, .int lb, .int ic])), (x36, .inl (ty 0, 6, .inl obi)), (x37, .inl (ty 0, 6, .inl sc))] ++ pw ty pp) := hD
    refine W.widen (k := 0) (n := 0) (Nat.le_of_ble_eq_true rfl) (Nat.le_of_ble_eq_true rfl) ?_
    refine lv_istore_n (lv' := [(3, .int t_17), (0, .ref x20), (1, .int a1), (2, .int a2)]) hx hb dX9_doesFor_20 rfl hl (by decide) rfl (fun ls hl => ?_)
    refine lv_iconst (v := 0) hx hb dX9_doesFor_21 (by decide) ?_
    refine lv_istore (lv' := [(4, .int 0), (3, .int t_17), (0, .ref x20), (1, .int a1), (2, .int a2)]) hx hb dX9_doesFor_22 hl (by decide) rfl (fun ls hl => ?_)
    have L_24 : ∀ (n_24 : Nat) (v4_24 : Int32), (2147483648 - v4_24.toInt).toNat < n_24 → TT = m_k_X9_doesFor_24 an ch c1 c2 c3 c4 ac a1 a2 t_17 n_24 v4_24 → 0 ≤ v4_24.toInt → ∀ (H : Heap) (locs : List Loc), va_P D vwCl ([(x1, .inr (8, [.ref x2, .int pn, .ref x3, .int rn, .ref x4, .ref x5, .int tn, .ref x6, .ref x7, .int en])), (x3, .inl (ty 4, 20, .inr (.inr (.inr (.inr rf))))), (x20, .inr (11, [.ref x1, .ref x8, .ref x21, .ref x28, .ref x35, .int an, .ref x36, .ref x37, .ref x38, .int ch, .int cg, .int fb, .int mh, .int ml, .int ih, .int lb, .int ic])), (x21, .inr (9, [.ref x22, .ref x23, .ref x24, .ref x25, .ref x26, .ref x27, .int cn])), (x22, .inl (ty 0, 300, .inl c1)), (x23, .inl (ty 0, 300, .inl c2)), (x24, .inl (ty 0, 300, .inl c3)), (x25, .inl (ty 0, 300, .inl c4)), (x35, .inl (ty 0, 300, .inl ac)), (x36, .inl (ty 0, 6, .inl obi)), (x37, .inl (ty 0, 6, .inl sc))] ++ pw ty pp) H → va_D A ([(x1, .inr (8, [.ref x2, .int pn, .ref x3, .int rn, .ref x4, .ref x5, .int tn, .ref x6, .ref x7, .int en])), (x3, .inl (ty 4, 20, .inr (.inr (.inr (.inr rf))))), (x20, .inr (11, [.ref x1, .ref x8, .ref x21, .ref x28, .ref x35, .int an, .ref x36, .ref x37, .ref x38, .int ch, .int cg, .int fb, .int mh, .int ml, .int ih, .int lb, .int ic])), (x21, .inr (9, [.ref x22, .ref x23, .ref x24, .ref x25, .ref x26, .ref x27, .int cn])), (x22, .inl (ty 0, 300, .inl c1)), (x23, .inl (ty 0, 300, .inl c2)), (x24, .inl (ty 0, 300, .inl c3)), (x25, .inl (ty 0, 300, .inl c4)), (x35, .inl (ty 0, 300, .inl ac)), (x36, .inl (ty 0, 6, .inl obi)), (x37, .inl (ty 0, 6, .inl sc))] ++ pw ty pp) → va_S A s.heap H locs → ∀ ls : Array Slot, lv_has ls 8 [(0, .ref x20), (1, .int a1), (2, .int a2), (3, .int t_17), (4, .int v4_24)] → W p l e (headSpec vs_k_X9_doesFor { frames := 4, cells := 0, slots := 0, locals := 91 }).room s m ([.ref x20, .int a1, .int a2] : List Value).toArray below meth c H locs 0 0 (MQ below (va_Qi (fun (r : Int32) (u : va_W) => (r = TT ∧ (TT = 0 ∨ TT = 1) ∧ (u = ([(x1, .inr (8, [.ref x2, .int pn, .ref x3, .int rn, .ref x4, .ref x5, .int tn, .ref x6, .ref x7, .int en])), (x3, .inl (ty 4, 20, .inr (.inr (.inr (.inr rf))))), (x20, .inr (11, [.ref x1, .ref x8, .ref x21, .ref x28, .ref x35, .int an, .ref x36, .ref x37, .ref x38, .int ch, .int cg, .int fb, .int mh, .int ml, .int ih, .int lb, .int ic])), (x21, .inr (9, [.ref x22, .ref x23, .ref x24, .ref x25, .ref x26, .ref x27, .int cn])), (x22, .inl (ty 0, 300, .inl c1)), (x23, .inl (ty 0, 300, .inl c2)), (x24, .inl (ty 0, 300, .inl c3)), (x25, .inl (ty 0, 300, .inl c4)), (x35, .inl (ty 0, 300, .inl ac)), (x36, .inl (ty 0, 6, .inl obi)), (x37, .inl (ty 0, 6, .inl sc))] ++ pw ty pp)))) (wq_B D A) A) ([.ref x20, .int a1, .int a2] : List Value).toArray s 0 0 A) (F0 m 24 ls []) := by
      intro n_24
      induction n_24 with
      | zero => intro v4_24 hu; exact absurd hu (Nat.not_lt_zero _)
      | succ n_24 ih_24 =>
        intro v4_24 hu_24 hT hn_24 H locs hP hD hS ls hl
        rw [m_k_X9_doesFor_24_succ, m_k_X9_doesFor_24s] at hT
        refine lv_iload hx hb dX9_doesFor_24 (lv_at hl 4 rfl) ?_
        refine lv_aload_n hx hb dX9_doesFor_26 rfl (lv_at hl 0 rfl) ?_
        refine va_get (D := D) (ci := 11) (v := .int an) (C := RX9) (T := TX9) (N := 17) hx hb hts iv_k_X9_doesFor_X9 hown hK hP 2 rfl rfl 5 (by decide) (hts (.fieldLink RX9 276 "AnswerFold$Solver" "activeCount" "I") (by decide +kernel)) (fun _ h9 => h9) rfl dX9_doesFor_27 ?_
        refine lv_icmp_ge (tgt := 130) hx hb dX9_doesFor_30 (by decide) (fun c_4 => ?_) (fun c_4 => ?_)
        · rw [if_pos c_4] at hT
          refine lv_iconst (v := 1) hx hb dX9_doesFor_130 (by decide) ?_
          exact END 1 hT (by decide) _ _ hP hD hS _ _ dX9_doesFor_131
        · rw [if_neg c_4] at hT
          refine lv_iload hx hb dX9_doesFor_33 (lv_at hl 4 rfl) ?_
          refine lv_sipush (v := 300) hx hb dX9_doesFor_35 (by decide) ?_
          refine lv_icmp_ge (tgt := 130) hx hb dX9_doesFor_38 (by decide) (fun c_5 => ?_) (fun c_5 => ?_)
          · rw [if_pos c_5] at hT
            refine lv_iconst (v := 1) hx hb dX9_doesFor_130 (by decide) ?_
            exact END 1 hT (by decide) _ _ hP hD hS _ _ dX9_doesFor_131
          · rw [if_neg c_5] at hT
            refine lv_aload_n hx hb dX9_doesFor_41 rfl (lv_at hl 0 rfl) ?_
            refine va_get (D := D) (ci := 11) (v := .ref x35) (C := RX9) (T := TX9) (N := 17) hx hb hts iv_k_X9_doesFor_X9 hown hK hP 2 rfl rfl 4 (by decide) (hts (.fieldLink RX9 21 "AnswerFold$Solver" "active" "[I") (by decide +kernel)) (fun _ h9 => h9) rfl dX9_doesFor_42 ?_
            refine lv_iload hx hb dX9_doesFor_45 (lv_at hl 4 rfl) ?_
            refine va_iald (D := D) hx hb hK hP 8 0 rfl rfl (wi_in hn_24 (wi_hi c_5 (by decide))) dX9_doesFor_47 ?_
            refine lv_istore (lv' := [(5, .int (ac v4_24.toNatClampNeg)), (0, .ref x20), (1, .int a1), (2, .int a2), (3, .int t_17), (4, .int v4_24)]) hx hb dX9_doesFor_48 hl (by decide) rfl (fun ls hl => ?_)
            refine lv_aload_n hx hb dX9_doesFor_50 rfl (lv_at hl 1 rfl) ?_
            refine va_get (D := D) (ci := 11) (v := .ref x21) (C := RX9) (T := TX9) (N := 17) hx hb hts iv_k_X9_doesFor_X9 hown hK hP 2 rfl rfl 2 (by decide) (hts (.fieldLink RX9 12 "AnswerFold$Solver" "checks" "LAnswerFold$Rows;") (by decide +kernel)) (fun _ h9 => h9) rfl dX9_doesFor_51 ?_
            refine lv_iload hx hb dX9_doesFor_54 (lv_at hl 0 rfl) ?_
            obtain ⟨t_56, ht_56⟩ : ∃ t, t = m_k_X7_headsAt c4 (ac v4_24.toNatClampNeg) := ⟨_, rfl⟩
            rw [lE_eq ht_56] at hT
            refine wq_iQ (wc := [(x21, .inr (9, [.ref x22, .ref x23, .ref x24, .ref x25, .ref x26, .ref x27, .int cn])), (x25, .inl (ty 0, 300, .inl c4))]) (wr := [(x1, .inr (8, [.ref x2, .int pn, .ref x3, .int rn, .ref x4, .ref x5, .int tn, .ref x6, .ref x7, .int en])), (x3, .inl (ty 4, 20, .inr (.inr (.inr (.inr rf))))), (x20, .inr (11, [.ref x1, .ref x8, .ref x21, .ref x28, .ref x35, .int an, .ref x36, .ref x37, .ref x38, .int ch, .int cg, .int fb, .int mh, .int ml, .int ih, .int lb, .int ic])), (x22, .inl (ty 0, 300, .inl c1)), (x23, .inl (ty 0, 300, .inl c2)), (x24, .inl (ty 0, 300, .inl c3)), (x35, .inl (ty 0, 300, .inl ac)), (x36, .inl (ty 0, 6, .inl obi)), (x37, .inl (ty 0, 6, .inl sc))]) (pl := pw ty pp) (va_runV (As := [.int (ac v4_24.toNatClampNeg)]) (rest := []) ⟨hx, hb, hml, hown, hts⟩ (k_X7_headsAt l D ty td mi H.size x21 x22 x23 x24 x25 x26 x27 cn c4 (ac v4_24.toNatClampNeg) t_56 ht_56) (cwV 1 hts gv_k_X9_doesFor_1 rfl rfl rfl (by decide +kernel) ⟨(Nat.le_of_ble_eq_true rfl), (Nat.le_of_ble_eq_true rfl)⟩) ⟨(wq_preS (vP_left hP) (vD_left hD) hK hE hS hA [3, 7] rfl (by decide) (As := .ref x21 :: [.int (ac v4_24.toNatClampNeg)])).1, va_recv (q0 := 3) (ci := 9) hK hP rfl rfl, (wq_preS (vP_left hP) (vD_left hD) hK hE hS hA [3, 7] rfl (by decide) (As := .ref x21 :: [.int (ac v4_24.toNatClampNeg)])).2⟩ rfl rfl hl.1 rfl (lv_room (Nat.le_of_ble_eq_true rfl)) dX9_doesFor_56 ⟨(Nat.le_of_ble_eq_true rfl), (Nat.le_of_ble_eq_true rfl)⟩) hS hA hP hD [3, 7] [0, 1, 2, 4, 5, 6, 8, 9, 10] rfl rfl (by decide) (by decide) (fun r u H locs hw hP hD hS => ?_)
            obtain ⟨hr0, rfl⟩ := hw
            subst r
            have hP : va_P D vwCl ([(x1, .inr (8, [.ref x2, .int pn, .ref x3, .int rn, .ref x4, .ref x5, .int tn, .ref x6, .ref x7, .int en])), (x3, .inl (ty 4, 20, .inr (.inr (.inr (.inr rf))))), (x20, .inr (11, [.ref x1, .ref x8, .ref x21, .ref x28, .ref x35, .int an, .ref x36, .ref x37, .ref x38, .int ch, .int cg, .int fb, .int mh, .int ml, .int ih, .int lb, .int ic])), (x22, .inl (ty 0, 300, .inl c1)), (x23, .inl (ty 0, 300, .inl c2)), (x24, .inl (ty 0, 300, .inl c3)), (x35, .inl (ty 0, 300, .inl ac)), (x36, .inl (ty 0, 6, .inl obi)), (x37, .inl (ty 0, 6, .inl sc)), (x21, .inr (9, [.ref x22, .ref x23, .ref x24, .ref x25, .ref x26, .ref x27, .int cn])), (x25, .inl (ty 0, 300, .inl c4))] ++ pw ty pp) H := hP
            have hD : va_D A ([(x1, .inr (8, [.ref x2, .int pn, .ref x3, .int rn, .ref x4, .ref x5, .int tn, .ref x6, .ref x7, .int en])), (x3, .inl (ty 4, 20, .inr (.inr (.inr (.inr rf))))), (x20, .inr (11, [.ref x1, .ref x8, .ref x21, .ref x28, .ref x35, .int an, .ref x36, .ref x37, .ref x38, .int ch, .int cg, .int fb, .int mh, .int ml, .int ih, .int lb, .int ic])), (x22, .inl (ty 0, 300, .inl c1)), (x23, .inl (ty 0, 300, .inl c2)), (x24, .inl (ty 0, 300, .inl c3)), (x35, .inl (ty 0, 300, .inl ac)), (x36, .inl (ty 0, 6, .inl obi)), (x37, .inl (ty 0, 6, .inl sc)), (x21, .inr (9, [.ref x22, .ref x23, .ref x24, .ref x25, .ref x26, .ref x27, .int cn])), (x25, .inl (ty 0, 300, .inl c4))] ++ pw ty pp) := hD
            refine W.widen (k := 0) (n := 0) (Nat.le_of_ble_eq_true rfl) (Nat.le_of_ble_eq_true rfl) ?_
            refine lv_iload_n hx hb dX9_doesFor_59 rfl (lv_at hl 3 rfl) ?_
            refine lv_iand hx hb dX9_doesFor_60 ?_
            refine lv_istore (lv' := [(6, .int (t_56 &&& a2)), (5, .int (ac v4_24.toNatClampNeg)), (0, .ref x20), (1, .int a1), (2, .int a2), (3, .int t_17), (4, .int v4_24)]) hx hb dX9_doesFor_61 hl (by decide) rfl (fun ls hl => ?_)
            refine lv_aload_n hx hb dX9_doesFor_63 rfl (lv_at hl 2 rfl) ?_
            refine lv_iload hx hb dX9_doesFor_64 (lv_at hl 1 rfl) ?_
            obtain ⟨t_66, ht_66⟩ : ∃ t, t = m_k_X9_isChoice ch c1 (ac v4_24.toNatClampNeg) := ⟨_, rfl⟩
            rw [lE_eq ht_66] at hT
            refine wq_iQ (wc := [(x20, .inr (11, [.ref x1, .ref x8, .ref x21, .ref x28, .ref x35, .int an, .ref x36, .ref x37, .ref x38, .int ch, .int cg, .int fb, .int mh, .int ml, .int ih, .int lb, .int ic])), (x21, .inr (9, [.ref x22, .ref x23, .ref x24, .ref x25, .ref x26, .ref x27, .int cn])), (x22, .inl (ty 0, 300, .inl c1))]) (wr := [(x1, .inr (8, [.ref x2, .int pn, .ref x3, .int rn, .ref x4, .ref x5, .int tn, .ref x6, .ref x7, .int en])), (x3, .inl (ty 4, 20, .inr (.inr (.inr (.inr rf))))), (x23, .inl (ty 0, 300, .inl c2)), (x24, .inl (ty 0, 300, .inl c3)), (x35, .inl (ty 0, 300, .inl ac)), (x36, .inl (ty 0, 6, .inl obi)), (x37, .inl (ty 0, 6, .inl sc)), (x25, .inl (ty 0, 300, .inl c4))]) (pl := pw ty pp) (va_runV (As := [.int (ac v4_24.toNatClampNeg)]) (rest := []) ⟨hx, hb, hml, hown, hts⟩ (k_X9_isChoice l D ty td mi H.size x20 x1 x8 x21 x28 x35 an x36 x37 x38 ch cg fb mh ml ih lb ic x22 x23 x24 x25 x26 x27 cn c1 (ac v4_24.toNatClampNeg) t_66 ht_66) (cwV 1 hts gv_k_X9_doesFor_2 rfl rfl rfl (by decide +kernel) ⟨(Nat.le_of_ble_eq_true rfl), (Nat.le_of_ble_eq_true rfl)⟩) ⟨(wq_preS (vP_left hP) (vD_left hD) hK hE hS hA [2, 9, 3] rfl (by decide) (As := .ref x20 :: [.int (ac v4_24.toNatClampNeg)])).1, va_recv (q0 := 2) (ci := 11) hK hP rfl rfl, (wq_preS (vP_left hP) (vD_left hD) hK hE hS hA [2, 9, 3] rfl (by decide) (As := .ref x20 :: [.int (ac v4_24.toNatClampNeg)])).2⟩ rfl rfl hl.1 rfl (lv_room (Nat.le_of_ble_eq_true rfl)) dX9_doesFor_66 ⟨(Nat.le_of_ble_eq_true rfl), (Nat.le_of_ble_eq_true rfl)⟩) hS hA hP hD [2, 9, 3] [0, 1, 4, 5, 6, 7, 8, 10] rfl rfl (by decide) (by decide) (fun r u H locs hw hP hD hS => ?_)
            obtain ⟨hr0, c_10, rfl⟩ := hw
            subst r
            have hP : va_P D vwCl ([(x1, .inr (8, [.ref x2, .int pn, .ref x3, .int rn, .ref x4, .ref x5, .int tn, .ref x6, .ref x7, .int en])), (x3, .inl (ty 4, 20, .inr (.inr (.inr (.inr rf))))), (x23, .inl (ty 0, 300, .inl c2)), (x24, .inl (ty 0, 300, .inl c3)), (x35, .inl (ty 0, 300, .inl ac)), (x36, .inl (ty 0, 6, .inl obi)), (x37, .inl (ty 0, 6, .inl sc)), (x25, .inl (ty 0, 300, .inl c4)), (x20, .inr (11, [.ref x1, .ref x8, .ref x21, .ref x28, .ref x35, .int an, .ref x36, .ref x37, .ref x38, .int ch, .int cg, .int fb, .int mh, .int ml, .int ih, .int lb, .int ic])), (x21, .inr (9, [.ref x22, .ref x23, .ref x24, .ref x25, .ref x26, .ref x27, .int cn])), (x22, .inl (ty 0, 300, .inl c1))] ++ pw ty pp) H := hP
            have hD : va_D A ([(x1, .inr (8, [.ref x2, .int pn, .ref x3, .int rn, .ref x4, .ref x5, .int tn, .ref x6, .ref x7, .int en])), (x3, .inl (ty 4, 20, .inr (.inr (.inr (.inr rf))))), (x23, .inl (ty 0, 300, .inl c2)), (x24, .inl (ty 0, 300, .inl c3)), (x35, .inl (ty 0, 300, .inl ac)), (x36, .inl (ty 0, 6, .inl obi)), (x37, .inl (ty 0, 6, .inl sc)), (x25, .inl (ty 0, 300, .inl c4)), (x20, .inr (11, [.ref x1, .ref x8, .ref x21, .ref x28, .ref x35, .int an, .ref x36, .ref x37, .ref x38, .int ch, .int cg, .int fb, .int mh, .int ml, .int ih, .int lb, .int ic])), (x21, .inr (9, [.ref x22, .ref x23, .ref x24, .ref x25, .ref x26, .ref x27, .int cn])), (x22, .inl (ty 0, 300, .inl c1))] ++ pw ty pp) := hD
            refine W.widen (k := 0) (n := 0) (Nat.le_of_ble_eq_true rfl) (Nat.le_of_ble_eq_true rfl) ?_
            have J_101 : ∀ (s0_101 : Int32), TT = m_k_X9_doesFor_101 c1 c2 c3 ac a1 (m_k_X9_doesFor_24 an ch c1 c2 c3 c4 ac a1 a2 t_17 n_24) t_17 v4_24 s0_101 → s0_101 = 0 ∨ s0_101 = 1 → ∀ (H : Heap) (locs : List Loc), va_P D vwCl ([(x1, .inr (8, [.ref x2, .int pn, .ref x3, .int rn, .ref x4, .ref x5, .int tn, .ref x6, .ref x7, .int en])), (x3, .inl (ty 4, 20, .inr (.inr (.inr (.inr rf))))), (x20, .inr (11, [.ref x1, .ref x8, .ref x21, .ref x28, .ref x35, .int an, .ref x36, .ref x37, .ref x38, .int ch, .int cg, .int fb, .int mh, .int ml, .int ih, .int lb, .int ic])), (x21, .inr (9, [.ref x22, .ref x23, .ref x24, .ref x25, .ref x26, .ref x27, .int cn])), (x22, .inl (ty 0, 300, .inl c1)), (x23, .inl (ty 0, 300, .inl c2)), (x24, .inl (ty 0, 300, .inl c3)), (x25, .inl (ty 0, 300, .inl c4)), (x35, .inl (ty 0, 300, .inl ac)), (x36, .inl (ty 0, 6, .inl obi)), (x37, .inl (ty 0, 6, .inl sc))] ++ pw ty pp) H → va_D A ([(x1, .inr (8, [.ref x2, .int pn, .ref x3, .int rn, .ref x4, .ref x5, .int tn, .ref x6, .ref x7, .int en])), (x3, .inl (ty 4, 20, .inr (.inr (.inr (.inr rf))))), (x20, .inr (11, [.ref x1, .ref x8, .ref x21, .ref x28, .ref x35, .int an, .ref x36, .ref x37, .ref x38, .int ch, .int cg, .int fb, .int mh, .int ml, .int ih, .int lb, .int ic])), (x21, .inr (9, [.ref x22, .ref x23, .ref x24, .ref x25, .ref x26, .ref x27, .int cn])), (x22, .inl (ty 0, 300, .inl c1)), (x23, .inl (ty 0, 300, .inl c2)), (x24, .inl (ty 0, 300, .inl c3)), (x25, .inl (ty 0, 300, .inl c4)), (x35, .inl (ty 0, 300, .inl ac)), (x36, .inl (ty 0, 6, .inl obi)), (x37, .inl (ty 0, 6, .inl sc))] ++ pw ty pp) → va_S A s.heap H locs → ∀ ls : Array Slot, lv_has ls 8 [(0, .ref x20), (1, .int a1), (2, .int a2), (3, .int t_17), (4, .int v4_24), (5, .int (ac v4_24.toNatClampNeg))] → W p l e (headSpec vs_k_X9_doesFor { frames := 4, cells := 0, slots := 0, locals := 91 }).room s m ([.ref x20, .int a1, .int a2] : List Value).toArray below meth c H locs 0 0 (MQ below (va_Qi (fun (r : Int32) (u : va_W) => (r = TT ∧ (TT = 0 ∨ TT = 1) ∧ (u = ([(x1, .inr (8, [.ref x2, .int pn, .ref x3, .int rn, .ref x4, .ref x5, .int tn, .ref x6, .ref x7, .int en])), (x3, .inl (ty 4, 20, .inr (.inr (.inr (.inr rf))))), (x20, .inr (11, [.ref x1, .ref x8, .ref x21, .ref x28, .ref x35, .int an, .ref x36, .ref x37, .ref x38, .int ch, .int cg, .int fb, .int mh, .int ml, .int ih, .int lb, .int ic])), (x21, .inr (9, [.ref x22, .ref x23, .ref x24, .ref x25, .ref x26, .ref x27, .int cn])), (x22, .inl (ty 0, 300, .inl c1)), (x23, .inl (ty 0, 300, .inl c2)), (x24, .inl (ty 0, 300, .inl c3)), (x25, .inl (ty 0, 300, .inl c4)), (x35, .inl (ty 0, 300, .inl ac)), (x36, .inl (ty 0, 6, .inl obi)), (x37, .inl (ty 0, 6, .inl sc))] ++ pw ty pp)))) (wq_B D A) A) ([.ref x20, .int a1, .int a2] : List Value).toArray s 0 0 A) (F0 m 101 ls [.int s0_101]) := by
              intro s0_101 hT hb_s0_101 H locs hP hD hS ls hl
              rw [m_k_X9_doesFor_101] at hT
              refine lv_istore (lv' := [(7, .int s0_101), (0, .ref x20), (1, .int a1), (2, .int a2), (3, .int t_17), (4, .int v4_24), (5, .int (ac v4_24.toNatClampNeg))]) hx hb dX9_doesFor_101 hl (by decide) rfl (fun ls hl => ?_)
              refine lv_iload hx hb dX9_doesFor_103 (lv_at hl 0 rfl) ?_
              have J_124 : ∀ (_ : Unit), TT = m_k_X9_doesFor_124 (m_k_X9_doesFor_24 an ch c1 c2 c3 c4 ac a1 a2 t_17 n_24) v4_24 → ∀ (H : Heap) (locs : List Loc), va_P D vwCl ([(x1, .inr (8, [.ref x2, .int pn, .ref x3, .int rn, .ref x4, .ref x5, .int tn, .ref x6, .ref x7, .int en])), (x3, .inl (ty 4, 20, .inr (.inr (.inr (.inr rf))))), (x20, .inr (11, [.ref x1, .ref x8, .ref x21, .ref x28, .ref x35, .int an, .ref x36, .ref x37, .ref x38, .int ch, .int cg, .int fb, .int mh, .int ml, .int ih, .int lb, .int ic])), (x21, .inr (9, [.ref x22, .ref x23, .ref x24, .ref x25, .ref x26, .ref x27, .int cn])), (x22, .inl (ty 0, 300, .inl c1)), (x23, .inl (ty 0, 300, .inl c2)), (x24, .inl (ty 0, 300, .inl c3)), (x25, .inl (ty 0, 300, .inl c4)), (x35, .inl (ty 0, 300, .inl ac)), (x36, .inl (ty 0, 6, .inl obi)), (x37, .inl (ty 0, 6, .inl sc))] ++ pw ty pp) H → va_D A ([(x1, .inr (8, [.ref x2, .int pn, .ref x3, .int rn, .ref x4, .ref x5, .int tn, .ref x6, .ref x7, .int en])), (x3, .inl (ty 4, 20, .inr (.inr (.inr (.inr rf))))), (x20, .inr (11, [.ref x1, .ref x8, .ref x21, .ref x28, .ref x35, .int an, .ref x36, .ref x37, .ref x38, .int ch, .int cg, .int fb, .int mh, .int ml, .int ih, .int lb, .int ic])), (x21, .inr (9, [.ref x22, .ref x23, .ref x24, .ref x25, .ref x26, .ref x27, .int cn])), (x22, .inl (ty 0, 300, .inl c1)), (x23, .inl (ty 0, 300, .inl c2)), (x24, .inl (ty 0, 300, .inl c3)), (x25, .inl (ty 0, 300, .inl c4)), (x35, .inl (ty 0, 300, .inl ac)), (x36, .inl (ty 0, 6, .inl obi)), (x37, .inl (ty 0, 6, .inl sc))] ++ pw ty pp) → va_S A s.heap H locs → ∀ ls : Array Slot, lv_has ls 8 [(0, .ref x20), (1, .int a1), (2, .int a2), (3, .int t_17), (4, .int v4_24)] → W p l e (headSpec vs_k_X9_doesFor { frames := 4, cells := 0, slots := 0, locals := 91 }).room s m ([.ref x20, .int a1, .int a2] : List Value).toArray below meth c H locs 0 0 (MQ below (va_Qi (fun (r : Int32) (u : va_W) => (r = TT ∧ (TT = 0 ∨ TT = 1) ∧ (u = ([(x1, .inr (8, [.ref x2, .int pn, .ref x3, .int rn, .ref x4, .ref x5, .int tn, .ref x6, .ref x7, .int en])), (x3, .inl (ty 4, 20, .inr (.inr (.inr (.inr rf))))), (x20, .inr (11, [.ref x1, .ref x8, .ref x21, .ref x28, .ref x35, .int an, .ref x36, .ref x37, .ref x38, .int ch, .int cg, .int fb, .int mh, .int ml, .int ih, .int lb, .int ic])), (x21, .inr (9, [.ref x22, .ref x23, .ref x24, .ref x25, .ref x26, .ref x27, .int cn])), (x22, .inl (ty 0, 300, .inl c1)), (x23, .inl (ty 0, 300, .inl c2)), (x24, .inl (ty 0, 300, .inl c3)), (x25, .inl (ty 0, 300, .inl c4)), (x35, .inl (ty 0, 300, .inl ac)), (x36, .inl (ty 0, 6, .inl obi)), (x37, .inl (ty 0, 6, .inl sc))] ++ pw ty pp)))) (wq_B D A) A) ([.ref x20, .int a1, .int a2] : List Value).toArray s 0 0 A) (F0 m 124 ls []) := by
                intro _ hT  H locs hP hD hS ls hl
                rw [m_k_X9_doesFor_124] at hT
                refine lv_iinc (v := v4_24 + 1) (lv' := [(4, .int (v4_24 + 1)), (0, .ref x20), (1, .int a1), (2, .int a2), (3, .int t_17)]) hx hb dX9_doesFor_124 hl (k := 4) rfl (by rfl) (by decide) rfl (fun ls hl => ?_)
                refine lv_goto (tgt := 24) hx hb dX9_doesFor_127 (by decide) ?_
                exact ih_24 (v4_24 + 1) (wi_up hu_24 (Int32.not_le.mp c_4)) hT (wi_inc hn_24 (Int32.not_le.mp c_4)) _ _ hP hD hS _ (lv_sub hl [1, 2, 3, 4, 0] rfl)
              refine lv_if_ne (tgt := 124) hx hb dX9_doesFor_105 (by decide) (fun c_11 => ?_) (fun c_11 => ?_)
              · rw [if_neg c_11] at hT
                exact J_124 () hT _ _ hP hD hS _ (lv_sub hl [1, 2, 3, 4, 5] rfl)
              · rw [if_pos c_11] at hT
                refine lv_aload_n hx hb dX9_doesFor_108 rfl (lv_at hl 1 rfl) ?_
                refine va_get (D := D) (ci := 11) (v := .ref x21) (C := RX9) (T := TX9) (N := 17) hx hb hts iv_k_X9_doesFor_X9 hown hK hP 2 rfl rfl 2 (by decide) (hts (.fieldLink RX9 12 "AnswerFold$Solver" "checks" "LAnswerFold$Rows;") (by decide +kernel)) (fun _ h9 => h9) rfl dX9_doesFor_109 ?_
                refine lv_iload hx hb dX9_doesFor_112 (lv_at hl 6 rfl) ?_
                refine lv_iload_n hx hb dX9_doesFor_114 rfl (lv_at hl 2 rfl) ?_
                refine lv_iload_n hx hb dX9_doesFor_115 rfl (lv_at hl 4 rfl) ?_
                obtain ⟨t_116, ht_116⟩ : ∃ t, t = m_k_X7_bodyHolds c1 c2 c3 (ac v4_24.toNatClampNeg) a1 t_17 := ⟨_, rfl⟩
                rw [lE_eq ht_116] at hT
                refine wq_iQ (wc := [(x21, .inr (9, [.ref x22, .ref x23, .ref x24, .ref x25, .ref x26, .ref x27, .int cn])), (x22, .inl (ty 0, 300, .inl c1)), (x23, .inl (ty 0, 300, .inl c2)), (x24, .inl (ty 0, 300, .inl c3))]) (wr := [(x1, .inr (8, [.ref x2, .int pn, .ref x3, .int rn, .ref x4, .ref x5, .int tn, .ref x6, .ref x7, .int en])), (x3, .inl (ty 4, 20, .inr (.inr (.inr (.inr rf))))), (x20, .inr (11, [.ref x1, .ref x8, .ref x21, .ref x28, .ref x35, .int an, .ref x36, .ref x37, .ref x38, .int ch, .int cg, .int fb, .int mh, .int ml, .int ih, .int lb, .int ic])), (x25, .inl (ty 0, 300, .inl c4)), (x35, .inl (ty 0, 300, .inl ac)), (x36, .inl (ty 0, 6, .inl obi)), (x37, .inl (ty 0, 6, .inl sc))]) (pl := pw ty pp) (va_runV (As := [.int (ac v4_24.toNatClampNeg), .int a1, .int t_17]) (rest := []) ⟨hx, hb, hml, hown, hts⟩ (k_X7_bodyHolds l D ty td mi H.size x21 x22 x23 x24 x25 x26 x27 cn c1 c2 c3 (ac v4_24.toNatClampNeg) a1 t_17 t_116 ht_116) (cwV 3 hts gv_k_X9_doesFor_3 rfl rfl rfl (by decide +kernel) ⟨(Nat.le_of_ble_eq_true rfl), (Nat.le_of_ble_eq_true rfl)⟩) ⟨(wq_preS (vP_left hP) (vD_left hD) hK hE hS hA [3, 4, 5, 6] rfl (by decide) (As := .ref x21 :: [.int (ac v4_24.toNatClampNeg), .int a1, .int t_17])).1, va_recv (q0 := 3) (ci := 9) hK hP rfl rfl, (wq_preS (vP_left hP) (vD_left hD) hK hE hS hA [3, 4, 5, 6] rfl (by decide) (As := .ref x21 :: [.int (ac v4_24.toNatClampNeg), .int a1, .int t_17])).2⟩ rfl rfl hl.1 rfl (lv_room (Nat.le_of_ble_eq_true rfl)) dX9_doesFor_116 ⟨(Nat.le_of_ble_eq_true rfl), (Nat.le_of_ble_eq_true rfl)⟩) hS hA hP hD [3, 4, 5, 6] [0, 1, 2, 7, 8, 9, 10] rfl rfl (by decide) (by decide) (fun r u H locs hw hP hD hS => ?_)
                obtain ⟨hr0, c_14, rfl⟩ := hw
                subst r
                have hP : va_P D vwCl ([(x1, .inr (8, [.ref x2, .int pn, .ref x3, .int rn, .ref x4, .ref x5, .int tn, .ref x6, .ref x7, .int en])), (x3, .inl (ty 4, 20, .inr (.inr (.inr (.inr rf))))), (x20, .inr (11, [.ref x1, .ref x8, .ref x21, .ref x28, .ref x35, .int an, .ref x36, .ref x37, .ref x38, .int ch, .int cg, .int fb, .int mh, .int ml, .int ih, .int lb, .int ic])), (x25, .inl (ty 0, 300, .inl c4)), (x35, .inl (ty 0, 300, .inl ac)), (x36, .inl (ty 0, 6, .inl obi)), (x37, .inl (ty 0, 6, .inl sc)), (x21, .inr (9, [.ref x22, .ref x23, .ref x24, .ref x25, .ref x26, .ref x27, .int cn])), (x22, .inl (ty 0, 300, .inl c1)), (x23, .inl (ty 0, 300, .inl c2)), (x24, .inl (ty 0, 300, .inl c3))] ++ pw ty pp) H := hP
                have hD : va_D A ([(x1, .inr (8, [.ref x2, .int pn, .ref x3, .int rn, .ref x4, .ref x5, .int tn, .ref x6, .ref x7, .int en])), (x3, .inl (ty 4, 20, .inr (.inr (.inr (.inr rf))))), (x20, .inr (11, [.ref x1, .ref x8, .ref x21, .ref x28, .ref x35, .int an, .ref x36, .ref x37, .ref x38, .int ch, .int cg, .int fb, .int mh, .int ml, .int ih, .int lb, .int ic])), (x25, .inl (ty 0, 300, .inl c4)), (x35, .inl (ty 0, 300, .inl ac)), (x36, .inl (ty 0, 6, .inl obi)), (x37, .inl (ty 0, 6, .inl sc)), (x21, .inr (9, [.ref x22, .ref x23, .ref x24, .ref x25, .ref x26, .ref x27, .int cn])), (x22, .inl (ty 0, 300, .inl c1)), (x23, .inl (ty 0, 300, .inl c2)), (x24, .inl (ty 0, 300, .inl c3))] ++ pw ty pp) := hD
                refine W.widen (k := 0) (n := 0) (Nat.le_of_ble_eq_true rfl) (Nat.le_of_ble_eq_true rfl) ?_
                refine lv_if_eq (tgt := 124) hx hb dX9_doesFor_119 (by decide) (fun c_15 => ?_) (fun c_15 => ?_)
                · rw [if_pos c_15] at hT
                  exact J_124 () hT _ _ (tP_sub hP [0, 1, 2, 7, 8, 9, 10, 3, 4, 5, 6] rfl) (tD_sub hD [0, 1, 2, 7, 8, 9, 10, 3, 4, 5, 6] (by decide) rfl) hS _ (lv_sub hl [1, 2, 3, 4, 5] rfl)
                · rw [if_neg c_15] at hT
                  refine lv_iconst (v := 0) hx hb dX9_doesFor_122 (by decide) ?_
                  exact END 0 hT (by decide) _ _ (tP_sub hP [0, 1, 2, 7, 8, 9, 10, 3, 4, 5, 6] rfl) (tD_sub hD [0, 1, 2, 7, 8, 9, 10, 3, 4, 5, 6] (by decide) rfl) hS _ _ dX9_doesFor_123
            refine lv_if_eq (tgt := 89) hx hb dX9_doesFor_69 (by decide) (fun c_16 => ?_) (fun c_16 => ?_)
            · rw [if_pos c_16] at hT
              refine lv_iload hx hb dX9_doesFor_89 (lv_at hl 0 rfl) ?_
              refine lv_iload_n hx hb dX9_doesFor_91 rfl (lv_at hl 3 rfl) ?_
              refine lv_iand hx hb dX9_doesFor_92 ?_
              refine lv_if_eq (tgt := 100) hx hb dX9_doesFor_93 (by decide) (fun c_17 => ?_) (fun c_17 => ?_)
              · rw [if_pos c_17] at hT
                refine lv_iconst (v := 0) hx hb dX9_doesFor_100 (by decide) ?_
                exact J_101 0 hT (by decide) _ _ (tP_sub hP [0, 1, 8, 9, 10, 2, 3, 7, 4, 5, 6] rfl) (tD_sub hD [0, 1, 8, 9, 10, 2, 3, 7, 4, 5, 6] (by decide) rfl) hS _ (lv_sub hl [2, 3, 4, 5, 6, 1] rfl)
              · rw [if_neg c_17] at hT
                refine lv_iconst (v := 1) hx hb dX9_doesFor_96 (by decide) ?_
                refine lv_goto (tgt := 101) hx hb dX9_doesFor_97 (by decide) ?_
                exact J_101 1 hT (by decide) _ _ (tP_sub hP [0, 1, 8, 9, 10, 2, 3, 7, 4, 5, 6] rfl) (tD_sub hD [0, 1, 8, 9, 10, 2, 3, 7, 4, 5, 6] (by decide) rfl) hS _ (lv_sub hl [2, 3, 4, 5, 6, 1] rfl)
            · rw [if_neg c_16] at hT
              refine lv_iload hx hb dX9_doesFor_72 (lv_at hl 0 rfl) ?_
              refine lv_iload_n hx hb dX9_doesFor_74 rfl (lv_at hl 3 rfl) ?_
              refine lv_iconst (v := (-1)) hx hb dX9_doesFor_75 (by decide) ?_
              refine lv_ixor hx hb dX9_doesFor_76 ?_
              refine lv_iand hx hb dX9_doesFor_77 ?_
              refine lv_if_ne (tgt := 85) hx hb dX9_doesFor_78 (by decide) (fun c_18 => ?_) (fun c_18 => ?_)
              · rw [if_neg c_18] at hT
                refine lv_iconst (v := 0) hx hb dX9_doesFor_85 (by decide) ?_
                refine lv_goto (tgt := 101) hx hb dX9_doesFor_86 (by decide) ?_
                exact J_101 0 hT (by decide) _ _ (tP_sub hP [0, 1, 8, 9, 10, 2, 3, 7, 4, 5, 6] rfl) (tD_sub hD [0, 1, 8, 9, 10, 2, 3, 7, 4, 5, 6] (by decide) rfl) hS _ (lv_sub hl [2, 3, 4, 5, 6, 1] rfl)
              · rw [if_pos c_18] at hT
                refine lv_iconst (v := 1) hx hb dX9_doesFor_81 (by decide) ?_
                refine lv_goto (tgt := 101) hx hb dX9_doesFor_82 (by decide) ?_
                exact J_101 1 hT (by decide) _ _ (tP_sub hP [0, 1, 8, 9, 10, 2, 3, 7, 4, 5, 6] rfl) (tD_sub hD [0, 1, 8, 9, 10, 2, 3, 7, 4, 5, 6] (by decide) rfl) hS _ (lv_sub hl [2, 3, 4, 5, 6, 1] rfl)
    exact L_24 wF 0 (wF_up 0) hT (by decide) _ _ (tP_sub hP [6, 7, 8, 0, 1, 2, 3, 4, 5, 9, 10] rfl) (tD_sub hD [6, 7, 8, 0, 1, 2, 3, 4, 5, 9, 10] (by decide) rfl) hS _ (lv_sub hl [2, 3, 4, 1, 0] rfl)
  · rw [if_neg c_1] at hT
    refine lv_iconst (v := 0) hx hb dX9_doesFor_13 (by decide) ?_
    exact END 0 hT (by decide) _ _ hP hD hS _ _ dX9_doesFor_14
