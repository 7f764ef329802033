theorem dX9_grow_0 : decode cX9_grow 0 = .ok (.iload_n 1, 1) := by decide +kernel
theorem dX9_grow_1 : decode cX9_grow 1 = .ok (.istore_n 3, 1) := by decide +kernel
theorem dX9_grow_2 : decode cX9_grow 2 = .ok (.iconst 1, 1) := by decide +kernel
theorem dX9_grow_3 : decode cX9_grow 3 = .ok (.istore 4, 2) := by decide +kernel
theorem dX9_grow_5 : decode cX9_grow 5 = .ok (.iconst 0, 1) := by decide +kernel
theorem dX9_grow_6 : decode cX9_grow 6 = .ok (.istore 5, 2) := by decide +kernel
theorem dX9_grow_8 : decode cX9_grow 8 = .ok (.iload 4, 2) := by decide +kernel
theorem dX9_grow_10 : decode cX9_grow 10 = .ok (.ifCond .eq 148, 3) := by decide +kernel
theorem dX9_grow_13 : decode cX9_grow 13 = .ok (.iload 5, 2) := by decide +kernel
theorem dX9_grow_15 : decode cX9_grow 15 = .ok (.sipush 1000, 3) := by decide +kernel
theorem dX9_grow_18 : decode cX9_grow 18 = .ok (.if_icmp .ge 140, 3) := by decide +kernel
theorem dX9_grow_21 : decode cX9_grow 21 = .ok (.iload_n 3, 1) := by decide +kernel
theorem dX9_grow_22 : decode cX9_grow 22 = .ok (.istore 6, 2) := by decide +kernel
theorem dX9_grow_24 : decode cX9_grow 24 = .ok (.aload_n 0, 1) := by decide +kernel
theorem dX9_grow_25 : decode cX9_grow 25 = .ok (.iload_n 3, 1) := by decide +kernel
theorem dX9_grow_26 : decode cX9_grow 26 = .ok (.invokevirtual 241, 3) := by decide +kernel
theorem dX9_grow_29 : decode cX9_grow 29 = .ok (.istore 7, 2) := by decide +kernel
theorem dX9_grow_31 : decode cX9_grow 31 = .ok (.iconst 0, 1) := by decide +kernel
theorem dX9_grow_32 : decode cX9_grow 32 = .ok (.istore 8, 2) := by decide +kernel
theorem dX9_grow_34 : decode cX9_grow 34 = .ok (.iload 8, 2) := by decide +kernel
theorem dX9_grow_36 : decode cX9_grow 36 = .ok (.aload_n 0, 1) := by decide +kernel
theorem dX9_grow_37 : decode cX9_grow 37 = .ok (.getfield 276, 3) := by decide +kernel
theorem dX9_grow_40 : decode cX9_grow 40 = .ok (.if_icmp .ge 99, 3) := by decide +kernel
theorem dX9_grow_43 : decode cX9_grow 43 = .ok (.iload 8, 2) := by decide +kernel
theorem dX9_grow_45 : decode cX9_grow 45 = .ok (.sipush 300, 3) := by decide +kernel
theorem dX9_grow_48 : decode cX9_grow 48 = .ok (.if_icmp .ge 91, 3) := by decide +kernel
theorem dX9_grow_51 : decode cX9_grow 51 = .ok (.aload_n 0, 1) := by decide +kernel
theorem dX9_grow_52 : decode cX9_grow 52 = .ok (.getfield 21, 3) := by decide +kernel
theorem dX9_grow_55 : decode cX9_grow 55 = .ok (.iload 8, 2) := by decide +kernel
theorem dX9_grow_57 : decode cX9_grow 57 = .ok (.iaload, 1) := by decide +kernel
theorem dX9_grow_58 : decode cX9_grow 58 = .ok (.istore 9, 2) := by decide +kernel
theorem dX9_grow_60 : decode cX9_grow 60 = .ok (.aload_n 0, 1) := by decide +kernel
theorem dX9_grow_61 : decode cX9_grow 61 = .ok (.getfield 12, 3) := by decide +kernel
theorem dX9_grow_64 : decode cX9_grow 64 = .ok (.iload 9, 2) := by decide +kernel
theorem dX9_grow_66 : decode cX9_grow 66 = .ok (.invokevirtual 279, 3) := by decide +kernel
theorem dX9_grow_69 : decode cX9_grow 69 = .ok (.iload_n 2, 1) := by decide +kernel
theorem dX9_grow_70 : decode cX9_grow 70 = .ok (.iand, 1) := by decide +kernel
theorem dX9_grow_71 : decode cX9_grow 71 = .ok (.istore 10, 2) := by decide +kernel
theorem dX9_grow_73 : decode cX9_grow 73 = .ok (.aload_n 0, 1) := by decide +kernel
theorem dX9_grow_74 : decode cX9_grow 74 = .ok (.iload 9, 2) := by decide +kernel
theorem dX9_grow_76 : decode cX9_grow 76 = .ok (.invokevirtual 287, 3) := by decide +kernel
theorem dX9_grow_79 : decode cX9_grow 79 = .ok (.ifCond .ne 13, 3) := by decide +kernel
theorem dX9_grow_82 : decode cX9_grow 82 = .ok (.iload 10, 2) := by decide +kernel
theorem dX9_grow_84 : decode cX9_grow 84 = .ok (.iload 10, 2) := by decide +kernel
theorem dX9_grow_86 : decode cX9_grow 86 = .ok (.iconst 1, 1) := by decide +kernel
theorem dX9_grow_87 : decode cX9_grow 87 = .ok (.isub, 1) := by decide +kernel
theorem dX9_grow_88 : decode cX9_grow 88 = .ok (.iand, 1) := by decide +kernel
theorem dX9_grow_89 : decode cX9_grow 89 = .ok (.ifCond .ne 7, 3) := by decide +kernel
theorem dX9_grow_92 : decode cX9_grow 92 = .ok (.iconst 1, 1) := by decide +kernel
theorem dX9_grow_93 : decode cX9_grow 93 = .ok (.goto 4, 3) := by decide +kernel
theorem dX9_grow_96 : decode cX9_grow 96 = .ok (.iconst 0, 1) := by decide +kernel
theorem dX9_grow_97 : decode cX9_grow 97 = .ok (.istore 11, 2) := by decide +kernel
theorem dX9_grow_99 : decode cX9_grow 99 = .ok (.iload 11, 2) := by decide +kernel
theorem dX9_grow_101 : decode cX9_grow 101 = .ok (.ifCond .eq 32, 3) := by decide +kernel
theorem dX9_grow_104 : decode cX9_grow 104 = .ok (.iload 10, 2) := by decide +kernel
theorem dX9_grow_106 : decode cX9_grow 106 = .ok (.iload_n 3, 1) := by decide +kernel
theorem dX9_grow_107 : decode cX9_grow 107 = .ok (.iconst (-1), 1) := by decide +kernel
theorem dX9_grow_108 : decode cX9_grow 108 = .ok (.ixor, 1) := by decide +kernel
theorem dX9_grow_109 : decode cX9_grow 109 = .ok (.iand, 1) := by decide +kernel
theorem dX9_grow_110 : decode cX9_grow 110 = .ok (.ifCond .eq 23, 3) := by decide +kernel
theorem dX9_grow_113 : decode cX9_grow 113 = .ok (.aload_n 0, 1) := by decide +kernel
theorem dX9_grow_114 : decode cX9_grow 114 = .ok (.getfield 12, 3) := by decide +kernel
theorem dX9_grow_117 : decode cX9_grow 117 = .ok (.iload 9, 2) := by decide +kernel
theorem dX9_grow_119 : decode cX9_grow 119 = .ok (.iload_n 3, 1) := by decide +kernel
theorem dX9_grow_120 : decode cX9_grow 120 = .ok (.iload 7, 2) := by decide +kernel
theorem dX9_grow_122 : decode cX9_grow 122 = .ok (.invokevirtual 282, 3) := by decide +kernel
theorem dX9_grow_125 : decode cX9_grow 125 = .ok (.ifCond .eq 8, 3) := by decide +kernel
theorem dX9_grow_128 : decode cX9_grow 128 = .ok (.iload_n 3, 1) := by decide +kernel
theorem dX9_grow_129 : decode cX9_grow 129 = .ok (.iload 10, 2) := by decide +kernel
theorem dX9_grow_131 : decode cX9_grow 131 = .ok (.ior, 1) := by decide +kernel
theorem dX9_grow_132 : decode cX9_grow 132 = .ok (.istore_n 3, 1) := by decide +kernel
theorem dX9_grow_133 : decode cX9_grow 133 = .ok (.iinc 8 1, 3) := by decide +kernel
theorem dX9_grow_136 : decode cX9_grow 136 = .ok (.goto (-102), 3) := by decide +kernel
theorem dX9_grow_139 : decode cX9_grow 139 = .ok (.iload_n 3, 1) := by decide +kernel
theorem dX9_grow_140 : decode cX9_grow 140 = .ok (.iload 6, 2) := by decide +kernel
theorem dX9_grow_142 : decode cX9_grow 142 = .ok (.if_icmp .eq 7, 3) := by decide +kernel
theorem dX9_grow_145 : decode cX9_grow 145 = .ok (.iconst 1, 1) := by decide +kernel
theorem dX9_grow_146 : decode cX9_grow 146 = .ok (.goto 4, 3) := by decide +kernel
theorem dX9_grow_149 : decode cX9_grow 149 = .ok (.iconst 0, 1) := by decide +kernel
theorem dX9_grow_150 : decode cX9_grow 150 = .ok (.istore 4, 2) := by decide +kernel
theorem dX9_grow_152 : decode cX9_grow 152 = .ok (.iinc 5 1, 3) := by decide +kernel
theorem dX9_grow_155 : decode cX9_grow 155 = .ok (.goto (-147), 3) := by decide +kernel
theorem dX9_grow_158 : decode cX9_grow 158 = .ok (.iload_n 3, 1) := by decide +kernel
theorem dX9_grow_159 : decode cX9_grow 159 = .ok (.ireturn, 1) := by decide +kernel
def wW_k_X9_grow (ty : Nat → ClassId) (X : Nat → Nat) (z9_0 : Int32) (z9_1 : Int32) (z9_2 : Int32) (z9_3 : Int32) (z9_4 : Nat → Option Nat) (z9_5 : Int32) (z9_6 : Int32) (z9_7 : Int32) (z9_8 : Int32) (z9_9 : Int32) (z9_10 : Int32) (z9_11 : Int32) (z9_12 : Int32) (z9_13 : Int32) (z9_14 : Int32) (z9_15 : Nat → Int32) (z9_16 : Nat → Int32) (z9_17 : Nat → Int32) (z9_18 : Nat → Int32) (z9_19 : Nat → Int32) (z9_20 : Nat → Int32) (z9_21 : Nat → Int32) : va_W := [((X 1), .inr (8, [.ref (X 2), .int z9_0, .ref (X 3), .int z9_1, .ref (X 4), .ref (X 5), .int z9_2, .ref (X 6), .ref (X 7), .int z9_3])), ((X 3), .inl (ty 4, 20, .inr (.inr (.inr (.inr z9_4))))), ((X 20), .inr (11, [.ref (X 1), .ref (X 8), .ref (X 21), .ref (X 28), .ref (X 35), .int z9_5, .ref (X 36), .ref (X 37), .ref (X 38), .int z9_6, .int z9_7, .int z9_8, .int z9_9, .int z9_10, .int z9_11, .int z9_12, .int z9_13])), ((X 21), .inr (9, [.ref (X 22), .ref (X 23), .ref (X 24), .ref (X 25), .ref (X 26), .ref (X 27), .int z9_14])), ((X 22), .inl (ty 0, 300, .inl z9_15)), ((X 23), .inl (ty 0, 300, .inl z9_16)), ((X 24), .inl (ty 0, 300, .inl z9_17)), ((X 25), .inl (ty 0, 300, .inl z9_18)), ((X 35), .inl (ty 0, 300, .inl z9_19)), ((X 36), .inl (ty 0, 6, .inl z9_20)), ((X 37), .inl (ty 0, 6, .inl z9_21))]
abbrev r_k_X9_grow : Type := Int32
def m_k_X9_grow_133 (rec_34 : Int32 → Int32 → r_k_X9_grow) (v8_34 : Int32) (v3_133 : Int32) : r_k_X9_grow :=
  rec_34 v3_133 (v8_34 + 1)
def m_k_X9_grow_97 (c1 : Nat → Int32) (c2 : Nat → Int32) (c3 : Nat → Int32) (ac : Nat → Int32) (a2 : Int32) (rec_34 : Int32 → Int32 → r_k_X9_grow) (t_26 : r_k_X9_countsHeld) (t_66 : r_k_X7_headsAt) (v3_34 : Int32) (v8_34 : Int32) (s0_97 : Int32) : r_k_X9_grow :=
  if s0_97 = 0 then
    m_k_X9_grow_133 rec_34 v8_34 v3_34
  else
    if ((t_66 &&& a2) &&& (v3_34 ^^^ (-1))) = 0 then
      m_k_X9_grow_133 rec_34 v8_34 v3_34
    else
      lE (m_k_X7_bodyHolds c1 c2 c3 (ac v8_34.toNatClampNeg) v3_34 t_26) (fun t_122 =>
        if t_122 = 0 then
          m_k_X9_grow_133 rec_34 v8_34 v3_34
        else
          m_k_X9_grow_133 rec_34 v8_34 (v3_34 ||| (t_66 &&& a2)))
def m_k_X9_grow_92 (c1 : Nat → Int32) (c2 : Nat → Int32) (c3 : Nat → Int32) (ac : Nat → Int32) (a2 : Int32) (rec_34 : Int32 → Int32 → r_k_X9_grow) (t_26 : r_k_X9_countsHeld) (t_66 : r_k_X7_headsAt) (v3_34 : Int32) (v8_34 : Int32) : r_k_X9_grow :=
  m_k_X9_grow_97 c1 c2 c3 ac a2 rec_34 t_26 t_66 v3_34 v8_34 1
def m_k_X9_grow_150 (rec_8 : Int32 → Int32 → Int32 → r_k_X9_grow) (v3_34 : Int32) (v5_8 : Int32) (s0_150 : Int32) : r_k_X9_grow :=
  rec_8 v3_34 s0_150 (v5_8 + 1)
def m_k_X9_grow_139 (rec_8 : Int32 → Int32 → Int32 → r_k_X9_grow) (v3_34 : Int32) (v3_8 : Int32) (v5_8 : Int32) : r_k_X9_grow :=
  if v3_34 = v3_8 then
    m_k_X9_grow_150 rec_8 v3_34 v5_8 0
  else
    m_k_X9_grow_150 rec_8 v3_34 v5_8 1
def m_k_X9_grow_34s (an : Int32) (ch : Int32) (c1 : Nat → Int32) (c2 : Nat → Int32) (c3 : Nat → Int32) (c4 : Nat → Int32) (ac : Nat → Int32) (a2 : Int32) (rec_8 : Int32 → Int32 → Int32 → r_k_X9_grow) (t_26 : r_k_X9_countsHeld) (v3_8 : Int32) (v5_8 : Int32) (rec_34 : Int32 → Int32 → r_k_X9_grow) (v3_34 : Int32) (v8_34 : Int32) : r_k_X9_grow :=
  if an ≤ v8_34 then
    m_k_X9_grow_139 rec_8 v3_34 v3_8 v5_8
  else
    if 300 ≤ v8_34 then
      m_k_X9_grow_139 rec_8 v3_34 v3_8 v5_8
    else
      lE (m_k_X7_headsAt c4 (ac v8_34.toNatClampNeg)) (fun t_66 =>
        lE (m_k_X9_isChoice ch c1 (ac v8_34.toNatClampNeg)) (fun t_76 =>
          if t_76 = 0 then
            if ((t_66 &&& a2) &&& ((t_66 &&& a2) - 1)) = 0 then
              m_k_X9_grow_92 c1 c2 c3 ac a2 rec_34 t_26 t_66 v3_34 v8_34
            else
              m_k_X9_grow_97 c1 c2 c3 ac a2 rec_34 t_26 t_66 v3_34 v8_34 0
          else
            m_k_X9_grow_92 c1 c2 c3 ac a2 rec_34 t_26 t_66 v3_34 v8_34))
def m_k_X9_grow_34 (an : Int32) (ch : Int32) (c1 : Nat → Int32) (c2 : Nat → Int32) (c3 : Nat → Int32) (c4 : Nat → Int32) (ac : Nat → Int32) (a2 : Int32) (rec_8 : Int32 → Int32 → Int32 → r_k_X9_grow) (t_26 : r_k_X9_countsHeld) (v3_8 : Int32) (v5_8 : Int32) : Nat → Int32 → Int32 → r_k_X9_grow
  | 0, _, _ => (0)
  | n + 1, v3_34, v8_34 => m_k_X9_grow_34s an ch c1 c2 c3 c4 ac a2 rec_8 t_26 v3_8 v5_8 (fun v3_34 v8_34 => m_k_X9_grow_34 an ch c1 c2 c3 c4 ac a2 rec_8 t_26 v3_8 v5_8 n v3_34 v8_34) v3_34 v8_34
theorem m_k_X9_grow_34_succ (an : Int32) (ch : Int32) (c1 : Nat → Int32) (c2 : Nat → Int32) (c3 : Nat → Int32) (c4 : Nat → Int32) (ac : Nat → Int32) (a2 : Int32) (rec_8 : Int32 → Int32 → Int32 → r_k_X9_grow) (t_26 : r_k_X9_countsHeld) (v3_8 : Int32) (v5_8 : Int32) (n : Nat) (v3_34 : Int32) (v8_34 : Int32) : m_k_X9_grow_34 an ch c1 c2 c3 c4 ac a2 rec_8 t_26 v3_8 v5_8 (n + 1) v3_34 v8_34 = m_k_X9_grow_34s an ch c1 c2 c3 c4 ac a2 rec_8 t_26 v3_8 v5_8 (m_k_X9_grow_34 an ch c1 c2 c3 c4 ac a2 rec_8 t_26 v3_8 v5_8 n) v3_34 v8_34 := rfl
def m_k_X9_grow_8s (pp : pT) (rn : Int32) (rf : Nat → Option Nat) (an : Int32) (ch : Int32) (cg : Int32) (c1 : Nat → Int32) (c2 : Nat → Int32) (c3 : Nat → Int32) (c4 : Nat → Int32) (ac : Nat → Int32) (obi : Nat → Int32) (sc : Nat → Int32) (a2 : Int32) (rec_8 : Int32 → Int32 → Int32 → r_k_X9_grow) (v3_8 : Int32) (v4_8 : Int32) (v5_8 : Int32) : r_k_X9_grow :=
  if v4_8 = 0 then
    v3_8
  else
    if 1000 ≤ v5_8 then
      v3_8
    else
      lE (m_k_X9_countsHeld pp rn rf cg obi sc v3_8) (fun t_26 =>
        m_k_X9_grow_34 an ch c1 c2 c3 c4 ac a2 rec_8 t_26 v3_8 v5_8 wF v3_8 0)
def m_k_X9_grow_8 (pp : pT) (rn : Int32) (rf : Nat → Option Nat) (an : Int32) (ch : Int32) (cg : Int32) (c1 : Nat → Int32) (c2 : Nat → Int32) (c3 : Nat → Int32) (c4 : Nat → Int32) (ac : Nat → Int32) (obi : Nat → Int32) (sc : Nat → Int32) (a2 : Int32) : Nat → Int32 → Int32 → Int32 → r_k_X9_grow
  | 0, _, _, _ => (0)
  | n + 1, v3_8, v4_8, v5_8 => m_k_X9_grow_8s pp rn rf an ch cg c1 c2 c3 c4 ac obi sc a2 (fun v3_8 v4_8 v5_8 => m_k_X9_grow_8 pp rn rf an ch cg c1 c2 c3 c4 ac obi sc a2 n v3_8 v4_8 v5_8) v3_8 v4_8 v5_8
theorem m_k_X9_grow_8_succ (pp : pT) (rn : Int32) (rf : Nat → Option Nat) (an : Int32) (ch : Int32) (cg : Int32) (c1 : Nat → Int32) (c2 : Nat → Int32) (c3 : Nat → Int32) (c4 : Nat → Int32) (ac : Nat → Int32) (obi : Nat → Int32) (sc : Nat → Int32) (a2 : Int32) (n : Nat) (v3_8 : Int32) (v4_8 : Int32) (v5_8 : Int32) : m_k_X9_grow_8 pp rn rf an ch cg c1 c2 c3 c4 ac obi sc a2 (n + 1) v3_8 v4_8 v5_8 = m_k_X9_grow_8s pp rn rf an ch cg c1 c2 c3 c4 ac obi sc a2 (m_k_X9_grow_8 pp rn rf an ch cg c1 c2 c3 c4 ac obi sc a2 n) v3_8 v4_8 v5_8 := rfl
def m_k_X9_grow (pp : pT) (rn : Int32) (rf : Nat → Option Nat) (an : Int32) (ch : Int32) (cg : Int32) (c1 : Nat → Int32) (c2 : Nat → Int32) (c3 : Nat → Int32) (c4 : Nat → Int32) (ac : Nat → Int32) (obi : Nat → Int32) (sc : Nat → Int32) (a1 : Int32) (a2 : Int32) : r_k_X9_grow :=
  m_k_X9_grow_8 pp rn rf an ch cg c1 c2 c3 c4 ac obi sc a2 wF a1 1 0
def vs_k_X9_grow : List Cond := .code yX9_grow cX9_grow 12 (some .int) :: ([.methodLink RX9 241 yX9_countsHeld, .instanceMethod yX9_countsHeld, .selects RX9 yX9_countsHeld yX9_countsHeld, .initialized RX9, .fieldLink RX9 276 "AnswerFold$Solver" "activeCount" "I", .fieldLink RX9 21 "AnswerFold$Solver" "active" "[I", .fieldLink RX9 12 "AnswerFold$Solver" "checks" "LAnswerFold$Rows;", .methodLink RX9 279 yX7_headsAt, .instanceMethod yX7_headsAt, .selects RX7 yX7_headsAt yX7_headsAt, .initialized RX7, .methodLink RX9 287 yX9_isChoice, .instanceMethod yX9_isChoice, .selects RX9 yX9_isChoice yX9_isChoice, .methodLink RX9 282 yX7_bodyHolds, .instanceMethod yX7_bodyHolds, .selects RX7 yX7_bodyHolds yX7_bodyHolds] ++ (vs_k_X9_countsHeld ++ (u_ws RX9 TX9 17 ++ (vs_k_X7_headsAt ++ (vs_k_X9_isChoice ++ (vs_k_X7_bodyHolds))))))
theorem iv_k_X9_grow_X9 : ∀ w ∈ u_ws RX9 TX9 17, w ∈ vs_k_X9_grow := (fun _ h => List.mem_cons_of_mem _ (List.mem_append_right _ (List.mem_append_right _ (List.mem_append_left _ h))))
set_option maxRecDepth 20000 in
theorem gv_k_X9_grow_0 : GoodIn vs_k_X9_grow (wsV RX9 241 RX9 yX9_countsHeld vs_k_X9_countsHeld) := goodIn_app (goodIn_sub (by decide +kernel) (by decide +kernel)) (goodIn_sub (fun _ h => List.mem_cons_of_mem _ (List.mem_append_right _ (List.mem_append_left _ h))) (by decide +kernel))
set_option maxRecDepth 20000 in
theorem gv_k_X9_grow_1 : GoodIn vs_k_X9_grow (wsV RX9 279 RX7 yX7_headsAt vs_k_X7_headsAt) := goodIn_app (goodIn_sub (by decide +kernel) (by decide +kernel)) (goodIn_sub (fun _ h => List.mem_cons_of_mem _ (List.mem_append_right _ (List.mem_append_right _ (List.mem_append_right _ (List.mem_append_left _ h))))) (by decide +kernel))
set_option maxRecDepth 20000 in
theorem gv_k_X9_grow_2 : GoodIn vs_k_X9_grow (wsV RX9 287 RX9 yX9_isChoice vs_k_X9_isChoice) := goodIn_app (goodIn_sub (by decide +kernel) (by decide +kernel)) (goodIn_sub (fun _ h => List.mem_cons_of_mem _ (List.mem_append_right _ (List.mem_append_right _ (List.mem_append_right _ (List.mem_append_right _ (List.mem_append_left _ h)))))) (by decide +kernel))
set_option maxRecDepth 20000 in
theorem gv_k_X9_grow_3 : GoodIn vs_k_X9_grow (wsV RX9 282 RX7 yX7_bodyHolds vs_k_X7_bodyHolds) := goodIn_app (goodIn_sub (by decide +kernel) (by decide +kernel)) (goodIn_sub (fun _ h => List.mem_cons_of_mem _ (List.mem_append_right _ (List.mem_append_right _ (List.mem_append_right _ (List.mem_append_right _ (List.mem_append_right _ (h))))))) (by decide +kernel))
set_option maxHeartbeats 4000000 in
set_option maxRecDepth 100000 in
theorem k_X9_grow (l : Launch) (D : va_G) (ty : Nat → ClassId) (td mi sz : Nat) (pp : pT) (X : Nat → Nat) (pn : Int32) (rn : Int32) (tn : Int32) (en : Int32) (rf : Nat → Option Nat) (an : Int32) (ch : Int32) (cg : Int32) (fb : Int32) (mh : Int32) (ml : Int32) (ih : Int32) (lb : Int32) (ic : Int32) (cn : Int32) (c1 : Nat → Int32) (c2 : Nat → Int32) (c3 : Nat → Int32) (c4 : Nat → Int32) (ac : Nat → Int32) (obi : Nat → Int32) (sc : Nat → Int32) (a1 : Int32) (a2 : Int32) (hok : pOK pp) (hru : ∀ (i a : Nat), rf i = some a → a ∈ pRA pp) (TT : r_k_X9_grow) (hTT : TT = m_k_X9_grow pp rn rf an ch cg c1 c2 c3 c4 ac obi sc a1 a2) : Met l yX9_grow vs_k_X9_grow { frames := 4, cells := 0, slots := 0, locals := 91 } (va_Pc [.ref (X 20), .int a1, .int a2] (wq_P D ty td mi ((wW_k_X9_grow ty X pn rn tn en rf an ch cg fb mh ml ih lb ic cn c1 c2 c3 c4 ac obi sc) ++ pw ty pp) sz)) (va_Qi (fun (r : Int32) (u : va_W) => (r = TT ∧ (u = ((wW_k_X9_grow ty X pn rn tn en rf an ch cg fb mh ml ih lb ic cn c1 c2 c3 c4 ac obi sc) ++ pw ty pp)))) (wq_B D (va_A ((wW_k_X9_grow ty X pn rn tn en rf an ch cg fb mh ml ih lb ic cn c1 c2 c3 c4 ac obi sc) ++ pw ty pp) sz)) (va_A ((wW_k_X9_grow ty X pn rn tn en rf an ch cg fb mh ml ih lb ic cn c1 c2 c3 c4 ac obi sc) ++ pw ty pp) sz)) 0 0 (va_A ((wW_k_X9_grow ty X pn rn tn en rf an ch cg fb mh ml ih lb ic cn c1 c2 c3 c4 ac obi sc) ++ pw ty pp) sz) := by
  refine Met.ofW (cc := cX9_grow) (maxL := 12) (ret := (some .int)) (by decide) rfl ?_
  intro p e s m args below meth c s₁ B hml hv
  obtain ⟨rfl, hsz, hP, hK, hD0, hE⟩ := hv
  have hx := B.exec
  have hb := B.bytes
  have hr := B.returns
  have hts := atoms_spec (ws := vs_k_X9_grow) B.pre
  have hown : s.vm.findClass RX9 = some m.cls := findClass_of_methodNamed B.named
  have hlocks := B.notSynchronized
  subst hsz
  have hD := hD0.self (sz := s.heap.size)
  generalize hAe : va_A ((wW_k_X9_grow ty X pn rn tn en rf an ch cg fb mh ml ih lb ic cn c1 c2 c3 c4 ac obi sc) ++ pw ty pp) s.heap.size = A at hD hE ⊢
  have hA : ∀ q : Nat, s.heap.size ≤ q → A q := fun q h => by rw [← hAe]; exact Or.inr h
  have hS : va_S A s.heap s.heap [] := va_S.rf
  have hP : va_P D vwCl ((wW_k_X9_grow ty X pn rn tn en rf an ch cg fb mh ml ih lb ic cn c1 c2 c3 c4 ac obi sc) ++ pw ty pp) s.heap := hP
  have hl := lv_entry ([.ref (X 20), .int a1, .int a2]) (n := 12) (Nat.le_of_ble_eq_true rfl)
  rw [lg_entry_eq]
  generalize (lg_sl ([.ref (X 20), .int a1, .int a2]) ++ List.replicate (12 - (lg_sl ([.ref (X 20), .int a1, .int a2])).length) Slot.unset).toArray = ls at hl ⊢
  have hl : lv_has ls 12 [(0, .ref (X 20)), (1, .int a1), (2, .int a2)] := hl
  have END : ∀ (r : Int32), TT = r → ∀ (H : Heap) (locs : List Loc), va_P D vwCl ((wW_k_X9_grow ty X pn rn tn en rf an ch cg fb mh ml ih lb ic cn c1 c2 c3 c4 ac obi sc) ++ pw ty pp) H → va_D A ((wW_k_X9_grow ty X pn rn tn en rf an ch cg fb mh ml ih lb ic cn c1 c2 c3 c4 ac obi sc) ++ pw ty pp) → va_S A s.heap H locs → ∀ (ls : Array Slot) (pc : Nat), decode cX9_grow pc = .ok (.ireturn, 1) → W p l e (headSpec vs_k_X9_grow { frames := 4, cells := 0, slots := 0, locals := 91 }).room s m ([.ref (X 20), .int a1, .int a2] : List Value).toArray below meth c H locs 0 0 (MQ below (va_Qi (fun (r : Int32) (u : va_W) => (r = TT ∧ (u = ((wW_k_X9_grow ty X pn rn tn en rf an ch cg fb mh ml ih lb ic cn c1 c2 c3 c4 ac obi sc) ++ pw ty pp)))) (wq_B D A) A) ([.ref (X 20), .int a1, .int a2] : List Value).toArray s 0 0 A) (F0 m pc ls [.int r]) := by
    intro r hT H locs hP hD hS ls pc hd
    have hM : TT = r := hT
    exact W.iret (v := r) hx hb hr (fun t ht hW => ⟨⟨r, ((wW_k_X9_grow ty X pn rn tn en rf an ch cg fb mh ml ih lb ic cn c1 c2 c3 c4 ac obi sc) ++ pw ty pp), rfl, ⟨(by rw [hM]), rfl⟩, wq_B.of ht hP hD⟩, hS.F ht⟩) hS.2.2 hd
  have hT := hTT
  rw [m_k_X9_grow] at hT
  refine lv_iload_n hx hb dX9_grow_0 rfl (lv_at hl 1 rfl) ?_
  refine lv_istore_n (lv' := [(3, .int a1), (0, .ref (X 20)), (1, .int a1), (2, .int a2)]) hx hb dX9_grow_1 rfl hl (by decide) rfl (fun ls hl => ?_)
  refine lv_iconst (v := 1) hx hb dX9_grow_2 (by decide) ?_
  refine lv_istore (lv' := [(4, .int 1), (3, .int a1), (0, .ref (X 20)), (1, .int a1), (2, .int a2)]) hx hb dX9_grow_3 hl (by decide) rfl (fun ls hl => ?_)
  refine lv_iconst (v := 0) hx hb dX9_grow_5 (by decide) ?_
  refine lv_istore (lv' := [(5, .int 0), (4, .int 1), (3, .int a1), (0, .ref (X 20)), (1, .int a1), (2, .int a2)]) hx hb dX9_grow_6 hl (by decide) rfl (fun ls hl => ?_)
  have L_8 : ∀ (n_8 : Nat) (v3_8 : Int32) (v4_8 : Int32) (v5_8 : Int32), (2147483648 - v5_8.toInt).toNat < n_8 → TT = m_k_X9_grow_8 pp rn rf an ch cg c1 c2 c3 c4 ac obi sc a2 n_8 v3_8 v4_8 v5_8 → 0 ≤ v5_8.toInt → v4_8 = 0 ∨ v4_8 = 1 → ∀ (H : Heap) (locs : List Loc), va_P D vwCl ((wW_k_X9_grow ty X pn rn tn en rf an ch cg fb mh ml ih lb ic cn c1 c2 c3 c4 ac obi sc) ++ pw ty pp) H → va_D A ((wW_k_X9_grow ty X pn rn tn en rf an ch cg fb mh ml ih lb ic cn c1 c2 c3 c4 ac obi sc) ++ pw ty pp) → va_S A s.heap H locs → ∀ ls : Array Slot, lv_has ls 12 [(0, .ref (X 20)), (2, .int a2), (3, .int v3_8), (4, .int v4_8), (5, .int v5_8)] → W p l e (headSpec vs_k_X9_grow { frames := 4, cells := 0, slots := 0, locals := 91 }).room s m ([.ref (X 20), .int a1, .int a2] : List Value).toArray below meth c H locs 0 0 (MQ below (va_Qi (fun (r : Int32) (u : va_W) => (r = TT ∧ (u = ((wW_k_X9_grow ty X pn rn tn en rf an ch cg fb mh ml ih lb ic cn c1 c2 c3 c4 ac obi sc) ++ pw ty pp)))) (wq_B D A) A) ([.ref (X 20), .int a1, .int a2] : List Value).toArray s 0 0 A) (F0 m 8 ls []) := by
    intro n_8
    induction n_8 with
    | zero => intro v3_8 v4_8 v5_8 hu; exact absurd hu (Nat.not_lt_zero _)
    | succ n_8 ih_8 =>
      intro v3_8 v4_8 v5_8 hu_8 hT hn_8 hb_v4_8 H locs hP hD hS ls hl
      rw [m_k_X9_grow_8_succ, m_k_X9_grow_8s] at hT
      refine lv_iload hx hb dX9_grow_8 (lv_at hl 3 rfl) ?_
      refine lv_if_eq (tgt := 158) hx hb dX9_grow_10 (by decide) (fun c_1 => ?_) (fun c_1 => ?_)
      · rw [if_pos c_1] at hT
        refine lv_iload_n hx hb dX9_grow_158 rfl (lv_at hl 2 rfl) ?_
        exact END v3_8 hT _ _ hP hD hS _ _ dX9_grow_159
      · rw [if_neg c_1] at hT
        refine lv_iload hx hb dX9_grow_13 (lv_at hl 4 rfl) ?_
        refine lv_sipush (v := 1000) hx hb dX9_grow_15 (by decide) ?_
        refine lv_icmp_ge (tgt := 158) hx hb dX9_grow_18 (by decide) (fun c_2 => ?_) (fun c_2 => ?_)
        · rw [if_pos c_2] at hT
          refine lv_iload_n hx hb dX9_grow_158 rfl (lv_at hl 2 rfl) ?_
          exact END v3_8 hT _ _ hP hD hS _ _ dX9_grow_159
        · rw [if_neg c_2] at hT
          refine lv_iload_n hx hb dX9_grow_21 rfl (lv_at hl 2 rfl) ?_
          refine lv_istore (lv' := [(6, .int v3_8), (0, .ref (X 20)), (2, .int a2), (3, .int v3_8), (4, .int v4_8), (5, .int v5_8)]) hx hb dX9_grow_22 hl (by decide) rfl (fun ls hl => ?_)
          refine lv_aload_n hx hb dX9_grow_24 rfl (lv_at hl 1 rfl) ?_
          refine lv_iload_n hx hb dX9_grow_25 rfl (lv_at hl 3 rfl) ?_
          obtain ⟨t_26, ht_26⟩ : ∃ t, t = m_k_X9_countsHeld pp rn rf cg obi sc v3_8 := ⟨_, rfl⟩
          rw [lE_eq ht_26] at hT
          refine wq_iPW (wc := (wW_k_X9_countsHeld ty X pn rn tn en rf an ch cg fb mh ml ih lb ic obi sc)) (pl := pw ty pp) (ux := (wW_k_X9_countsHeld ty X pn rn tn en rf an ch cg fb mh ml ih lb ic obi sc)) (va_runV (As := [.int v3_8]) (rest := []) ⟨hx, hb, hml, hown, hts⟩ (k_X9_countsHeld l D ty td mi H.size pp X pn rn tn en rf an ch cg fb mh ml ih lb ic obi sc v3_8 hok hru t_26 ht_26) (cwV 1 hts gv_k_X9_grow_0 rfl rfl rfl (by decide +kernel) ⟨(Nat.le_of_ble_eq_true rfl), (Nat.le_of_ble_eq_true rfl)⟩) (wm_V (wm_preSP hP hD hK hE hS hA [true, true, true, false, false, false, false, false, false, true, true] rfl) (va_recv (q0 := 2) (ci := 11) hK hP rfl rfl)) rfl rfl hl.1 rfl (lv_room (Nat.le_of_ble_eq_true rfl)) dX9_grow_26 ⟨(Nat.le_of_ble_eq_true rfl), (Nat.le_of_ble_eq_true rfl)⟩) hS hA hP hD [true, true, true, false, false, false, false, false, false, true, true] rfl rfl (fun _ _ h => h.2) (fun r H locs hw hP hD hS => ?_)
          obtain ⟨hr0, -⟩ := hw
          subst r
          have hP : va_P D vwCl ((wW_k_X9_grow ty X pn rn tn en rf an ch cg fb mh ml ih lb ic cn c1 c2 c3 c4 ac obi sc) ++ pw ty pp) H := hP
          have hD : va_D A ((wW_k_X9_grow ty X pn rn tn en rf an ch cg fb mh ml ih lb ic cn c1 c2 c3 c4 ac obi sc) ++ pw ty pp) := hD
          refine W.widen (k := 0) (n := 0) (Nat.le_of_ble_eq_true rfl) (Nat.le_of_ble_eq_true rfl) ?_
          refine lv_istore (lv' := [(7, .int t_26), (6, .int v3_8), (0, .ref (X 20)), (2, .int a2), (3, .int v3_8), (4, .int v4_8), (5, .int v5_8)]) hx hb dX9_grow_29 hl (by decide) rfl (fun ls hl => ?_)
          refine lv_iconst (v := 0) hx hb dX9_grow_31 (by decide) ?_
          refine lv_istore (lv' := [(8, .int 0), (7, .int t_26), (6, .int v3_8), (0, .ref (X 20)), (2, .int a2), (3, .int v3_8), (4, .int v4_8), (5, .int v5_8)]) hx hb dX9_grow_32 hl (by decide) rfl (fun ls hl => ?_)
          have L_34 : ∀ (n_34 : Nat) (v3_34 : Int32) (v8_34 : Int32), (2147483648 - v8_34.toInt).toNat < n_34 → TT = m_k_X9_grow_34 an ch c1 c2 c3 c4 ac a2 (m_k_X9_grow_8 pp rn rf an ch cg c1 c2 c3 c4 ac obi sc a2 n_8) t_26 v3_8 v5_8 n_34 v3_34 v8_34 → 0 ≤ v8_34.toInt → ∀ (H : Heap) (locs : List Loc), va_P D vwCl ((wW_k_X9_grow ty X pn rn tn en rf an ch cg fb mh ml ih lb ic cn c1 c2 c3 c4 ac obi sc) ++ pw ty pp) H → va_D A ((wW_k_X9_grow ty X pn rn tn en rf an ch cg fb mh ml ih lb ic cn c1 c2 c3 c4 ac obi sc) ++ pw ty pp) → va_S A s.heap H locs → ∀ ls : Array Slot, lv_has ls 12 [(0, .ref (X 20)), (2, .int a2), (3, .int v3_34), (5, .int v5_8), (6, .int v3_8), (7, .int t_26), (8, .int v8_34)] → W p l e (headSpec vs_k_X9_grow { frames := 4, cells := 0, slots := 0, locals := 91 }).room s m ([.ref (X 20), .int a1, .int a2] : List Value).toArray below meth c H locs 0 0 (MQ below (va_Qi (fun (r : Int32) (u : va_W) => (r = TT ∧ (u = ((wW_k_X9_grow ty X pn rn tn en rf an ch cg fb mh ml ih lb ic cn c1 c2 c3 c4 ac obi sc) ++ pw ty pp)))) (wq_B D A) A) ([.ref (X 20), .int a1, .int a2] : List Value).toArray s 0 0 A) (F0 m 34 ls []) := by
            intro n_34
            induction n_34 with
            | zero => intro v3_34 v8_34 hu; exact absurd hu (Nat.not_lt_zero _)
            | succ n_34 ih_34 =>
              intro v3_34 v8_34 hu_34 hT hn_34 H locs hP hD hS ls hl
              rw [m_k_X9_grow_34_succ, m_k_X9_grow_34s] at hT
              refine lv_iload hx hb dX9_grow_34 (lv_at hl 6 rfl) ?_
              refine lv_aload_n hx hb dX9_grow_36 rfl (lv_at hl 0 rfl) ?_
              refine va_get (D := D) (ci := 11) (v := .int an) (C := RX9) (T := TX9) (N := 17) hx hb hts iv_k_X9_grow_X9 hown hK hP 2 rfl rfl 5 (by decide) (hts (.fieldLink RX9 276 "AnswerFold$Solver" "activeCount" "I") (by decide +kernel)) (fun _ h9 => h9) rfl dX9_grow_37 ?_
              have J_139 : ∀ (_ : Unit), TT = m_k_X9_grow_139 (m_k_X9_grow_8 pp rn rf an ch cg c1 c2 c3 c4 ac obi sc a2 n_8) v3_34 v3_8 v5_8 → ∀ (H : Heap) (locs : List Loc), va_P D vwCl ((wW_k_X9_grow ty X pn rn tn en rf an ch cg fb mh ml ih lb ic cn c1 c2 c3 c4 ac obi sc) ++ pw ty pp) H → va_D A ((wW_k_X9_grow ty X pn rn tn en rf an ch cg fb mh ml ih lb ic cn c1 c2 c3 c4 ac obi sc) ++ pw ty pp) → va_S A s.heap H locs → ∀ ls : Array Slot, lv_has ls 12 [(0, .ref (X 20)), (2, .int a2), (3, .int v3_34), (5, .int v5_8), (6, .int v3_8)] → W p l e (headSpec vs_k_X9_grow { frames := 4, cells := 0, slots := 0, locals := 91 }).room s m ([.ref (X 20), .int a1, .int a2] : List Value).toArray below meth c H locs 0 0 (MQ below (va_Qi (fun (r : Int32) (u : va_W) => (r = TT ∧ (u = ((wW_k_X9_grow ty X pn rn tn en rf an ch cg fb mh ml ih lb ic cn c1 c2 c3 c4 ac obi sc) ++ pw ty pp)))) (wq_B D A) A) ([.ref (X 20), .int a1, .int a2] : List Value).toArray s 0 0 A) (F0 m 139 ls []) := by
                intro _ hT  H locs hP hD hS ls hl
                rw [m_k_X9_grow_139] at hT
                refine lv_iload_n hx hb dX9_grow_139 rfl (lv_at hl 2 rfl) ?_
                refine lv_iload hx hb dX9_grow_140 (lv_at hl 4 rfl) ?_
                have J_150 : ∀ (s0_150 : Int32), TT = m_k_X9_grow_150 (m_k_X9_grow_8 pp rn rf an ch cg c1 c2 c3 c4 ac obi sc a2 n_8) v3_34 v5_8 s0_150 → s0_150 = 0 ∨ s0_150 = 1 → ∀ (H : Heap) (locs : List Loc), va_P D vwCl ((wW_k_X9_grow ty X pn rn tn en rf an ch cg fb mh ml ih lb ic cn c1 c2 c3 c4 ac obi sc) ++ pw ty pp) H → va_D A ((wW_k_X9_grow ty X pn rn tn en rf an ch cg fb mh ml ih lb ic cn c1 c2 c3 c4 ac obi sc) ++ pw ty pp) → va_S A s.heap H locs → ∀ ls : Array Slot, lv_has ls 12 [(0, .ref (X 20)), (2, .int a2), (3, .int v3_34), (5, .int v5_8)] → W p l e (headSpec vs_k_X9_grow { frames := 4, cells := 0, slots := 0, locals := 91 }).room s m ([.ref (X 20), .int a1, .int a2] : List Value).toArray below meth c H locs 0 0 (MQ below (va_Qi (fun (r : Int32) (u : va_W) => (r = TT ∧ (u = ((wW_k_X9_grow ty X pn rn tn en rf an ch cg fb mh ml ih lb ic cn c1 c2 c3 c4 ac obi sc) ++ pw ty pp)))) (wq_B D A) A) ([.ref (X 20), .int a1, .int a2] : List Value).toArray s 0 0 A) (F0 m 150 ls [.int s0_150]) := by
                  intro s0_150 hT hb_s0_150 H locs hP hD hS ls hl
                  rw [m_k_X9_grow_150] at hT
                  refine lv_istore (lv' := [(4, .int s0_150), (0, .ref (X 20)), (2, .int a2), (3, .int v3_34), (5, .int v5_8)]) hx hb dX9_grow_150 hl (by decide) rfl (fun ls hl => ?_)
                  refine lv_iinc (v := v5_8 + 1) (lv' := [(5, .int (v5_8 + 1)), (4, .int s0_150), (0, .ref (X 20)), (2, .int a2), (3, .int v3_34)]) hx hb dX9_grow_152 hl (k := 4) rfl (by rfl) (by decide) rfl (fun ls hl => ?_)
                  refine lv_goto (tgt := 8) hx hb dX9_grow_155 (by decide) ?_
                  exact ih_8 v3_34 s0_150 (v5_8 + 1) (wi_up hu_8 (Int32.not_le.mp c_2)) hT (wi_inc hn_8 (Int32.not_le.mp c_2)) hb_s0_150 _ _ hP hD hS _ (lv_sub hl [2, 3, 4, 1, 0] rfl)
                refine lv_icmp_eq (tgt := 149) hx hb dX9_grow_142 (by decide) (fun c_5 => ?_) (fun c_5 => ?_)
                · rw [if_pos c_5] at hT
                  refine lv_iconst (v := 0) hx hb dX9_grow_149 (by decide) ?_
                  exact J_150 0 hT (by decide) _ _ hP hD hS _ (lv_sub hl [0, 1, 2, 3] rfl)
                · rw [if_neg c_5] at hT
                  refine lv_iconst (v := 1) hx hb dX9_grow_145 (by decide) ?_
                  refine lv_goto (tgt := 150) hx hb dX9_grow_146 (by decide) ?_
                  exact J_150 1 hT (by decide) _ _ hP hD hS _ (lv_sub hl [0, 1, 2, 3] rfl)
              refine lv_icmp_ge (tgt := 139) hx hb dX9_grow_40 (by decide) (fun c_6 => ?_) (fun c_6 => ?_)
              · rw [if_pos c_6] at hT
                exact J_139 () hT _ _ hP hD hS _ (lv_sub hl [0, 1, 2, 3, 4] rfl)
              · rw [if_neg c_6] at hT
                refine lv_iload hx hb dX9_grow_43 (lv_at hl 6 rfl) ?_
                refine lv_sipush (v := 300) hx hb dX9_grow_45 (by decide) ?_
                refine lv_icmp_ge (tgt := 139) hx hb dX9_grow_48 (by decide) (fun c_7 => ?_) (fun c_7 => ?_)
                · rw [if_pos c_7] at hT
                  exact J_139 () hT _ _ hP hD hS _ (lv_sub hl [0, 1, 2, 3, 4] rfl)
                · rw [if_neg c_7] at hT
                  refine lv_aload_n hx hb dX9_grow_51 rfl (lv_at hl 0 rfl) ?_
                  refine va_get (D := D) (ci := 11) (v := .ref (X 35)) (C := RX9) (T := TX9) (N := 17) hx hb hts iv_k_X9_grow_X9 hown hK hP 2 rfl rfl 4 (by decide) (hts (.fieldLink RX9 21 "AnswerFold$Solver" "active" "[I") (by decide +kernel)) (fun _ h9 => h9) rfl dX9_grow_52 ?_
                  refine lv_iload hx hb dX9_grow_55 (lv_at hl 6 rfl) ?_
                  refine va_iald (D := D) hx hb hK hP 8 0 rfl rfl (wi_in hn_34 (wi_hi c_7 (by decide))) dX9_grow_57 ?_
                  refine lv_istore (lv' := [(9, .int (ac v8_34.toNatClampNeg)), (0, .ref (X 20)), (2, .int a2), (3, .int v3_34), (5, .int v5_8), (6, .int v3_8), (7, .int t_26), (8, .int v8_34)]) hx hb dX9_grow_58 hl (by decide) rfl (fun ls hl => ?_)
                  refine lv_aload_n hx hb dX9_grow_60 rfl (lv_at hl 1 rfl) ?_
                  refine va_get (D := D) (ci := 11) (v := .ref (X 21)) (C := RX9) (T := TX9) (N := 17) hx hb hts iv_k_X9_grow_X9 hown hK hP 2 rfl rfl 2 (by decide) (hts (.fieldLink RX9 12 "AnswerFold$Solver" "checks" "LAnswerFold$Rows;") (by decide +kernel)) (fun _ h9 => h9) rfl dX9_grow_61 ?_
                  refine lv_iload hx hb dX9_grow_64 (lv_at hl 0 rfl) ?_
                  obtain ⟨t_66, ht_66⟩ : ∃ t, t = m_k_X7_headsAt c4 (ac v8_34.toNatClampNeg) := ⟨_, rfl⟩
                  rw [lE_eq ht_66] at hT
                  refine wq_iQW (wc := (wW_k_X7_headsAt ty (X 21) (X 22) (X 23) (X 24) (X 25) (X 26) (X 27) cn c4)) (pl := pw ty pp) (va_runV (As := [.int (ac v8_34.toNatClampNeg)]) (rest := []) ⟨hx, hb, hml, hown, hts⟩ (k_X7_headsAt l D ty td mi H.size (X 21) (X 22) (X 23) (X 24) (X 25) (X 26) (X 27) cn c4 (ac v8_34.toNatClampNeg) t_66 ht_66) (cwV 1 hts gv_k_X9_grow_1 rfl rfl rfl (by decide +kernel) ⟨(Nat.le_of_ble_eq_true rfl), (Nat.le_of_ble_eq_true rfl)⟩) (wm_V (wm_preS (vP_left hP) (vD_left hD) hK hE hS hA [false, false, false, true, false, false, false, true] rfl) (va_recv (q0 := 3) (ci := 9) hK hP rfl rfl)) rfl rfl hl.1 rfl (lv_room (Nat.le_of_ble_eq_true rfl)) dX9_grow_66 ⟨(Nat.le_of_ble_eq_true rfl), (Nat.le_of_ble_eq_true rfl)⟩) hS hA hP hD [false, false, false, true, false, false, false, true] rfl (fun _ _ h => by rcases h with ⟨-, rfl⟩; rfl) (fun r u H locs hw hP hD hS => ?_)
                  obtain ⟨hr0, rfl⟩ := hw
                  subst r
                  have hP : va_P D vwCl ((wW_k_X9_grow ty X pn rn tn en rf an ch cg fb mh ml ih lb ic cn c1 c2 c3 c4 ac obi sc) ++ pw ty pp) H := hP
                  have hD : va_D A ((wW_k_X9_grow ty X pn rn tn en rf an ch cg fb mh ml ih lb ic cn c1 c2 c3 c4 ac obi sc) ++ pw ty pp) := hD
                  refine W.widen (k := 0) (n := 0) (Nat.le_of_ble_eq_true rfl) (Nat.le_of_ble_eq_true rfl) ?_
                  refine lv_iload_n hx hb dX9_grow_69 rfl (lv_at hl 2 rfl) ?_
                  refine lv_iand hx hb dX9_grow_70 ?_
                  refine lv_istore (lv' := [(10, .int (t_66 &&& a2)), (9, .int (ac v8_34.toNatClampNeg)), (0, .ref (X 20)), (2, .int a2), (3, .int v3_34), (5, .int v5_8), (6, .int v3_8), (7, .int t_26), (8, .int v8_34)]) hx hb dX9_grow_71 hl (by decide) rfl (fun ls hl => ?_)
                  refine lv_aload_n hx hb dX9_grow_73 rfl (lv_at hl 2 rfl) ?_
                  refine lv_iload hx hb dX9_grow_74 (lv_at hl 1 rfl) ?_
                  obtain ⟨t_76, ht_76⟩ : ∃ t, t = m_k_X9_isChoice ch c1 (ac v8_34.toNatClampNeg) := ⟨_, rfl⟩
                  rw [lE_eq ht_76] at hT
                  refine wq_iQW (wc := (wW_k_X9_isChoice ty X an ch cg fb mh ml ih lb ic cn c1)) (pl := pw ty pp) (va_runV (As := [.int (ac v8_34.toNatClampNeg)]) (rest := []) ⟨hx, hb, hml, hown, hts⟩ (k_X9_isChoice l D ty td mi H.size X an ch cg fb mh ml ih lb ic cn c1 (ac v8_34.toNatClampNeg) t_76 ht_76) (cwV 1 hts gv_k_X9_grow_2 rfl rfl rfl (by decide +kernel) ⟨(Nat.le_of_ble_eq_true rfl), (Nat.le_of_ble_eq_true rfl)⟩) (wm_V (wm_preS (vP_left hP) (vD_left hD) hK hE hS hA [false, false, true, true, true] rfl) (va_recv (q0 := 2) (ci := 11) hK hP rfl rfl)) rfl rfl hl.1 rfl (lv_room (Nat.le_of_ble_eq_true rfl)) dX9_grow_76 ⟨(Nat.le_of_ble_eq_true rfl), (Nat.le_of_ble_eq_true rfl)⟩) hS hA hP hD [false, false, true, true, true] rfl (fun _ _ h => by rcases h with ⟨-, -, rfl⟩; rfl) (fun r u H locs hw hP hD hS => ?_)
                  obtain ⟨hr0, c_12, rfl⟩ := hw
                  subst r
                  have hP : va_P D vwCl ((wW_k_X9_grow ty X pn rn tn en rf an ch cg fb mh ml ih lb ic cn c1 c2 c3 c4 ac obi sc) ++ pw ty pp) H := hP
                  have hD : va_D A ((wW_k_X9_grow ty X pn rn tn en rf an ch cg fb mh ml ih lb ic cn c1 c2 c3 c4 ac obi sc) ++ pw ty pp) := hD
                  refine W.widen (k := 0) (n := 0) (Nat.le_of_ble_eq_true rfl) (Nat.le_of_ble_eq_true rfl) ?_
                  have J_97 : ∀ (s0_97 : Int32), TT = m_k_X9_grow_97 c1 c2 c3 ac a2 (m_k_X9_grow_34 an ch c1 c2 c3 c4 ac a2 (m_k_X9_grow_8 pp rn rf an ch cg c1 c2 c3 c4 ac obi sc a2 n_8) t_26 v3_8 v5_8 n_34) t_26 t_66 v3_34 v8_34 s0_97 → s0_97 = 0 ∨ s0_97 = 1 → ∀ (H : Heap) (locs : List Loc), va_P D vwCl ((wW_k_X9_grow ty X pn rn tn en rf an ch cg fb mh ml ih lb ic cn c1 c2 c3 c4 ac obi sc) ++ pw ty pp) H → va_D A ((wW_k_X9_grow ty X pn rn tn en rf an ch cg fb mh ml ih lb ic cn c1 c2 c3 c4 ac obi sc) ++ pw ty pp) → va_S A s.heap H locs → ∀ ls : Array Slot, lv_has ls 12 [(0, .ref (X 20)), (2, .int a2), (3, .int v3_34), (5, .int v5_8), (6, .int v3_8), (7, .int t_26), (8, .int v8_34), (9, .int (ac v8_34.toNatClampNeg)), (10, .int (t_66 &&& a2))] → W p l e (headSpec vs_k_X9_grow { frames := 4, cells := 0, slots := 0, locals := 91 }).room s m ([.ref (X 20), .int a1, .int a2] : List Value).toArray below meth c H locs 0 0 (MQ below (va_Qi (fun (r : Int32) (u : va_W) => (r = TT ∧ (u = ((wW_k_X9_grow ty X pn rn tn en rf an ch cg fb mh ml ih lb ic cn c1 c2 c3 c4 ac obi sc) ++ pw ty pp)))) (wq_B D A) A) ([.ref (X 20), .int a1, .int a2] : List Value).toArray s 0 0 A) (F0 m 97 ls [.int s0_97]) := by
                    intro s0_97 hT hb_s0_97 H locs hP hD hS ls hl
                    rw [m_k_X9_grow_97] at hT
                    refine lv_istore (lv' := [(11, .int s0_97), (0, .ref (X 20)), (2, .int a2), (3, .int v3_34), (5, .int v5_8), (6, .int v3_8), (7, .int t_26), (8, .int v8_34), (9, .int (ac v8_34.toNatClampNeg)), (10, .int (t_66 &&& a2))]) hx hb dX9_grow_97 hl (by decide) rfl (fun ls hl => ?_)
                    refine lv_iload hx hb dX9_grow_99 (lv_at hl 0 rfl) ?_
                    have J_133 : ∀ (v3_133 : Int32), TT = m_k_X9_grow_133 (m_k_X9_grow_34 an ch c1 c2 c3 c4 ac a2 (m_k_X9_grow_8 pp rn rf an ch cg c1 c2 c3 c4 ac obi sc a2 n_8) t_26 v3_8 v5_8 n_34) v8_34 v3_133 → ∀ (H : Heap) (locs : List Loc), va_P D vwCl ((wW_k_X9_grow ty X pn rn tn en rf an ch cg fb mh ml ih lb ic cn c1 c2 c3 c4 ac obi sc) ++ pw ty pp) H → va_D A ((wW_k_X9_grow ty X pn rn tn en rf an ch cg fb mh ml ih lb ic cn c1 c2 c3 c4 ac obi sc) ++ pw ty pp) → va_S A s.heap H locs → ∀ ls : Array Slot, lv_has ls 12 [(0, .ref (X 20)), (2, .int a2), (3, .int v3_133), (5, .int v5_8), (6, .int v3_8), (7, .int t_26), (8, .int v8_34)] → W p l e (headSpec vs_k_X9_grow { frames := 4, cells := 0, slots := 0, locals := 91 }).room s m ([.ref (X 20), .int a1, .int a2] : List Value).toArray below meth c H locs 0 0 (MQ below (va_Qi (fun (r : Int32) (u : va_W) => (r = TT ∧ (u = ((wW_k_X9_grow ty X pn rn tn en rf an ch cg fb mh ml ih lb ic cn c1 c2 c3 c4 ac obi sc) ++ pw ty pp)))) (wq_B D A) A) ([.ref (X 20), .int a1, .int a2] : List Value).toArray s 0 0 A) (F0 m 133 ls []) := by
                      intro v3_133 hT  H locs hP hD hS ls hl
                      rw [m_k_X9_grow_133] at hT
                      refine lv_iinc (v := v8_34 + 1) (lv' := [(8, .int (v8_34 + 1)), (0, .ref (X 20)), (2, .int a2), (3, .int v3_133), (5, .int v5_8), (6, .int v3_8), (7, .int t_26)]) hx hb dX9_grow_133 hl (k := 6) rfl (by rfl) (by decide) rfl (fun ls hl => ?_)
                      refine lv_goto (tgt := 34) hx hb dX9_grow_136 (by decide) ?_
                      exact ih_34 v3_133 (v8_34 + 1) (wi_up hu_34 (Int32.not_le.mp c_6)) hT (wi_inc hn_34 (Int32.not_le.mp c_6)) _ _ hP hD hS _ (lv_sub hl [1, 2, 3, 4, 5, 6, 0] rfl)
                    refine lv_if_eq (tgt := 133) hx hb dX9_grow_101 (by decide) (fun c_13 => ?_) (fun c_13 => ?_)
                    · rw [if_pos c_13] at hT
                      exact J_133 v3_34 hT _ _ hP hD hS _ (lv_sub hl [1, 2, 3, 4, 5, 6, 7] rfl)
                    · rw [if_neg c_13] at hT
                      refine lv_iload hx hb dX9_grow_104 (lv_at hl 9 rfl) ?_
                      refine lv_iload_n hx hb dX9_grow_106 rfl (lv_at hl 3 rfl) ?_
                      refine lv_iconst (v := (-1)) hx hb dX9_grow_107 (by decide) ?_
                      refine lv_ixor hx hb dX9_grow_108 ?_
                      refine lv_iand hx hb dX9_grow_109 ?_
                      refine lv_if_eq (tgt := 133) hx hb dX9_grow_110 (by decide) (fun c_14 => ?_) (fun c_14 => ?_)
                      · rw [if_pos c_14] at hT
                        exact J_133 v3_34 hT _ _ hP hD hS _ (lv_sub hl [1, 2, 3, 4, 5, 6, 7] rfl)
                      · rw [if_neg c_14] at hT
                        refine lv_aload_n hx hb dX9_grow_113 rfl (lv_at hl 1 rfl) ?_
                        refine va_get (D := D) (ci := 11) (v := .ref (X 21)) (C := RX9) (T := TX9) (N := 17) hx hb hts iv_k_X9_grow_X9 hown hK hP 2 rfl rfl 2 (by decide) (hts (.fieldLink RX9 12 "AnswerFold$Solver" "checks" "LAnswerFold$Rows;") (by decide +kernel)) (fun _ h9 => h9) rfl dX9_grow_114 ?_
                        refine lv_iload hx hb dX9_grow_117 (lv_at hl 8 rfl) ?_
                        refine lv_iload_n hx hb dX9_grow_119 rfl (lv_at hl 3 rfl) ?_
                        refine lv_iload hx hb dX9_grow_120 (lv_at hl 6 rfl) ?_
                        obtain ⟨t_122, ht_122⟩ : ∃ t, t = m_k_X7_bodyHolds c1 c2 c3 (ac v8_34.toNatClampNeg) v3_34 t_26 := ⟨_, rfl⟩
                        rw [lE_eq ht_122] at hT
                        refine wq_iQW (wc := (wW_k_X7_bodyHolds ty (X 21) (X 22) (X 23) (X 24) (X 25) (X 26) (X 27) cn c1 c2 c3)) (pl := pw ty pp) (va_runV (As := [.int (ac v8_34.toNatClampNeg), .int v3_34, .int t_26]) (rest := []) ⟨hx, hb, hml, hown, hts⟩ (k_X7_bodyHolds l D ty td mi H.size (X 21) (X 22) (X 23) (X 24) (X 25) (X 26) (X 27) cn c1 c2 c3 (ac v8_34.toNatClampNeg) v3_34 t_26 t_122 ht_122) (cwV 3 hts gv_k_X9_grow_3 rfl rfl rfl (by decide +kernel) ⟨(Nat.le_of_ble_eq_true rfl), (Nat.le_of_ble_eq_true rfl)⟩) (wm_V (wm_preS (vP_left hP) (vD_left hD) hK hE hS hA [false, false, false, true, true, true, true] rfl) (va_recv (q0 := 3) (ci := 9) hK hP rfl rfl)) rfl rfl hl.1 rfl (lv_room (Nat.le_of_ble_eq_true rfl)) dX9_grow_122 ⟨(Nat.le_of_ble_eq_true rfl), (Nat.le_of_ble_eq_true rfl)⟩) hS hA hP hD [false, false, false, true, true, true, true] rfl (fun _ _ h => by rcases h with ⟨-, -, rfl⟩; rfl) (fun r u H locs hw hP hD hS => ?_)
                        obtain ⟨hr0, c_17, rfl⟩ := hw
                        subst r
                        have hP : va_P D vwCl ((wW_k_X9_grow ty X pn rn tn en rf an ch cg fb mh ml ih lb ic cn c1 c2 c3 c4 ac obi sc) ++ pw ty pp) H := hP
                        have hD : va_D A ((wW_k_X9_grow ty X pn rn tn en rf an ch cg fb mh ml ih lb ic cn c1 c2 c3 c4 ac obi sc) ++ pw ty pp) := hD
                        refine W.widen (k := 0) (n := 0) (Nat.le_of_ble_eq_true rfl) (Nat.le_of_ble_eq_true rfl) ?_
                        refine lv_if_eq (tgt := 133) hx hb dX9_grow_125 (by decide) (fun c_18 => ?_) (fun c_18 => ?_)
                        · rw [if_pos c_18] at hT
                          exact J_133 v3_34 hT _ _ hP hD hS _ (lv_sub hl [1, 2, 3, 4, 5, 6, 7] rfl)
                        · rw [if_neg c_18] at hT
                          refine lv_iload_n hx hb dX9_grow_128 rfl (lv_at hl 3 rfl) ?_
                          refine lv_iload hx hb dX9_grow_129 (lv_at hl 9 rfl) ?_
                          refine lv_ior hx hb dX9_grow_131 ?_
                          refine lv_istore_n (lv' := [(3, .int (v3_34 ||| (t_66 &&& a2))), (11, .int s0_97), (0, .ref (X 20)), (2, .int a2), (5, .int v5_8), (6, .int v3_8), (7, .int t_26), (8, .int v8_34), (9, .int (ac v8_34.toNatClampNeg)), (10, .int (t_66 &&& a2))]) hx hb dX9_grow_132 rfl hl (by decide) rfl (fun ls hl => ?_)
                          exact J_133 (v3_34 ||| (t_66 &&& a2)) hT _ _ hP hD hS _ (lv_sub hl [2, 3, 0, 4, 5, 6, 7] rfl)
                  have J_92 : ∀ (_ : Unit), TT = m_k_X9_grow_92 c1 c2 c3 ac a2 (m_k_X9_grow_34 an ch c1 c2 c3 c4 ac a2 (m_k_X9_grow_8 pp rn rf an ch cg c1 c2 c3 c4 ac obi sc a2 n_8) t_26 v3_8 v5_8 n_34) t_26 t_66 v3_34 v8_34 → ∀ (H : Heap) (locs : List Loc), va_P D vwCl ((wW_k_X9_grow ty X pn rn tn en rf an ch cg fb mh ml ih lb ic cn c1 c2 c3 c4 ac obi sc) ++ pw ty pp) H → va_D A ((wW_k_X9_grow ty X pn rn tn en rf an ch cg fb mh ml ih lb ic cn c1 c2 c3 c4 ac obi sc) ++ pw ty pp) → va_S A s.heap H locs → ∀ ls : Array Slot, lv_has ls 12 [(0, .ref (X 20)), (2, .int a2), (3, .int v3_34), (5, .int v5_8), (6, .int v3_8), (7, .int t_26), (8, .int v8_34), (9, .int (ac v8_34.toNatClampNeg)), (10, .int (t_66 &&& a2))] → W p l e (headSpec vs_k_X9_grow { frames := 4, cells := 0, slots := 0, locals := 91 }).room s m ([.ref (X 20), .int a1, .int a2] : List Value).toArray below meth c H locs 0 0 (MQ below (va_Qi (fun (r : Int32) (u : va_W) => (r = TT ∧ (u = ((wW_k_X9_grow ty X pn rn tn en rf an ch cg fb mh ml ih lb ic cn c1 c2 c3 c4 ac obi sc) ++ pw ty pp)))) (wq_B D A) A) ([.ref (X 20), .int a1, .int a2] : List Value).toArray s 0 0 A) (F0 m 92 ls []) := by
                    intro _ hT  H locs hP hD hS ls hl
                    rw [m_k_X9_grow_92] at hT
                    refine lv_iconst (v := 1) hx hb dX9_grow_92 (by decide) ?_
                    refine lv_goto (tgt := 97) hx hb dX9_grow_93 (by decide) ?_
                    exact J_97 1 hT (by decide) _ _ hP hD hS _ (lv_sub hl [0, 1, 2, 3, 4, 5, 6, 7, 8] rfl)
                  refine lv_if_ne (tgt := 92) hx hb dX9_grow_79 (by decide) (fun c_19 => ?_) (fun c_19 => ?_)
                  · rw [if_neg c_19] at hT
                    exact J_92 () hT _ _ hP hD hS _ (lv_sub hl [2, 3, 4, 5, 6, 7, 8, 1, 0] rfl)
                  · rw [if_pos c_19] at hT
                    refine lv_iload hx hb dX9_grow_82 (lv_at hl 0 rfl) ?_
                    refine lv_iload hx hb dX9_grow_84 (lv_at hl 0 rfl) ?_
                    refine lv_iconst (v := 1) hx hb dX9_grow_86 (by decide) ?_
                    refine lv_isub hx hb dX9_grow_87 ?_
                    refine lv_iand hx hb dX9_grow_88 ?_
                    refine lv_if_ne (tgt := 96) hx hb dX9_grow_89 (by decide) (fun c_20 => ?_) (fun c_20 => ?_)
                    · rw [if_neg c_20] at hT
                      refine lv_iconst (v := 0) hx hb dX9_grow_96 (by decide) ?_
                      exact J_97 0 hT (by decide) _ _ hP hD hS _ (lv_sub hl [2, 3, 4, 5, 6, 7, 8, 1, 0] rfl)
                    · rw [if_pos c_20] at hT
                      exact J_92 () hT _ _ hP hD hS _ (lv_sub hl [2, 3, 4, 5, 6, 7, 8, 1, 0] rfl)
          exact L_34 wF v3_8 0 (wF_up 0) hT (by decide) _ _ hP hD hS _ (lv_sub hl [3, 4, 5, 7, 2, 1, 0] rfl)
  exact L_8 wF a1 1 0 (wF_up 0) hT (by decide) (by decide) _ _ hP hD hS _ (lv_sub hl [3, 5, 2, 1, 0] rfl)
theorem dX9_headsToSplit_0 : decode cX9_headsToSplit 0 = .ok (.aload_n 0, 1) := by decide +kernel
theorem dX9_headsToSplit_1 : decode cX9_headsToSplit 1 = .ok (.iload_n 1, 1) := by decide +kernel
theorem dX9_headsToSplit_2 : decode cX9_headsToSplit 2 = .ok (.invokevirtual 241, 3) := by decide +kernel
theorem dX9_headsToSplit_5 : decode cX9_headsToSplit 5 = .ok (.istore_n 3, 1) := by decide +kernel
theorem dX9_headsToSplit_6 : decode cX9_headsToSplit 6 = .ok (.iconst 0, 1) := by decide +kernel
theorem dX9_headsToSplit_7 : decode cX9_headsToSplit 7 = .ok (.istore 4, 2) := by decide +kernel
theorem dX9_headsToSplit_9 : decode cX9_headsToSplit 9 = .ok (.iload 4, 2) := by decide +kernel
theorem dX9_headsToSplit_11 : decode cX9_headsToSplit 11 = .ok (.aload_n 0, 1) := by decide +kernel
theorem dX9_headsToSplit_12 : decode cX9_headsToSplit 12 = .ok (.getfield 276, 3) := by decide +kernel
theorem dX9_headsToSplit_15 : decode cX9_headsToSplit 15 = .ok (.if_icmp .ge 72, 3) := by decide +kernel
theorem dX9_headsToSplit_18 : decode cX9_headsToSplit 18 = .ok (.iload 4, 2) := by decide +kernel
theorem dX9_headsToSplit_20 : decode cX9_headsToSplit 20 = .ok (.sipush 300, 3) := by decide +kernel
theorem dX9_headsToSplit_23 : decode cX9_headsToSplit 23 = .ok (.if_icmp .ge 64, 3) := by decide +kernel
theorem dX9_headsToSplit_26 : decode cX9_headsToSplit 26 = .ok (.aload_n 0, 1) := by decide +kernel
theorem dX9_headsToSplit_27 : decode cX9_headsToSplit 27 = .ok (.getfield 21, 3) := by decide +kernel
theorem dX9_headsToSplit_30 : decode cX9_headsToSplit 30 = .ok (.iload 4, 2) := by decide +kernel
theorem dX9_headsToSplit_32 : decode cX9_headsToSplit 32 = .ok (.iaload, 1) := by decide +kernel
theorem dX9_headsToSplit_33 : decode cX9_headsToSplit 33 = .ok (.istore 5, 2) := by decide +kernel
theorem dX9_headsToSplit_35 : decode cX9_headsToSplit 35 = .ok (.aload_n 0, 1) := by decide +kernel
theorem dX9_headsToSplit_36 : decode cX9_headsToSplit 36 = .ok (.getfield 12, 3) := by decide +kernel
theorem dX9_headsToSplit_39 : decode cX9_headsToSplit 39 = .ok (.iload 5, 2) := by decide +kernel
theorem dX9_headsToSplit_41 : decode cX9_headsToSplit 41 = .ok (.invokevirtual 279, 3) := by decide +kernel
theorem dX9_headsToSplit_44 : decode cX9_headsToSplit 44 = .ok (.iload_n 2, 1) := by decide +kernel
theorem dX9_headsToSplit_45 : decode cX9_headsToSplit 45 = .ok (.iand, 1) := by decide +kernel
theorem dX9_headsToSplit_46 : decode cX9_headsToSplit 46 = .ok (.istore 6, 2) := by decide +kernel
theorem dX9_headsToSplit_48 : decode cX9_headsToSplit 48 = .ok (.aload_n 0, 1) := by decide +kernel
theorem dX9_headsToSplit_49 : decode cX9_headsToSplit 49 = .ok (.iload 5, 2) := by decide +kernel
theorem dX9_headsToSplit_51 : decode cX9_headsToSplit 51 = .ok (.invokevirtual 287, 3) := by decide +kernel
theorem dX9_headsToSplit_54 : decode cX9_headsToSplit 54 = .ok (.ifCond .ne 27, 3) := by decide +kernel
theorem dX9_headsToSplit_57 : decode cX9_headsToSplit 57 = .ok (.iload 6, 2) := by decide +kernel
theorem dX9_headsToSplit_59 : decode cX9_headsToSplit 59 = .ok (.iload_n 1, 1) := by decide +kernel
theorem dX9_headsToSplit_60 : decode cX9_headsToSplit 60 = .ok (.iand, 1) := by decide +kernel
theorem dX9_headsToSplit_61 : decode cX9_headsToSplit 61 = .ok (.ifCond .ne 20, 3) := by decide +kernel
theorem dX9_headsToSplit_64 : decode cX9_headsToSplit 64 = .ok (.aload_n 0, 1) := by decide +kernel
theorem dX9_headsToSplit_65 : decode cX9_headsToSplit 65 = .ok (.getfield 12, 3) := by decide +kernel
theorem dX9_headsToSplit_68 : decode cX9_headsToSplit 68 = .ok (.iload 5, 2) := by decide +kernel
theorem dX9_headsToSplit_70 : decode cX9_headsToSplit 70 = .ok (.iload_n 1, 1) := by decide +kernel
theorem dX9_headsToSplit_71 : decode cX9_headsToSplit 71 = .ok (.iload_n 3, 1) := by decide +kernel
theorem dX9_headsToSplit_72 : decode cX9_headsToSplit 72 = .ok (.invokevirtual 282, 3) := by decide +kernel
theorem dX9_headsToSplit_75 : decode cX9_headsToSplit 75 = .ok (.ifCond .eq 6, 3) := by decide +kernel
theorem dX9_headsToSplit_78 : decode cX9_headsToSplit 78 = .ok (.iload 6, 2) := by decide +kernel
theorem dX9_headsToSplit_80 : decode cX9_headsToSplit 80 = .ok (.ireturn, 1) := by decide +kernel
theorem dX9_headsToSplit_81 : decode cX9_headsToSplit 81 = .ok (.iinc 4 1, 3) := by decide +kernel
theorem dX9_headsToSplit_84 : decode cX9_headsToSplit 84 = .ok (.goto (-75), 3) := by decide +kernel
theorem dX9_headsToSplit_87 : decode cX9_headsToSplit 87 = .ok (.iconst 0, 1) := by decide +kernel
theorem dX9_headsToSplit_88 : decode cX9_headsToSplit 88 = .ok (.ireturn, 1) := by decide +kernel
def wW_k_X9_headsToSplit (ty : Nat → ClassId) (X : Nat → Nat) (z9_0 : Int32) (z9_1 : Int32) (z9_2 : Int32) (z9_3 : Int32) (z9_4 : Nat → Option Nat) (z9_5 : Int32) (z9_6 : Int32) (z9_7 : Int32) (z9_8 : Int32) (z9_9 : Int32) (z9_10 : Int32) (z9_11 : Int32) (z9_12 : Int32) (z9_13 : Int32) (z9_14 : Int32) (z9_15 : Nat → Int32) (z9_16 : Nat → Int32) (z9_17 : Nat → Int32) (z9_18 : Nat → Int32) (z9_19 : Nat → Int32) (z9_20 : Nat → Int32) (z9_21 : Nat → Int32) : va_W := [((X 1), .inr (8, [.ref (X 2), .int z9_0, .ref (X 3), .int z9_1, .ref (X 4), .ref (X 5), .int z9_2, .ref (X 6), .ref (X 7), .int z9_3])), ((X 3), .inl (ty 4, 20, .inr (.inr (.inr (.inr z9_4))))), ((X 20), .inr (11, [.ref (X 1), .ref (X 8), .ref (X 21), .ref (X 28), .ref (X 35), .int z9_5, .ref (X 36), .ref (X 37), .ref (X 38), .int z9_6, .int z9_7, .int z9_8, .int z9_9, .int z9_10, .int z9_11, .int z9_12, .int z9_13])), ((X 21), .inr (9, [.ref (X 22), .ref (X 23), .ref (X 24), .ref (X 25), .ref (X 26), .ref (X 27), .int z9_14])), ((X 22), .inl (ty 0, 300, .inl z9_15)), ((X 23), .inl (ty 0, 300, .inl z9_16)), ((X 24), .inl (ty 0, 300, .inl z9_17)), ((X 25), .inl (ty 0, 300, .inl z9_18)), ((X 35), .inl (ty 0, 300, .inl z9_19)), ((X 36), .inl (ty 0, 6, .inl z9_20)), ((X 37), .inl (ty 0, 6, .inl z9_21))]
abbrev r_k_X9_headsToSplit : Type := Int32
def m_k_X9_headsToSplit_81 (rec_9 : Int32 → r_k_X9_headsToSplit) (v4_9 : Int32) : r_k_X9_headsToSplit :=
  rec_9 (v4_9 + 1)
def m_k_X9_headsToSplit_9s (an : Int32) (ch : Int32) (c1 : Nat → Int32) (c2 : Nat → Int32) (c3 : Nat → Int32) (c4 : Nat → Int32) (ac : Nat → Int32) (a1 : Int32) (a2 : Int32) (t_2 : r_k_X9_countsHeld) (rec_9 : Int32 → r_k_X9_headsToSplit) (v4_9 : Int32) : r_k_X9_headsToSplit :=
  if an ≤ v4_9 then
    0
  else
    if 300 ≤ v4_9 then
      0
    else
      lE (m_k_X7_headsAt c4 (ac v4_9.toNatClampNeg)) (fun t_41 =>
        lE (m_k_X9_isChoice ch c1 (ac v4_9.toNatClampNeg)) (fun t_51 =>
          if t_51 = 0 then
            if ((t_41 &&& a2) &&& a1) = 0 then
              lE (m_k_X7_bodyHolds c1 c2 c3 (ac v4_9.toNatClampNeg) a1 t_2) (fun t_72 =>
                if t_72 = 0 then
                  m_k_X9_headsToSplit_81 rec_9 v4_9
                else
                  (t_41 &&& a2))
            else
              m_k_X9_headsToSplit_81 rec_9 v4_9
          else
            m_k_X9_headsToSplit_81 rec_9 v4_9))
def m_k_X9_headsToSplit_9 (an : Int32) (ch : Int32) (c1 : Nat → Int32) (c2 : Nat → Int32) (c3 : Nat → Int32) (c4 : Nat → Int32) (ac : Nat → Int32) (a1 : Int32) (a2 : Int32) (t_2 : r_k_X9_countsHeld) : Nat → Int32 → r_k_X9_headsToSplit
  | 0, _ => (0)
  | n + 1, v4_9 => m_k_X9_headsToSplit_9s an ch c1 c2 c3 c4 ac a1 a2 t_2 (fun v4_9 => m_k_X9_headsToSplit_9 an ch c1 c2 c3 c4 ac a1 a2 t_2 n v4_9) v4_9
theorem m_k_X9_headsToSplit_9_succ (an : Int32) (ch : Int32) (c1 : Nat → Int32) (c2 : Nat → Int32) (c3 : Nat → Int32) (c4 : Nat → Int32) (ac : Nat → Int32) (a1 : Int32) (a2 : Int32) (t_2 : r_k_X9_countsHeld) (n : Nat) (v4_9 : Int32) : m_k_X9_headsToSplit_9 an ch c1 c2 c3 c4 ac a1 a2 t_2 (n + 1) v4_9 = m_k_X9_headsToSplit_9s an ch c1 c2 c3 c4 ac a1 a2 t_2 (m_k_X9_headsToSplit_9 an ch c1 c2 c3 c4 ac a1 a2 t_2 n) v4_9 := rfl
def m_k_X9_headsToSplit (pp : pT) (rn : Int32) (rf : Nat → Option Nat) (an : Int32) (ch : Int32) (cg : Int32) (c1 : Nat → Int32) (c2 : Nat → Int32) (c3 : Nat → Int32) (c4 : Nat → Int32) (ac : Nat → Int32) (obi : Nat → Int32) (sc : Nat → Int32) (a1 : Int32) (a2 : Int32) : r_k_X9_headsToSplit :=
  lE (m_k_X9_countsHeld pp rn rf cg obi sc a1) (fun t_2 =>
    m_k_X9_headsToSplit_9 an ch c1 c2 c3 c4 ac a1 a2 t_2 wF 0)
def vs_k_X9_headsToSplit : List Cond := .code yX9_headsToSplit cX9_headsToSplit 7 (some .int) :: ([.methodLink RX9 241 yX9_countsHeld, .instanceMethod yX9_countsHeld, .selects RX9 yX9_countsHeld yX9_countsHeld, .initialized RX9, .fieldLink RX9 276 "AnswerFold$Solver" "activeCount" "I", .fieldLink RX9 21 "AnswerFold$Solver" "active" "[I", .fieldLink RX9 12 "AnswerFold$Solver" "checks" "LAnswerFold$Rows;", .methodLink RX9 279 yX7_headsAt, .instanceMethod yX7_headsAt, .selects RX7 yX7_headsAt yX7_headsAt, .initialized RX7, .methodLink RX9 287 yX9_isChoice, .instanceMethod yX9_isChoice, .selects RX9 yX9_isChoice yX9_isChoice, .methodLink RX9 282 yX7_bodyHolds, .instanceMethod yX7_bodyHolds, .selects RX7 yX7_bodyHolds yX7_bodyHolds] ++ (vs_k_X9_countsHeld ++ (u_ws RX9 TX9 17 ++ (vs_k_X7_headsAt ++ (vs_k_X9_isChoice ++ (vs_k_X7_bodyHolds))))))
theorem iv_k_X9_headsToSplit_X9 : ∀ w ∈ u_ws RX9 TX9 17, w ∈ vs_k_X9_headsToSplit := (fun _ h => List.mem_cons_of_mem _ (List.mem_append_right _ (List.mem_append_right _ (List.mem_append_left _ h))))
set_option maxRecDepth 20000 in
theorem gv_k_X9_headsToSplit_0 : GoodIn vs_k_X9_headsToSplit (wsV RX9 241 RX9 yX9_countsHeld vs_k_X9_countsHeld) := goodIn_app (goodIn_sub (by decide +kernel) (by decide +kernel)) (goodIn_sub (fun _ h => List.mem_cons_of_mem _ (List.mem_append_right _ (List.mem_append_left _ h))) (by decide +kernel))
set_option maxRecDepth 20000 in
theorem gv_k_X9_headsToSplit_1 : GoodIn vs_k_X9_headsToSplit (wsV RX9 279 RX7 yX7_headsAt vs_k_X7_headsAt) := goodIn_app (goodIn_sub (by decide +kernel) (by decide +kernel)) (goodIn_sub (fun _ h => List.mem_cons_of_mem _ (List.mem_append_right _ (List.mem_append_right _ (List.mem_append_right _ (List.mem_append_left _ h))))) (by decide +kernel))
set_option maxRecDepth 20000 in
theorem gv_k_X9_headsToSplit_2 : GoodIn vs_k_X9_headsToSplit (wsV RX9 287 RX9 yX9_isChoice vs_k_X9_isChoice) := goodIn_app (goodIn_sub (by decide +kernel) (by decide +kernel)) (goodIn_sub (fun _ h => List.mem_cons_of_mem _ (List.mem_append_right _ (List.mem_append_right _ (List.mem_append_right _ (List.mem_append_right _ (List.mem_append_left _ h)))))) (by decide +kernel))
set_option maxRecDepth 20000 in
theorem gv_k_X9_headsToSplit_3 : GoodIn vs_k_X9_headsToSplit (wsV RX9 282 RX7 yX7_bodyHolds vs_k_X7_bodyHolds) := goodIn_app (goodIn_sub (by decide +kernel) (by decide +kernel)) (goodIn_sub (fun _ h => List.mem_cons_of_mem _ (List.mem_append_right _ (List.mem_append_right _ (List.mem_append_right _ (List.mem_append_right _ (List.mem_append_right _ (h))))))) (by decide +kernel))
set_option maxHeartbeats 4000000 in
set_option maxRecDepth 100000 in
theorem k_X9_headsToSplit (l : Launch) (D : va_G) (ty : Nat → ClassId) (td mi sz : Nat) (pp : pT) (X : Nat → Nat) (pn : Int32) (rn : Int32) (tn : Int32) (en : Int32) (rf : Nat → Option Nat) (an : Int32) (ch : Int32) (cg : Int32) (fb : Int32) (mh : Int32) (ml : Int32) (ih : Int32) (lb : Int32) (ic : Int32) (cn : Int32) (c1 : Nat → Int32) (c2 : Nat → Int32) (c3 : Nat → Int32) (c4 : Nat → Int32) (ac : Nat → Int32) (obi : Nat → Int32) (sc : Nat → Int32) (a1 : Int32) (a2 : Int32) (hok : pOK pp) (hru : ∀ (i a : Nat), rf i = some a → a ∈ pRA pp) (TT : r_k_X9_headsToSplit) (hTT : TT = m_k_X9_headsToSplit pp rn rf an ch cg c1 c2 c3 c4 ac obi sc a1 a2) : Met l yX9_headsToSplit vs_k_X9_headsToSplit { frames := 4, cells := 0, slots := 0, locals := 91 } (va_Pc [.ref (X 20), .int a1, .int a2] (wq_P D ty td mi ((wW_k_X9_headsToSplit ty X pn rn tn en rf an ch cg fb mh ml ih lb ic cn c1 c2 c3 c4 ac obi sc) ++ pw ty pp) sz)) (va_Qi (fun (r : Int32) (u : va_W) => (r = TT ∧ (u = ((wW_k_X9_headsToSplit ty X pn rn tn en rf an ch cg fb mh ml ih lb ic cn c1 c2 c3 c4 ac obi sc) ++ pw ty pp)))) (wq_B D (va_A ((wW_k_X9_headsToSplit ty X pn rn tn en rf an ch cg fb mh ml ih lb ic cn c1 c2 c3 c4 ac obi sc) ++ pw ty pp) sz)) (va_A ((wW_k_X9_headsToSplit ty X pn rn tn en rf an ch cg fb mh ml ih lb ic cn c1 c2 c3 c4 ac obi sc) ++ pw ty pp) sz)) 0 0 (va_A ((wW_k_X9_headsToSplit ty X pn rn tn en rf an ch cg fb mh ml ih lb ic cn c1 c2 c3 c4 ac obi sc) ++ pw ty pp) sz) := by
  refine Met.ofW (cc := cX9_headsToSplit) (maxL := 7) (ret := (some .int)) (by decide) rfl ?_
  intro p e s m args below meth c s₁ B hml hv
  obtain ⟨rfl, hsz, hP, hK, hD0, hE⟩ := hv
  have hx := B.exec
  have hb := B.bytes
  have hr := B.returns
  have hts := atoms_spec (ws := vs_k_X9_headsToSplit) B.pre
  have hown : s.vm.findClass RX9 = some m.cls := findClass_of_methodNamed B.named
  have hlocks := B.notSynchronized
  subst hsz
  have hD := hD0.self (sz := s.heap.size)
  generalize hAe : va_A ((wW_k_X9_headsToSplit ty X pn rn tn en rf an ch cg fb mh ml ih lb ic cn c1 c2 c3 c4 ac obi sc) ++ pw ty pp) s.heap.size = A at hD hE ⊢
  have hA : ∀ q : Nat, s.heap.size ≤ q → A q := fun q h => by rw [← hAe]; exact Or.inr h
  have hS : va_S A s.heap s.heap [] := va_S.rf
  have hP : va_P D vwCl ((wW_k_X9_headsToSplit ty X pn rn tn en rf an ch cg fb mh ml ih lb ic cn c1 c2 c3 c4 ac obi sc) ++ pw ty pp) s.heap := hP
  have hl := lv_entry ([.ref (X 20), .int a1, .int a2]) (n := 7) (Nat.le_of_ble_eq_true rfl)
  rw [lg_entry_eq]
  generalize (lg_sl ([.ref (X 20), .int a1, .int a2]) ++ List.replicate (7 - (lg_sl ([.ref (X 20), .int a1, .int a2])).length) Slot.unset).toArray = ls at hl ⊢
  have hl : lv_has ls 7 [(0, .ref (X 20)), (1, .int a1), (2, .int a2)] := hl
  have END : ∀ (r : Int32), TT = r → ∀ (H : Heap) (locs : List Loc), va_P D vwCl ((wW_k_X9_headsToSplit ty X pn rn tn en rf an ch cg fb mh ml ih lb ic cn c1 c2 c3 c4 ac obi sc) ++ pw ty pp) H → va_D A ((wW_k_X9_headsToSplit ty X pn rn tn en rf an ch cg fb mh ml ih lb ic cn c1 c2 c3 c4 ac obi sc) ++ pw ty pp) → va_S A s.heap H locs → ∀ (ls : Array Slot) (pc : Nat), decode cX9_headsToSplit pc = .ok (.ireturn, 1) → W p l e (headSpec vs_k_X9_headsToSplit { frames := 4, cells := 0, slots := 0, locals := 91 }).room s m ([.ref (X 20), .int a1, .int a2] : List Value).toArray below meth c H locs 0 0 (MQ below (va_Qi (fun (r : Int32) (u : va_W) => (r = TT ∧ (u = ((wW_k_X9_headsToSplit ty X pn rn tn en rf an ch cg fb mh ml ih lb ic cn c1 c2 c3 c4 ac obi sc) ++ pw ty pp)))) (wq_B D A) A) ([.ref (X 20), .int a1, .int a2] : List Value).toArray s 0 0 A) (F0 m pc ls [.int r]) := by
    intro r hT H locs hP hD hS ls pc hd
    have hM : TT = r := hT
    exact W.iret (v := r) hx hb hr (fun t ht hW => ⟨⟨r, ((wW_k_X9_headsToSplit ty X pn rn tn en rf an ch cg fb mh ml ih lb ic cn c1 c2 c3 c4 ac obi sc) ++ pw ty pp), rfl, ⟨(by rw [hM]), rfl⟩, wq_B.of ht hP hD⟩, hS.F ht⟩) hS.2.2 hd
  have hT := hTT
  rw [m_k_X9_headsToSplit] at hT
  refine lv_aload_n hx hb dX9_headsToSplit_0 rfl (lv_at hl 0 rfl) ?_
  refine lv_iload_n hx hb dX9_headsToSplit_1 rfl (lv_at hl 1 rfl) ?_
  obtain ⟨t_2, ht_2⟩ : ∃ t, t = m_k_X9_countsHeld pp rn rf cg obi sc a1 := ⟨_, rfl⟩
  rw [lE_eq ht_2] at hT
  refine wq_iPW (wc := (wW_k_X9_countsHeld ty X pn rn tn en rf an ch cg fb mh ml ih lb ic obi sc)) (pl := pw ty pp) (ux := (wW_k_X9_countsHeld ty X pn rn tn en rf an ch cg fb mh ml ih lb ic obi sc)) (va_runV (As := [.int a1]) (rest := []) ⟨hx, hb, hml, hown, hts⟩ (k_X9_countsHeld l D ty td mi s.heap.size pp X pn rn tn en rf an ch cg fb mh ml ih lb ic obi sc a1 hok hru t_2 ht_2) (cwV 1 hts gv_k_X9_headsToSplit_0 rfl rfl rfl (by decide +kernel) ⟨(Nat.le_of_ble_eq_true rfl), (Nat.le_of_ble_eq_true rfl)⟩) (wm_V (wm_preSP hP hD hK hE hS hA [true, true, true, false, false, false, false, false, false, true, true] rfl) (va_recv (q0 := 2) (ci := 11) hK hP rfl rfl)) rfl rfl hl.1 rfl (lv_room (Nat.le_of_ble_eq_true rfl)) dX9_headsToSplit_2 ⟨(Nat.le_of_ble_eq_true rfl), (Nat.le_of_ble_eq_true rfl)⟩) hS hA hP hD [true, true, true, false, false, false, false, false, false, true, true] rfl rfl (fun _ _ h => h.2) (fun r H locs hw hP hD hS => ?_)
  obtain ⟨hr0, -⟩ := hw
  subst r
  have hP : va_P D vwCl ((wW_k_X9_headsToSplit ty X pn rn tn en rf an ch cg fb mh ml ih lb ic cn c1 c2 c3 c4 ac obi sc) ++ pw ty pp) H := hP
  have hD : va_D A ((wW_k_X9_headsToSplit ty X pn rn tn en rf an ch cg fb mh ml ih lb ic cn c1 c2 c3 c4 ac obi sc) ++ pw ty pp) := hD
  refine W.widen (k := 0) (n := 0) (Nat.le_of_ble_eq_true rfl) (Nat.le_of_ble_eq_true rfl) ?_
  refine lv_istore_n (lv' := [(3, .int t_2), (0, .ref (X 20)), (1, .int a1), (2, .int a2)]) hx hb dX9_headsToSplit_5 rfl hl (by decide) rfl (fun ls hl => ?_)
  refine lv_iconst (v := 0) hx hb dX9_headsToSplit_6 (by decide) ?_
  refine lv_istore (lv' := [(4, .int 0), (3, .int t_2), (0, .ref (X 20)), (1, .int a1), (2, .int a2)]) hx hb dX9_headsToSplit_7 hl (by decide) rfl (fun ls hl => ?_)
  have L_9 : ∀ (n_9 : Nat) (v4_9 : Int32), (2147483648 - v4_9.toInt).toNat < n_9 → TT = m_k_X9_headsToSplit_9 an ch c1 c2 c3 c4 ac a1 a2 t_2 n_9 v4_9 → 0 ≤ v4_9.toInt → ∀ (H : Heap) (locs : List Loc), va_P D vwCl ((wW_k_X9_headsToSplit ty X pn rn tn en rf an ch cg fb mh ml ih lb ic cn c1 c2 c3 c4 ac obi sc) ++ pw ty pp) H → va_D A ((wW_k_X9_headsToSplit ty X pn rn tn en rf an ch cg fb mh ml ih lb ic cn c1 c2 c3 c4 ac obi sc) ++ pw ty pp) → va_S A s.heap H locs → ∀ ls : Array Slot, lv_has ls 7 [(0, .ref (X 20)), (1, .int a1), (2, .int a2), (3, .int t_2), (4, .int v4_9)] → W p l e (headSpec vs_k_X9_headsToSplit { frames := 4, cells := 0, slots := 0, locals := 91 }).room s m ([.ref (X 20), .int a1, .int a2] : List Value).toArray below meth c H locs 0 0 (MQ below (va_Qi (fun (r : Int32) (u : va_W) => (r = TT ∧ (u = ((wW_k_X9_headsToSplit ty X pn rn tn en rf an ch cg fb mh ml ih lb ic cn c1 c2 c3 c4 ac obi sc) ++ pw ty pp)))) (wq_B D A) A) ([.ref (X 20), .int a1, .int a2] : List Value).toArray s 0 0 A) (F0 m 9 ls []) := by
    intro n_9
    induction n_9 with
    | zero => intro v4_9 hu; exact absurd hu (Nat.not_lt_zero _)
    | succ n_9 ih_9 =>
      intro v4_9 hu_9 hT hn_9 H locs hP hD hS ls hl
      rw [m_k_X9_headsToSplit_9_succ, m_k_X9_headsToSplit_9s] at hT
      refine lv_iload hx hb dX9_headsToSplit_9 (lv_at hl 4 rfl) ?_
      refine lv_aload_n hx hb dX9_headsToSplit_11 rfl (lv_at hl 0 rfl) ?_
      refine va_get (D := D) (ci := 11) (v := .int an) (C := RX9) (T := TX9) (N := 17) hx hb hts iv_k_X9_headsToSplit_X9 hown hK hP 2 rfl rfl 5 (by decide) (hts (.fieldLink RX9 276 "AnswerFold$Solver" "activeCount" "I") (by decide +kernel)) (fun _ h9 => h9) rfl dX9_headsToSplit_12 ?_
      refine lv_icmp_ge (tgt := 87) hx hb dX9_headsToSplit_15 (by decide) (fun c_3 => ?_) (fun c_3 => ?_)
      · rw [if_pos c_3] at hT
        refine lv_iconst (v := 0) hx hb dX9_headsToSplit_87 (by decide) ?_
        exact END 0 hT _ _ hP hD hS _ _ dX9_headsToSplit_88
      · rw [if_neg c_3] at hT
        refine lv_iload hx hb dX9_headsToSplit_18 (lv_at hl 4 rfl) ?_
        refine lv_sipush (v := 300) hx hb dX9_headsToSplit_20 (by decide) ?_
        refine lv_icmp_ge (tgt := 87) hx hb dX9_headsToSplit_23 (by decide) (fun c_4 => ?_) (fun c_4 => ?_)
        · rw [if_pos c_4] at hT
          refine lv_iconst (v := 0) hx hb dX9_headsToSplit_87 (by decide) ?_
          exact END 0 hT _ _ hP hD hS _ _ dX9_headsToSplit_88
        · rw [if_neg c_4] at hT
          refine lv_aload_n hx hb dX9_headsToSplit_26 rfl (lv_at hl 0 rfl) ?_
          refine va_get (D := D) (ci := 11) (v := .ref (X 35)) (C := RX9) (T := TX9) (N := 17) hx hb hts iv_k_X9_headsToSplit_X9 hown hK hP 2 rfl rfl 4 (by decide) (hts (.fieldLink RX9 21 "AnswerFold$Solver" "active" "[I") (by decide +kernel)) (fun _ h9 => h9) rfl dX9_headsToSplit_27 ?_
          refine lv_iload hx hb dX9_headsToSplit_30 (lv_at hl 4 rfl) ?_
          refine va_iald (D := D) hx hb hK hP 8 0 rfl rfl (wi_in hn_9 (wi_hi c_4 (by decide))) dX9_headsToSplit_32 ?_
          refine lv_istore (lv' := [(5, .int (ac v4_9.toNatClampNeg)), (0, .ref (X 20)), (1, .int a1), (2, .int a2), (3, .int t_2), (4, .int v4_9)]) hx hb dX9_headsToSplit_33 hl (by decide) rfl (fun ls hl => ?_)
          refine lv_aload_n hx hb dX9_headsToSplit_35 rfl (lv_at hl 1 rfl) ?_
          refine va_get (D := D) (ci := 11) (v := .ref (X 21)) (C := RX9) (T := TX9) (N := 17) hx hb hts iv_k_X9_headsToSplit_X9 hown hK hP 2 rfl rfl 2 (by decide) (hts (.fieldLink RX9 12 "AnswerFold$Solver" "checks" "LAnswerFold$Rows;") (by decide +kernel)) (fun _ h9 => h9) rfl dX9_headsToSplit_36 ?_
          refine lv_iload hx hb dX9_headsToSplit_39 (lv_at hl 0 rfl) ?_
          obtain ⟨t_41, ht_41⟩ : ∃ t, t = m_k_X7_headsAt c4 (ac v4_9.toNatClampNeg) := ⟨_, rfl⟩
          rw [lE_eq ht_41] at hT
          refine wq_iQW (wc := (wW_k_X7_headsAt ty (X 21) (X 22) (X 23) (X 24) (X 25) (X 26) (X 27) cn c4)) (pl := pw ty pp) (va_runV (As := [.int (ac v4_9.toNatClampNeg)]) (rest := []) ⟨hx, hb, hml, hown, hts⟩ (k_X7_headsAt l D ty td mi H.size (X 21) (X 22) (X 23) (X 24) (X 25) (X 26) (X 27) cn c4 (ac v4_9.toNatClampNeg) t_41 ht_41) (cwV 1 hts gv_k_X9_headsToSplit_1 rfl rfl rfl (by decide +kernel) ⟨(Nat.le_of_ble_eq_true rfl), (Nat.le_of_ble_eq_true rfl)⟩) (wm_V (wm_preS (vP_left hP) (vD_left hD) hK hE hS hA [false, false, false, true, false, false, false, true] rfl) (va_recv (q0 := 3) (ci := 9) hK hP rfl rfl)) rfl rfl hl.1 rfl (lv_room (Nat.le_of_ble_eq_true rfl)) dX9_headsToSplit_41 ⟨(Nat.le_of_ble_eq_true rfl), (Nat.le_of_ble_eq_true rfl)⟩) hS hA hP hD [false, false, false, true, false, false, false, true] rfl (fun _ _ h => by rcases h with ⟨-, rfl⟩; rfl) (fun r u H locs hw hP hD hS => ?_)
          obtain ⟨hr0, rfl⟩ := hw
          subst r
          have hP : va_P D vwCl ((wW_k_X9_headsToSplit ty X pn rn tn en rf an ch cg fb mh ml ih lb ic cn c1 c2 c3 c4 ac obi sc) ++ pw ty pp) H := hP
          have hD : va_D A ((wW_k_X9_headsToSplit ty X pn rn tn en rf an ch cg fb mh ml ih lb ic cn c1 c2 c3 c4 ac obi sc) ++ pw ty pp) := hD
          refine W.widen (k := 0) (n := 0) (Nat.le_of_ble_eq_true rfl) (Nat.le_of_ble_eq_true rfl) ?_
          refine lv_iload_n hx hb dX9_headsToSplit_44 rfl (lv_at hl 3 rfl) ?_
          refine lv_iand hx hb dX9_headsToSplit_45 ?_
          refine lv_istore (lv' := [(6, .int (t_41 &&& a2)), (5, .int (ac v4_9.toNatClampNeg)), (0, .ref (X 20)), (1, .int a1), (2, .int a2), (3, .int t_2), (4, .int v4_9)]) hx hb dX9_headsToSplit_46 hl (by decide) rfl (fun ls hl => ?_)
          refine lv_aload_n hx hb dX9_headsToSplit_48 rfl (lv_at hl 2 rfl) ?_
          refine lv_iload hx hb dX9_headsToSplit_49 (lv_at hl 1 rfl) ?_
          obtain ⟨t_51, ht_51⟩ : ∃ t, t = m_k_X9_isChoice ch c1 (ac v4_9.toNatClampNeg) := ⟨_, rfl⟩
          rw [lE_eq ht_51] at hT
          refine wq_iQW (wc := (wW_k_X9_isChoice ty X an ch cg fb mh ml ih lb ic cn c1)) (pl := pw ty pp) (va_runV (As := [.int (ac v4_9.toNatClampNeg)]) (rest := []) ⟨hx, hb, hml, hown, hts⟩ (k_X9_isChoice l D ty td mi H.size X an ch cg fb mh ml ih lb ic cn c1 (ac v4_9.toNatClampNeg) t_51 ht_51) (cwV 1 hts gv_k_X9_headsToSplit_2 rfl rfl rfl (by decide +kernel) ⟨(Nat.le_of_ble_eq_true rfl), (Nat.le_of_ble_eq_true rfl)⟩) (wm_V (wm_preS (vP_left hP) (vD_left hD) hK hE hS hA [false, false, true, true, true] rfl) (va_recv (q0 := 2) (ci := 11) hK hP rfl rfl)) rfl rfl hl.1 rfl (lv_room (Nat.le_of_ble_eq_true rfl)) dX9_headsToSplit_51 ⟨(Nat.le_of_ble_eq_true rfl), (Nat.le_of_ble_eq_true rfl)⟩) hS hA hP hD [false, false, true, true, true] rfl (fun _ _ h => by rcases h with ⟨-, -, rfl⟩; rfl) (fun r u H locs hw hP hD hS => ?_)
          obtain ⟨hr0, c_9, rfl⟩ := hw
          subst r
          have hP : va_P D vwCl ((wW_k_X9_headsToSplit ty X pn rn tn en rf an ch cg fb mh ml ih lb ic cn c1 c2 c3 c4 ac obi sc) ++ pw ty pp) H := hP
          have hD : va_D A ((wW_k_X9_headsToSplit ty X pn rn tn en rf an ch cg fb mh ml ih lb ic cn c1 c2 c3 c4 ac obi sc) ++ pw ty pp) := hD
          refine W.widen (k := 0) (n := 0) (Nat.le_of_ble_eq_true rfl) (Nat.le_of_ble_eq_true rfl) ?_
          have J_81 : ∀ (_ : Unit), TT = m_k_X9_headsToSplit_81 (m_k_X9_headsToSplit_9 an ch c1 c2 c3 c4 ac a1 a2 t_2 n_9) v4_9 → ∀ (H : Heap) (locs : List Loc), va_P D vwCl ((wW_k_X9_headsToSplit ty X pn rn tn en rf an ch cg fb mh ml ih lb ic cn c1 c2 c3 c4 ac obi sc) ++ pw ty pp) H → va_D A ((wW_k_X9_headsToSplit ty X pn rn tn en rf an ch cg fb mh ml ih lb ic cn c1 c2 c3 c4 ac obi sc) ++ pw ty pp) → va_S A s.heap H locs → ∀ ls : Array Slot, lv_has ls 7 [(0, .ref (X 20)), (1, .int a1), (2, .int a2), (3, .int t_2), (4, .int v4_9)] → W p l e (headSpec vs_k_X9_headsToSplit { frames := 4, cells := 0, slots := 0, locals := 91 }).room s m ([.ref (X 20), .int a1, .int a2] : List Value).toArray below meth c H locs 0 0 (MQ below (va_Qi (fun (r : Int32) (u : va_W) => (r = TT ∧ (u = ((wW_k_X9_headsToSplit ty X pn rn tn en rf an ch cg fb mh ml ih lb ic cn c1 c2 c3 c4 ac obi sc) ++ pw ty pp)))) (wq_B D A) A) ([.ref (X 20), .int a1, .int a2] : List Value).toArray s 0 0 A) (F0 m 81 ls []) := by
            intro _ hT  H locs hP hD hS ls hl
            rw [m_k_X9_headsToSplit_81] at hT
            refine lv_iinc (v := v4_9 + 1) (lv' := [(4, .int (v4_9 + 1)), (0, .ref (X 20)), (1, .int a1), (2, .int a2), (3, .int t_2)]) hx hb dX9_headsToSplit_81 hl (k := 4) rfl (by rfl) (by decide) rfl (fun ls hl => ?_)
            refine lv_goto (tgt := 9) hx hb dX9_headsToSplit_84 (by decide) ?_
            exact ih_9 (v4_9 + 1) (wi_up hu_9 (Int32.not_le.mp c_3)) hT (wi_inc hn_9 (Int32.not_le.mp c_3)) _ _ hP hD hS _ (lv_sub hl [1, 2, 3, 4, 0] rfl)
          refine lv_if_ne (tgt := 81) hx hb dX9_headsToSplit_54 (by decide) (fun c_10 => ?_) (fun c_10 => ?_)
          · rw [if_neg c_10] at hT
            exact J_81 () hT _ _ hP hD hS _ (lv_sub hl [2, 3, 4, 5, 6] rfl)
          · rw [if_pos c_10] at hT
            refine lv_iload hx hb dX9_headsToSplit_57 (lv_at hl 0 rfl) ?_
            refine lv_iload_n hx hb dX9_headsToSplit_59 rfl (lv_at hl 3 rfl) ?_
            refine lv_iand hx hb dX9_headsToSplit_60 ?_
            refine lv_if_ne (tgt := 81) hx hb dX9_headsToSplit_61 (by decide) (fun c_11 => ?_) (fun c_11 => ?_)
            · rw [if_neg c_11] at hT
              exact J_81 () hT _ _ hP hD hS _ (lv_sub hl [2, 3, 4, 5, 6] rfl)
            · rw [if_pos c_11] at hT
              refine lv_aload_n hx hb dX9_headsToSplit_64 rfl (lv_at hl 2 rfl) ?_
              refine va_get (D := D) (ci := 11) (v := .ref (X 21)) (C := RX9) (T := TX9) (N := 17) hx hb hts iv_k_X9_headsToSplit_X9 hown hK hP 2 rfl rfl 2 (by decide) (hts (.fieldLink RX9 12 "AnswerFold$Solver" "checks" "LAnswerFold$Rows;") (by decide +kernel)) (fun _ h9 => h9) rfl dX9_headsToSplit_65 ?_
              refine lv_iload hx hb dX9_headsToSplit_68 (lv_at hl 1 rfl) ?_
              refine lv_iload_n hx hb dX9_headsToSplit_70 rfl (lv_at hl 3 rfl) ?_
              refine lv_iload_n hx hb dX9_headsToSplit_71 rfl (lv_at hl 5 rfl) ?_
              obtain ⟨t_72, ht_72⟩ : ∃ t, t = m_k_X7_bodyHolds c1 c2 c3 (ac v4_9.toNatClampNeg) a1 t_2 := ⟨_, rfl⟩
              rw [lE_eq ht_72] at hT
              refine wq_iQW (wc := (wW_k_X7_bodyHolds ty (X 21) (X 22) (X 23) (X 24) (X 25) (X 26) (X 27) cn c1 c2 c3)) (pl := pw ty pp) (va_runV (As := [.int (ac v4_9.toNatClampNeg), .int a1, .int t_2]) (rest := []) ⟨hx, hb, hml, hown, hts⟩ (k_X7_bodyHolds l D ty td mi H.size (X 21) (X 22) (X 23) (X 24) (X 25) (X 26) (X 27) cn c1 c2 c3 (ac v4_9.toNatClampNeg) a1 t_2 t_72 ht_72) (cwV 3 hts gv_k_X9_headsToSplit_3 rfl rfl rfl (by decide +kernel) ⟨(Nat.le_of_ble_eq_true rfl), (Nat.le_of_ble_eq_true rfl)⟩) (wm_V (wm_preS (vP_left hP) (vD_left hD) hK hE hS hA [false, false, false, true, true, true, true] rfl) (va_recv (q0 := 3) (ci := 9) hK hP rfl rfl)) rfl rfl hl.1 rfl (lv_room (Nat.le_of_ble_eq_true rfl)) dX9_headsToSplit_72 ⟨(Nat.le_of_ble_eq_true rfl), (Nat.le_of_ble_eq_true rfl)⟩) hS hA hP hD [false, false, false, true, true, true, true] rfl (fun _ _ h => by rcases h with ⟨-, -, rfl⟩; rfl) (fun r u H locs hw hP hD hS => ?_)
              obtain ⟨hr0, c_14, rfl⟩ := hw
              subst r
              have hP : va_P D vwCl ((wW_k_X9_headsToSplit ty X pn rn tn en rf an ch cg fb mh ml ih lb ic cn c1 c2 c3 c4 ac obi sc) ++ pw ty pp) H := hP
              have hD : va_D A ((wW_k_X9_headsToSplit ty X pn rn tn en rf an ch cg fb mh ml ih lb ic cn c1 c2 c3 c4 ac obi sc) ++ pw ty pp) := hD
              refine W.widen (k := 0) (n := 0) (Nat.le_of_ble_eq_true rfl) (Nat.le_of_ble_eq_true rfl) ?_
              refine lv_if_eq (tgt := 81) hx hb dX9_headsToSplit_75 (by decide) (fun c_15 => ?_) (fun c_15 => ?_)
              · rw [if_pos c_15] at hT
                exact J_81 () hT _ _ hP hD hS _ (lv_sub hl [2, 3, 4, 5, 6] rfl)
              · rw [if_neg c_15] at hT
                refine lv_iload hx hb dX9_headsToSplit_78 (lv_at hl 0 rfl) ?_
                exact END (t_41 &&& a2) hT _ _ hP hD hS _ _ dX9_headsToSplit_80
  exact L_9 wF 0 (wF_up 0) hT (by decide) _ _ hP hD hS _ (lv_sub hl [2, 3, 4, 1, 0] rfl)
theorem dX9_hasSmaller_0 : decode cX9_hasSmaller 0 = .ok (.aload_n 0, 1) := by decide +kernel
theorem dX9_hasSmaller_1 : decode cX9_hasSmaller 1 = .ok (.iload_n 1, 1) := by decide +kernel
theorem dX9_hasSmaller_2 : decode cX9_hasSmaller 2 = .ok (.invokevirtual 266, 3) := by decide +kernel
theorem dX9_hasSmaller_5 : decode cX9_hasSmaller 5 = .ok (.aload_n 0, 1) := by decide +kernel
theorem dX9_hasSmaller_6 : decode cX9_hasSmaller 6 = .ok (.getfield 31, 3) := by decide +kernel
theorem dX9_hasSmaller_9 : decode cX9_hasSmaller 9 = .ok (.iconst 0, 1) := by decide +kernel
theorem dX9_hasSmaller_10 : decode cX9_hasSmaller 10 = .ok (.iload_n 1, 1) := by decide +kernel
theorem dX9_hasSmaller_11 : decode cX9_hasSmaller 11 = .ok (.aload_n 0, 1) := by decide +kernel
theorem dX9_hasSmaller_12 : decode cX9_hasSmaller 12 = .ok (.getfield 75, 3) := by decide +kernel
theorem dX9_hasSmaller_15 : decode cX9_hasSmaller 15 = .ok (.iand, 1) := by decide +kernel
theorem dX9_hasSmaller_16 : decode cX9_hasSmaller 16 = .ok (.iastore, 1) := by decide +kernel
theorem dX9_hasSmaller_17 : decode cX9_hasSmaller 17 = .ok (.iconst 1, 1) := by decide +kernel
theorem dX9_hasSmaller_18 : decode cX9_hasSmaller 18 = .ok (.istore_n 2, 1) := by decide +kernel
theorem dX9_hasSmaller_19 : decode cX9_hasSmaller 19 = .ok (.iconst 0, 1) := by decide +kernel
theorem dX9_hasSmaller_20 : decode cX9_hasSmaller 20 = .ok (.istore_n 3, 1) := by decide +kernel
theorem dX9_hasSmaller_21 : decode cX9_hasSmaller 21 = .ok (.iload_n 2, 1) := by decide +kernel
theorem dX9_hasSmaller_22 : decode cX9_hasSmaller 22 = .ok (.ifCond .le 114, 3) := by decide +kernel
theorem dX9_hasSmaller_25 : decode cX9_hasSmaller 25 = .ok (.iload_n 2, 1) := by decide +kernel
theorem dX9_hasSmaller_26 : decode cX9_hasSmaller 26 = .ok (.aload_n 0, 1) := by decide +kernel
theorem dX9_hasSmaller_27 : decode cX9_hasSmaller 27 = .ok (.getfield 31, 3) := by decide +kernel
theorem dX9_hasSmaller_30 : decode cX9_hasSmaller 30 = .ok (.arraylength, 1) := by decide +kernel
theorem dX9_hasSmaller_31 : decode cX9_hasSmaller 31 = .ok (.if_icmp .ge 105, 3) := by decide +kernel
theorem dX9_hasSmaller_34 : decode cX9_hasSmaller 34 = .ok (.iload_n 3, 1) := by decide +kernel
theorem dX9_hasSmaller_35 : decode cX9_hasSmaller 35 = .ok (.ldc_w 269, 3) := by decide +kernel
theorem dX9_hasSmaller_38 : decode cX9_hasSmaller 38 = .ok (.if_icmp .ge 98, 3) := by decide +kernel
theorem dX9_hasSmaller_41 : decode cX9_hasSmaller 41 = .ok (.iinc 2 (-1), 3) := by decide +kernel
theorem dX9_hasSmaller_44 : decode cX9_hasSmaller 44 = .ok (.aload_n 0, 1) := by decide +kernel
theorem dX9_hasSmaller_45 : decode cX9_hasSmaller 45 = .ok (.aload_n 0, 1) := by decide +kernel
theorem dX9_hasSmaller_46 : decode cX9_hasSmaller 46 = .ok (.getfield 31, 3) := by decide +kernel
theorem dX9_hasSmaller_49 : decode cX9_hasSmaller 49 = .ok (.iload_n 2, 1) := by decide +kernel
theorem dX9_hasSmaller_50 : decode cX9_hasSmaller 50 = .ok (.iaload, 1) := by decide +kernel
theorem dX9_hasSmaller_51 : decode cX9_hasSmaller 51 = .ok (.iload_n 1, 1) := by decide +kernel
theorem dX9_hasSmaller_52 : decode cX9_hasSmaller 52 = .ok (.invokevirtual 270, 3) := by decide +kernel
theorem dX9_hasSmaller_55 : decode cX9_hasSmaller 55 = .ok (.istore 4, 2) := by decide +kernel
theorem dX9_hasSmaller_57 : decode cX9_hasSmaller 57 = .ok (.aload_n 0, 1) := by decide +kernel
theorem dX9_hasSmaller_58 : decode cX9_hasSmaller 58 = .ok (.iload 4, 2) := by decide +kernel
theorem dX9_hasSmaller_60 : decode cX9_hasSmaller 60 = .ok (.iload_n 1, 1) := by decide +kernel
theorem dX9_hasSmaller_61 : decode cX9_hasSmaller 61 = .ok (.invokevirtual 273, 3) := by decide +kernel
theorem dX9_hasSmaller_64 : decode cX9_hasSmaller 64 = .ok (.istore 5, 2) := by decide +kernel
theorem dX9_hasSmaller_66 : decode cX9_hasSmaller 66 = .ok (.iload 5, 2) := by decide +kernel
theorem dX9_hasSmaller_68 : decode cX9_hasSmaller 68 = .ok (.ifCond .ne 11, 3) := by decide +kernel
theorem dX9_hasSmaller_71 : decode cX9_hasSmaller 71 = .ok (.iload 4, 2) := by decide +kernel
theorem dX9_hasSmaller_73 : decode cX9_hasSmaller 73 = .ok (.iload_n 1, 1) := by decide +kernel
theorem dX9_hasSmaller_74 : decode cX9_hasSmaller 74 = .ok (.if_icmp .eq 56, 3) := by decide +kernel
theorem dX9_hasSmaller_77 : decode cX9_hasSmaller 77 = .ok (.iconst 1, 1) := by decide +kernel
theorem dX9_hasSmaller_78 : decode cX9_hasSmaller 78 = .ok (.ireturn, 1) := by decide +kernel
theorem dX9_hasSmaller_79 : decode cX9_hasSmaller 79 = .ok (.iload_n 2, 1) := by decide +kernel
theorem dX9_hasSmaller_80 : decode cX9_hasSmaller 80 = .ok (.iconst 1, 1) := by decide +kernel
theorem dX9_hasSmaller_81 : decode cX9_hasSmaller 81 = .ok (.iadd, 1) := by decide +kernel
theorem dX9_hasSmaller_82 : decode cX9_hasSmaller 82 = .ok (.aload_n 0, 1) := by decide +kernel
theorem dX9_hasSmaller_83 : decode cX9_hasSmaller 83 = .ok (.getfield 31, 3) := by decide +kernel
theorem dX9_hasSmaller_86 : decode cX9_hasSmaller 86 = .ok (.arraylength, 1) := by decide +kernel
theorem dX9_hasSmaller_87 : decode cX9_hasSmaller 87 = .ok (.if_icmp .ge 43, 3) := by decide +kernel
theorem dX9_hasSmaller_90 : decode cX9_hasSmaller 90 = .ok (.iload 5, 2) := by decide +kernel
theorem dX9_hasSmaller_92 : decode cX9_hasSmaller 92 = .ok (.iload 5, 2) := by decide +kernel
theorem dX9_hasSmaller_94 : decode cX9_hasSmaller 94 = .ok (.ineg, 1) := by decide +kernel
theorem dX9_hasSmaller_95 : decode cX9_hasSmaller 95 = .ok (.iand, 1) := by decide +kernel
theorem dX9_hasSmaller_96 : decode cX9_hasSmaller 96 = .ok (.istore 6, 2) := by decide +kernel
theorem dX9_hasSmaller_98 : decode cX9_hasSmaller 98 = .ok (.aload_n 0, 1) := by decide +kernel
theorem dX9_hasSmaller_99 : decode cX9_hasSmaller 99 = .ok (.getfield 31, 3) := by decide +kernel
theorem dX9_hasSmaller_102 : decode cX9_hasSmaller 102 = .ok (.iload_n 2, 1) := by decide +kernel
theorem dX9_hasSmaller_103 : decode cX9_hasSmaller 103 = .ok (.iload 4, 2) := by decide +kernel
theorem dX9_hasSmaller_105 : decode cX9_hasSmaller 105 = .ok (.iload 6, 2) := by decide +kernel
theorem dX9_hasSmaller_107 : decode cX9_hasSmaller 107 = .ok (.ior, 1) := by decide +kernel
theorem dX9_hasSmaller_108 : decode cX9_hasSmaller 108 = .ok (.iastore, 1) := by decide +kernel
theorem dX9_hasSmaller_109 : decode cX9_hasSmaller 109 = .ok (.aload_n 0, 1) := by decide +kernel
theorem dX9_hasSmaller_110 : decode cX9_hasSmaller 110 = .ok (.getfield 31, 3) := by decide +kernel
theorem dX9_hasSmaller_113 : decode cX9_hasSmaller 113 = .ok (.iload_n 2, 1) := by decide +kernel
theorem dX9_hasSmaller_114 : decode cX9_hasSmaller 114 = .ok (.iconst 1, 1) := by decide +kernel
theorem dX9_hasSmaller_115 : decode cX9_hasSmaller 115 = .ok (.iadd, 1) := by decide +kernel
theorem dX9_hasSmaller_116 : decode cX9_hasSmaller 116 = .ok (.iload 4, 2) := by decide +kernel
theorem dX9_hasSmaller_118 : decode cX9_hasSmaller 118 = .ok (.iload 5, 2) := by decide +kernel
theorem dX9_hasSmaller_120 : decode cX9_hasSmaller 120 = .ok (.iload 6, 2) := by decide +kernel
theorem dX9_hasSmaller_122 : decode cX9_hasSmaller 122 = .ok (.iconst (-1), 1) := by decide +kernel
theorem dX9_hasSmaller_123 : decode cX9_hasSmaller 123 = .ok (.ixor, 1) := by decide +kernel
theorem dX9_hasSmaller_124 : decode cX9_hasSmaller 124 = .ok (.iand, 1) := by decide +kernel
theorem dX9_hasSmaller_125 : decode cX9_hasSmaller 125 = .ok (.ior, 1) := by decide +kernel
theorem dX9_hasSmaller_126 : decode cX9_hasSmaller 126 = .ok (.iastore, 1) := by decide +kernel
theorem dX9_hasSmaller_127 : decode cX9_hasSmaller 127 = .ok (.iinc 2 2, 3) := by decide +kernel
theorem dX9_hasSmaller_130 : decode cX9_hasSmaller 130 = .ok (.iinc 3 1, 3) := by decide +kernel
theorem dX9_hasSmaller_133 : decode cX9_hasSmaller 133 = .ok (.goto (-112), 3) := by decide +kernel
theorem dX9_hasSmaller_136 : decode cX9_hasSmaller 136 = .ok (.iconst 0, 1) := by decide +kernel
theorem dX9_hasSmaller_137 : decode cX9_hasSmaller 137 = .ok (.ireturn, 1) := by decide +kernel
def wW_k_X9_hasSmaller (ty : Nat → ClassId) (X : Nat → Nat) (z9_0 : Int32) (z9_1 : Int32) (z9_2 : Int32) (z9_3 : Int32) (z9_4 : Nat → Option Nat) (z9_5 : Int32) (z9_6 : Int32) (z9_7 : Int32) (z9_8 : Int32) (z9_9 : Int32) (z9_10 : Int32) (z9_11 : Int32) (z9_12 : Int32) (z9_13 : Int32) (z9_14 : Int32) (z9_15 : Nat → Int32) (z9_16 : Nat → Int32) (z9_17 : Nat → Int32) (z9_18 : Nat → Int32) (z9_19 : Nat → Int32) (z9_20 : Nat → Int32) (z9_21 : Nat → Int32) (z9_22 : Nat → Int32) : va_W := [((X 1), .inr (8, [.ref (X 2), .int z9_0, .ref (X 3), .int z9_1, .ref (X 4), .ref (X 5), .int z9_2, .ref (X 6), .ref (X 7), .int z9_3])), ((X 3), .inl (ty 4, 20, .inr (.inr (.inr (.inr z9_4))))), ((X 20), .inr (11, [.ref (X 1), .ref (X 8), .ref (X 21), .ref (X 28), .ref (X 35), .int z9_5, .ref (X 36), .ref (X 37), .ref (X 38), .int z9_6, .int z9_7, .int z9_8, .int z9_9, .int z9_10, .int z9_11, .int z9_12, .int z9_13])), ((X 21), .inr (9, [.ref (X 22), .ref (X 23), .ref (X 24), .ref (X 25), .ref (X 26), .ref (X 27), .int z9_14])), ((X 22), .inl (ty 0, 300, .inl z9_15)), ((X 23), .inl (ty 0, 300, .inl z9_16)), ((X 24), .inl (ty 0, 300, .inl z9_17)), ((X 25), .inl (ty 0, 300, .inl z9_18)), ((X 35), .inl (ty 0, 300, .inl z9_19)), ((X 36), .inl (ty 0, 6, .inl z9_20)), ((X 37), .inl (ty 0, 6, .inl z9_21)), ((X 38), .inl (ty 0, 26, .inl z9_22))]
abbrev r_k_X9_hasSmaller : Type := Int32 × Int32 × (Nat → Int32) × (Nat → Int32)
def m_k_X9_hasSmaller_130 (rec_21 : Int32 → Int32 → (Nat → Int32) → r_k_X9_hasSmaller) (v3_21 : Int32) (v2_130 : Int32) (x38_f_130 : Nat → Int32) : r_k_X9_hasSmaller :=
  rec_21 v2_130 (v3_21 + 1) x38_f_130
def m_k_X9_hasSmaller_21s (pp : pT) (rn : Int32) (rf : Nat → Option Nat) (ch : Int32) (cg : Int32) (c1 : Nat → Int32) (c2 : Nat → Int32) (c3 : Nat → Int32) (c4 : Nat → Int32) (obi : Nat → Int32) (sc : Nat → Int32) (a1 : Int32) (t_2 : r_k_X9_listActive) (rec_21 : Int32 → Int32 → (Nat → Int32) → r_k_X9_hasSmaller) (v2_21 : Int32) (v3_21 : Int32) (x38_f_21 : Nat → Int32) : r_k_X9_hasSmaller :=
  if v2_21 ≤ 0 then
    (0, t_2.1, t_2.2, x38_f_21)
  else
    if 26 ≤ v2_21 then
      (0, t_2.1, t_2.2, x38_f_21)
    else
      if 1000000 ≤ v3_21 then
        (0, t_2.1, t_2.2, x38_f_21)
      else
        lE (m_k_X9_grow pp rn rf t_2.1 ch cg c1 c2 c3 c4 t_2.2 obi sc (x38_f_21 (v2_21 + (-1)).toNatClampNeg) a1) (fun t_52 =>
          lE (m_k_X9_headsToSplit pp rn rf t_2.1 ch cg c1 c2 c3 c4 t_2.2 obi sc t_52 a1) (fun t_61 =>
            if t_61 = 0 then
              if t_52 = a1 then
                m_k_X9_hasSmaller_130 rec_21 v3_21 (v2_21 + (-1)) x38_f_21
              else
                (1, t_2.1, t_2.2, x38_f_21)
            else
              if 26 ≤ ((v2_21 + (-1)) + 1) then
                m_k_X9_hasSmaller_130 rec_21 v3_21 (v2_21 + (-1)) x38_f_21
              else
                m_k_X9_hasSmaller_130 rec_21 v3_21 ((v2_21 + (-1)) + 2) (upd (upd x38_f_21 ((v2_21 + (-1)).toNatClampNeg) (t_52 ||| (t_61 &&& (-t_61)))) (((v2_21 + (-1)) + 1).toNatClampNeg) (t_52 ||| (t_61 &&& ((t_61 &&& (-t_61)) ^^^ (-1)))))))
def m_k_X9_hasSmaller_21 (pp : pT) (rn : Int32) (rf : Nat → Option Nat) (ch : Int32) (cg : Int32) (c1 : Nat → Int32) (c2 : Nat → Int32) (c3 : Nat → Int32) (c4 : Nat → Int32) (obi : Nat → Int32) (sc : Nat → Int32) (a1 : Int32) (t_2 : r_k_X9_listActive) : Nat → Int32 → Int32 → (Nat → Int32) → r_k_X9_hasSmaller
  | 0, _, _, _ => (0, 0, (fun _ => 0), (fun _ => 0))
  | n + 1, v2_21, v3_21, x38_f_21 => m_k_X9_hasSmaller_21s pp rn rf ch cg c1 c2 c3 c4 obi sc a1 t_2 (fun v2_21 v3_21 x38_f_21 => m_k_X9_hasSmaller_21 pp rn rf ch cg c1 c2 c3 c4 obi sc a1 t_2 n v2_21 v3_21 x38_f_21) v2_21 v3_21 x38_f_21
theorem m_k_X9_hasSmaller_21_succ (pp : pT) (rn : Int32) (rf : Nat → Option Nat) (ch : Int32) (cg : Int32) (c1 : Nat → Int32) (c2 : Nat → Int32) (c3 : Nat → Int32) (c4 : Nat → Int32) (obi : Nat → Int32) (sc : Nat → Int32) (a1 : Int32) (t_2 : r_k_X9_listActive) (n : Nat) (v2_21 : Int32) (v3_21 : Int32) (x38_f_21 : Nat → Int32) : m_k_X9_hasSmaller_21 pp rn rf ch cg c1 c2 c3 c4 obi sc a1 t_2 (n + 1) v2_21 v3_21 x38_f_21 = m_k_X9_hasSmaller_21s pp rn rf ch cg c1 c2 c3 c4 obi sc a1 t_2 (m_k_X9_hasSmaller_21 pp rn rf ch cg c1 c2 c3 c4 obi sc a1 t_2 n) v2_21 v3_21 x38_f_21 := rfl
def m_k_X9_hasSmaller (pp : pT) (rn : Int32) (rf : Nat → Option Nat) (ch : Int32) (cg : Int32) (fb : Int32) (cn : Int32) (c1 : Nat → Int32) (c2 : Nat → Int32) (c3 : Nat → Int32) (c4 : Nat → Int32) (ac : Nat → Int32) (obi : Nat → Int32) (sc : Nat → Int32) (br : Nat → Int32) (a1 : Int32) : r_k_X9_hasSmaller :=
  lE (m_k_X9_listActive pp rn rf cg cn c1 c2 c3 c4 ac obi sc a1) (fun t_2 =>
    m_k_X9_hasSmaller_21 pp rn rf ch cg c1 c2 c3 c4 obi sc a1 t_2 wF 1 0 (upd br ((0 : Int32).toNatClampNeg) (a1 &&& fb)))
def vs_k_X9_hasSmaller : List Cond := .code yX9_hasSmaller cX9_hasSmaller 7 (some .boolean) :: ([.methodLink RX9 266 yX9_listActive, .instanceMethod yX9_listActive, .selects RX9 yX9_listActive yX9_listActive, .initialized RX9, .fieldLink RX9 31 "AnswerFold$Solver" "branches" "[I", .fieldLink RX9 75 "AnswerFold$Solver" "freeBits" "I", .constant RX9 269 1000000, .methodLink RX9 270 yX9_grow, .instanceMethod yX9_grow, .selects RX9 yX9_grow yX9_grow, .methodLink RX9 273 yX9_headsToSplit, .instanceMethod yX9_headsToSplit, .selects RX9 yX9_headsToSplit yX9_headsToSplit] ++ (vs_k_X9_listActive ++ (u_ws RX9 TX9 17 ++ (vs_k_X9_grow ++ (vs_k_X9_headsToSplit)))))
theorem iv_k_X9_hasSmaller_X9 : ∀ w ∈ u_ws RX9 TX9 17, w ∈ vs_k_X9_hasSmaller := (fun _ h => List.mem_cons_of_mem _ (List.mem_append_right _ (List.mem_append_right _ (List.mem_append_left _ h))))
set_option maxRecDepth 20000 in
theorem gv_k_X9_hasSmaller_0 : GoodIn vs_k_X9_hasSmaller (wsV RX9 266 RX9 yX9_listActive vs_k_X9_listActive) := goodIn_app (goodIn_sub (by decide +kernel) (by decide +kernel)) (goodIn_sub (fun _ h => List.mem_cons_of_mem _ (List.mem_append_right _ (List.mem_append_left _ h))) (by decide +kernel))
set_option maxRecDepth 20000 in
theorem gv_k_X9_hasSmaller_1 : GoodIn vs_k_X9_hasSmaller (wsV RX9 270 RX9 yX9_grow vs_k_X9_grow) := goodIn_app (goodIn_sub (by decide +kernel) (by decide +kernel)) (goodIn_sub (fun _ h => List.mem_cons_of_mem _ (List.mem_append_right _ (List.mem_append_right _ (List.mem_append_right _ (List.mem_append_left _ h))))) (by decide +kernel))
set_option maxRecDepth 20000 in
theorem gv_k_X9_hasSmaller_2 : GoodIn vs_k_X9_hasSmaller (wsV RX9 273 RX9 yX9_headsToSplit vs_k_X9_headsToSplit) := goodIn_app (goodIn_sub (by decide +kernel) (by decide +kernel)) (goodIn_sub (fun _ h => List.mem_cons_of_mem _ (List.mem_append_right _ (List.mem_append_right _ (List.mem_append_right _ (List.mem_append_right _ (h)))))) (by decide +kernel))
theorem om_k_X9_hasSmaller_0 (v2_21 : Int32) (v3_21 : Int32) (hn_21 : 0 ≤ v3_21.toInt) (c_3 : ¬ (v2_21 ≤ 0)) (c_4 : ¬ (26 ≤ v2_21)) (c_5 : ¬ (1000000 ≤ v3_21)) : vp_in (v2_21 + (-1)) 26 := by
  have f_0 := hn_21
  have f_1 := Int32.lt_iff_toInt_lt.mp (Int32.not_le.mp c_3)
  have f_2 := Int32.lt_iff_toInt_lt.mp (Int32.not_le.mp c_4)
  have f_3 := Int32.lt_iff_toInt_lt.mp (Int32.not_le.mp c_5)
  have nl_m1 : (-1 : Int32).toInt = -1 := rfl
  have nl_0 : (0 : Int32).toInt = 0 := rfl
  have nl_1000000 : (1000000 : Int32).toInt = 1000000 := rfl
  have nl_26 : (26 : Int32).toInt = 26 := rfl
  have r_v2_21 := wi_rng v2_21
  have q_1 : (v2_21 + (-1)).toInt = (v2_21 : Int32).toInt + ((-1) : Int32).toInt := wi_add (by omega) (by omega)
  exact wi_in (by omega) (by omega)
theorem om_k_X9_hasSmaller_1 (v2_21 : Int32) (v3_21 : Int32) (t_61 : r_k_X9_headsToSplit) (hn_21 : 0 ≤ v3_21.toInt) (c_3 : ¬ (v2_21 ≤ 0)) (c_4 : ¬ (26 ≤ v2_21)) (c_5 : ¬ (1000000 ≤ v3_21)) (c_10 : ¬ (t_61 = 0)) : vp_in (v2_21 + (-1)) 26 := by
  have f_0 := hn_21
  have f_1 := Int32.lt_iff_toInt_lt.mp (Int32.not_le.mp c_3)
  have f_2 := Int32.lt_iff_toInt_lt.mp (Int32.not_le.mp c_4)
  have f_3 := Int32.lt_iff_toInt_lt.mp (Int32.not_le.mp c_5)
  have f_4 : ¬ (t_61 : Int32).toInt = (0 : Int32).toInt := fun h => c_10 (Int32.toInt_inj.mp h)
  have nl_m1 : (-1 : Int32).toInt = -1 := rfl
  have nl_0 : (0 : Int32).toInt = 0 := rfl
  have nl_1000000 : (1000000 : Int32).toInt = 1000000 := rfl
  have nl_26 : (26 : Int32).toInt = 26 := rfl
  have r_v2_21 := wi_rng v2_21
  have q_1 : (v2_21 + (-1)).toInt = (v2_21 : Int32).toInt + ((-1) : Int32).toInt := wi_add (by omega) (by omega)
  exact wi_in (by omega) (by omega)
theorem om_k_X9_hasSmaller_2 (v2_21 : Int32) (v3_21 : Int32) (t_61 : r_k_X9_headsToSplit) (hn_21 : 0 ≤ v3_21.toInt) (c_3 : ¬ (v2_21 ≤ 0)) (c_4 : ¬ (26 ≤ v2_21)) (c_5 : ¬ (1000000 ≤ v3_21)) (c_10 : ¬ (t_61 = 0)) : vp_in ((v2_21 + (-1)) + 1) 26 := by
  have f_0 := hn_21
  have f_1 := Int32.lt_iff_toInt_lt.mp (Int32.not_le.mp c_3)
  have f_2 := Int32.lt_iff_toInt_lt.mp (Int32.not_le.mp c_4)
  have f_3 := Int32.lt_iff_toInt_lt.mp (Int32.not_le.mp c_5)
  have f_4 : ¬ (t_61 : Int32).toInt = (0 : Int32).toInt := fun h => c_10 (Int32.toInt_inj.mp h)
  have nl_m1 : (-1 : Int32).toInt = -1 := rfl
  have nl_0 : (0 : Int32).toInt = 0 := rfl
  have nl_1 : (1 : Int32).toInt = 1 := rfl
  have nl_1000000 : (1000000 : Int32).toInt = 1000000 := rfl
  have nl_26 : (26 : Int32).toInt = 26 := rfl
  have r_v2_21 := wi_rng v2_21
  have q_1 : (v2_21 + (-1)).toInt = (v2_21 : Int32).toInt + ((-1) : Int32).toInt := wi_add (by omega) (by omega)
  have q_2 : ((v2_21 + (-1)) + 1).toInt = ((v2_21 + (-1)) : Int32).toInt + (1 : Int32).toInt := wi_add (by omega) (by omega)
  exact wi_in (by omega) (by omega)
set_option maxHeartbeats 4000000 in
set_option maxRecDepth 100000 in
theorem k_X9_hasSmaller (l : Launch) (D : va_G) (ty : Nat → ClassId) (td mi sz : Nat) (pp : pT) (X : Nat → Nat) (pn : Int32) (rn : Int32) (tn : Int32) (en : Int32) (rf : Nat → Option Nat) (an : Int32) (ch : Int32) (cg : Int32) (fb : Int32) (mh : Int32) (ml : Int32) (ih : Int32) (lb : Int32) (ic : Int32) (cn : Int32) (c1 : Nat → Int32) (c2 : Nat → Int32) (c3 : Nat → Int32) (c4 : Nat → Int32) (ac : Nat → Int32) (obi : Nat → Int32) (sc : Nat → Int32) (br : Nat → Int32) (a1 : Int32) (hok : pOK pp) (hru : ∀ (i a : Nat), rf i = some a → a ∈ pRA pp) (TT : r_k_X9_hasSmaller) (hTT : TT = m_k_X9_hasSmaller pp rn rf ch cg fb cn c1 c2 c3 c4 ac obi sc br a1) : Met l yX9_hasSmaller vs_k_X9_hasSmaller { frames := 5, cells := 0, slots := 0, locals := 122 } (va_Pc [.ref (X 20), .int a1] (wq_P D ty td mi ((wW_k_X9_hasSmaller ty X pn rn tn en rf an ch cg fb mh ml ih lb ic cn c1 c2 c3 c4 ac obi sc br) ++ pw ty pp) sz)) (va_Qi (fun (r : Int32) (u : va_W) => (r = TT.1 ∧ (TT.1 = 0 ∨ TT.1 = 1) ∧ (u = ((wW_k_X9_hasSmaller ty X pn rn tn en rf TT.2.1 ch cg fb mh ml ih lb ic cn c1 c2 c3 c4 TT.2.2.1 obi sc TT.2.2.2) ++ pw ty pp)))) (wq_B D (va_A ((wW_k_X9_hasSmaller ty X pn rn tn en rf an ch cg fb mh ml ih lb ic cn c1 c2 c3 c4 ac obi sc br) ++ pw ty pp) sz)) (va_A ((wW_k_X9_hasSmaller ty X pn rn tn en rf an ch cg fb mh ml ih lb ic cn c1 c2 c3 c4 ac obi sc br) ++ pw ty pp) sz)) 0 0 (va_A ((wW_k_X9_hasSmaller ty X pn rn tn en rf an ch cg fb mh ml ih lb ic cn c1 c2 c3 c4 ac obi sc br) ++ pw ty pp) sz) := by
  refine Met.ofW (cc := cX9_hasSmaller) (maxL := 7) (ret := (some .boolean)) (by decide) rfl ?_
  intro p e s m args below meth c s₁ B hml hv
  obtain ⟨rfl, hsz, hP, hK, hD0, hE⟩ := hv
  have hx := B.exec
  have hb := B.bytes
  have hr := B.returns
  have hts := atoms_spec (ws := vs_k_X9_hasSmaller) B.pre
  have hown : s.vm.findClass RX9 = some m.cls := findClass_of_methodNamed B.named
  have hlocks := B.notSynchronized
  subst hsz
  have hD := hD0.self (sz := s.heap.size)
  generalize hAe : va_A ((wW_k_X9_hasSmaller ty X pn rn tn en rf an ch cg fb mh ml ih lb ic cn c1 c2 c3 c4 ac obi sc br) ++ pw ty pp) s.heap.size = A at hD hE ⊢
  have hA : ∀ q : Nat, s.heap.size ≤ q → A q := fun q h => by rw [← hAe]; exact Or.inr h
  have hS : va_S A s.heap s.heap [] := va_S.rf
  have hP : va_P D vwCl ((wW_k_X9_hasSmaller ty X pn rn tn en rf an ch cg fb mh ml ih lb ic cn c1 c2 c3 c4 ac obi sc br) ++ pw ty pp) s.heap := hP
  have hl := lv_entry ([.ref (X 20), .int a1]) (n := 7) (Nat.le_of_ble_eq_true rfl)
  rw [lg_entry_eq]
  generalize (lg_sl ([.ref (X 20), .int a1]) ++ List.replicate (7 - (lg_sl ([.ref (X 20), .int a1])).length) Slot.unset).toArray = ls at hl ⊢
  have hl : lv_has ls 7 [(0, .ref (X 20)), (1, .int a1)] := hl
  have END : ∀ (r : Int32) (e0 : Int32) (e1 : Nat → Int32) (e2 : Nat → Int32), TT = (r, e0, e1, e2) → (r = 0 ∨ r = 1) → ∀ (H : Heap) (locs : List Loc), va_P D vwCl ((wW_k_X9_hasSmaller ty X pn rn tn en rf e0 ch cg fb mh ml ih lb ic cn c1 c2 c3 c4 e1 obi sc e2) ++ pw ty pp) H → va_D A ((wW_k_X9_hasSmaller ty X pn rn tn en rf e0 ch cg fb mh ml ih lb ic cn c1 c2 c3 c4 e1 obi sc e2) ++ pw ty pp) → va_S A s.heap H locs → ∀ (ls : Array Slot) (pc : Nat), decode cX9_hasSmaller pc = .ok (.ireturn, 1) → W p l e (headSpec vs_k_X9_hasSmaller { frames := 5, cells := 0, slots := 0, locals := 122 }).room s m ([.ref (X 20), .int a1] : List Value).toArray below meth c H locs 0 0 (MQ below (va_Qi (fun (r : Int32) (u : va_W) => (r = TT.1 ∧ (TT.1 = 0 ∨ TT.1 = 1) ∧ (u = ((wW_k_X9_hasSmaller ty X pn rn tn en rf TT.2.1 ch cg fb mh ml ih lb ic cn c1 c2 c3 c4 TT.2.2.1 obi sc TT.2.2.2) ++ pw ty pp)))) (wq_B D A) A) ([.ref (X 20), .int a1] : List Value).toArray s 0 0 A) (F0 m pc ls [.int r]) := by
    intro r e0 e1 e2 hT hb01 H locs hP hD hS ls pc hd
    have hM : TT = (r, e0, e1, e2) := hT
    exact W.zret (v := r) hx hb hr (wz_nar hb01) (fun t ht hW => ⟨⟨r, ((wW_k_X9_hasSmaller ty X pn rn tn en rf e0 ch cg fb mh ml ih lb ic cn c1 c2 c3 c4 e1 obi sc e2) ++ pw ty pp), rfl, ⟨(by rw [hM]), (by rw [hM]; exact hb01), (by rw [hM])⟩, wq_B.of ht hP hD⟩, hS.F ht⟩) hS.2.2 hd
  have hT := hTT
  rw [m_k_X9_hasSmaller] at hT
  refine lv_aload_n hx hb dX9_hasSmaller_0 rfl (lv_at hl 0 rfl) ?_
  refine lv_iload_n hx hb dX9_hasSmaller_1 rfl (lv_at hl 1 rfl) ?_
  obtain ⟨t_2, ht_2⟩ : ∃ t, t = m_k_X9_listActive pp rn rf cg cn c1 c2 c3 c4 ac obi sc a1 := ⟨_, rfl⟩
  rw [lE_eq ht_2] at hT
  refine wq_vPW (wc := (wW_k_X9_listActive ty X pn rn tn en rf an ch cg fb mh ml ih lb ic cn c1 c2 c3 c4 ac obi sc)) (pl := pw ty pp) (ux := (wW_k_X9_listActive ty X pn rn tn en rf t_2.1 ch cg fb mh ml ih lb ic cn c1 c2 c3 c4 t_2.2 obi sc)) (va_runV (As := [.int a1]) (rest := []) ⟨hx, hb, hml, hown, hts⟩ (k_X9_listActive l D ty td mi s.heap.size pp X pn rn tn en rf an ch cg fb mh ml ih lb ic cn c1 c2 c3 c4 ac obi sc a1 hok hru t_2 ht_2) (cwV 1 hts gv_k_X9_hasSmaller_0 rfl rfl rfl (by decide +kernel) ⟨(Nat.le_of_ble_eq_true rfl), (Nat.le_of_ble_eq_true rfl)⟩) (wm_V (wm_preSP hP hD hK hE hS hA [true, true, true, true, true, true, true, true, true, true, true] rfl) (va_recv (q0 := 2) (ci := 11) hK hP rfl rfl)) rfl rfl hl.1 rfl (lv_room (Nat.le_of_ble_eq_true rfl)) dX9_hasSmaller_2 ⟨(Nat.le_of_ble_eq_true rfl), (Nat.le_of_ble_eq_true rfl)⟩) hS hA hP hD [true, true, true, true, true, true, true, true, true, true, true] rfl rfl (fun _ h => h) (fun  H locs hw hP hD hS => ?_)
  have hP : va_P D vwCl ((wW_k_X9_hasSmaller ty X pn rn tn en rf t_2.1 ch cg fb mh ml ih lb ic cn c1 c2 c3 c4 t_2.2 obi sc br) ++ pw ty pp) H := hP
  have hD : va_D A ((wW_k_X9_hasSmaller ty X pn rn tn en rf t_2.1 ch cg fb mh ml ih lb ic cn c1 c2 c3 c4 t_2.2 obi sc br) ++ pw ty pp) := hD
  refine W.widen (k := 0) (n := 0) (Nat.le_of_ble_eq_true rfl) (Nat.le_of_ble_eq_true rfl) ?_
  refine lv_aload_n hx hb dX9_hasSmaller_5 rfl (lv_at hl 0 rfl) ?_
  refine va_get (D := D) (ci := 11) (v := .ref (X 38)) (C := RX9) (T := TX9) (N := 17) hx hb hts iv_k_X9_hasSmaller_X9 hown hK hP 2 rfl rfl 8 (by decide) (hts (.fieldLink RX9 31 "AnswerFold$Solver" "branches" "[I") (by decide +kernel)) (fun _ h9 => h9) rfl dX9_hasSmaller_6 ?_
  refine lv_iconst (v := 0) hx hb dX9_hasSmaller_9 (by decide) ?_
  refine lv_iload_n hx hb dX9_hasSmaller_10 rfl (lv_at hl 1 rfl) ?_
  refine lv_aload_n hx hb dX9_hasSmaller_11 rfl (lv_at hl 0 rfl) ?_
  refine va_get (D := D) (ci := 11) (v := .int fb) (C := RX9) (T := TX9) (N := 17) hx hb hts iv_k_X9_hasSmaller_X9 hown hK hP 2 rfl rfl 11 (by decide) (hts (.fieldLink RX9 75 "AnswerFold$Solver" "freeBits" "I") (by decide +kernel)) (fun _ h9 => h9) rfl dX9_hasSmaller_12 ?_
  refine lv_iand hx hb dX9_hasSmaller_15 ?_
  refine va_iast (D := D) hx hb hK hP hD hS 11 0 rfl rfl (vp_in_iff.mpr (by decide)) dX9_hasSmaller_16 (fun H locs hP hD hS => ?_)
  have hP : va_P D vwCl ((wW_k_X9_hasSmaller ty X pn rn tn en rf t_2.1 ch cg fb mh ml ih lb ic cn c1 c2 c3 c4 t_2.2 obi sc (upd br ((0 : Int32).toNatClampNeg) (a1 &&& fb))) ++ pw ty pp) H := hP
  have hD : va_D A ((wW_k_X9_hasSmaller ty X pn rn tn en rf t_2.1 ch cg fb mh ml ih lb ic cn c1 c2 c3 c4 t_2.2 obi sc (upd br ((0 : Int32).toNatClampNeg) (a1 &&& fb))) ++ pw ty pp) := hD
  refine lv_iconst (v := 1) hx hb dX9_hasSmaller_17 (by decide) ?_
  refine lv_istore_n (lv' := [(2, .int 1), (0, .ref (X 20)), (1, .int a1)]) hx hb dX9_hasSmaller_18 rfl hl (by decide) rfl (fun ls hl => ?_)
  refine lv_iconst (v := 0) hx hb dX9_hasSmaller_19 (by decide) ?_
  refine lv_istore_n (lv' := [(3, .int 0), (2, .int 1), (0, .ref (X 20)), (1, .int a1)]) hx hb dX9_hasSmaller_20 rfl hl (by decide) rfl (fun ls hl => ?_)
  have L_21 : ∀ (n_21 : Nat) (v2_21 : Int32) (v3_21 : Int32) (x38_f_21 : Nat → Int32), (2147483648 - v3_21.toInt).toNat < n_21 → TT = m_k_X9_hasSmaller_21 pp rn rf ch cg c1 c2 c3 c4 obi sc a1 t_2 n_21 v2_21 v3_21 x38_f_21 → 0 ≤ v3_21.toInt → ∀ (H : Heap) (locs : List Loc), va_P D vwCl ((wW_k_X9_hasSmaller ty X pn rn tn en rf t_2.1 ch cg fb mh ml ih lb ic cn c1 c2 c3 c4 t_2.2 obi sc x38_f_21) ++ pw ty pp) H → va_D A ((wW_k_X9_hasSmaller ty X pn rn tn en rf t_2.1 ch cg fb mh ml ih lb ic cn c1 c2 c3 c4 t_2.2 obi sc x38_f_21) ++ pw ty pp) → va_S A s.heap H locs → ∀ ls : Array Slot, lv_has ls 7 [(0, .ref (X 20)), (1, .int a1), (2, .int v2_21), (3, .int v3_21)] → W p l e (headSpec vs_k_X9_hasSmaller { frames := 5, cells := 0, slots := 0, locals := 122 }).room s m ([.ref (X 20), .int a1] : List Value).toArray below meth c H locs 0 0 (MQ below (va_Qi (fun (r : Int32) (u : va_W) => (r = TT.1 ∧ (TT.1 = 0 ∨ TT.1 = 1) ∧ (u = ((wW_k_X9_hasSmaller ty X pn rn tn en rf TT.2.1 ch cg fb mh ml ih lb ic cn c1 c2 c3 c4 TT.2.2.1 obi sc TT.2.2.2) ++ pw ty pp)))) (wq_B D A) A) ([.ref (X 20), .int a1] : List Value).toArray s 0 0 A) (F0 m 21 ls []) := by
    intro n_21
    induction n_21 with
    | zero => intro v2_21 v3_21 x38_f_21 hu; exact absurd hu (Nat.not_lt_zero _)
    | succ n_21 ih_21 =>
      intro v2_21 v3_21 x38_f_21 hu_21 hT hn_21 H locs hP hD hS ls hl
      rw [m_k_X9_hasSmaller_21_succ, m_k_X9_hasSmaller_21s] at hT
      refine lv_iload_n hx hb dX9_hasSmaller_21 rfl (lv_at hl 2 rfl) ?_
      refine lv_if_le (tgt := 136) hx hb dX9_hasSmaller_22 (by decide) (fun c_3 => ?_) (fun c_3 => ?_)
      · rw [if_pos c_3] at hT
        refine lv_iconst (v := 0) hx hb dX9_hasSmaller_136 (by decide) ?_
        exact END 0 t_2.1 t_2.2 x38_f_21 hT (by decide) _ _ hP hD hS _ _ dX9_hasSmaller_137
      · rw [if_neg c_3] at hT
        refine lv_iload_n hx hb dX9_hasSmaller_25 rfl (lv_at hl 2 rfl) ?_
        refine lv_aload_n hx hb dX9_hasSmaller_26 rfl (lv_at hl 0 rfl) ?_
        refine va_get (D := D) (ci := 11) (v := .ref (X 38)) (C := RX9) (T := TX9) (N := 17) hx hb hts iv_k_X9_hasSmaller_X9 hown hK hP 2 rfl rfl 8 (by decide) (hts (.fieldLink RX9 31 "AnswerFold$Solver" "branches" "[I") (by decide +kernel)) (fun _ h9 => h9) rfl dX9_hasSmaller_27 ?_
        refine va_alen (D := D) (v := 26) hx hb hK hP 11 0 rfl rfl (by first | decide | rfl) dX9_hasSmaller_30 ?_
        refine lv_icmp_ge (tgt := 136) hx hb dX9_hasSmaller_31 (by decide) (fun c_4 => ?_) (fun c_4 => ?_)
        · rw [if_pos c_4] at hT
          refine lv_iconst (v := 0) hx hb dX9_hasSmaller_136 (by decide) ?_
          exact END 0 t_2.1 t_2.2 x38_f_21 hT (by decide) _ _ hP hD hS _ _ dX9_hasSmaller_137
        · rw [if_neg c_4] at hT
          refine lv_iload_n hx hb dX9_hasSmaller_34 rfl (lv_at hl 3 rfl) ?_
          refine lv_ldcw (v := 1000000) hx hb hown (hts (.constant RX9 269 1000000) (by decide +kernel)) dX9_hasSmaller_35 ?_
          refine lv_icmp_ge (tgt := 136) hx hb dX9_hasSmaller_38 (by decide) (fun c_5 => ?_) (fun c_5 => ?_)
          · rw [if_pos c_5] at hT
            refine lv_iconst (v := 0) hx hb dX9_hasSmaller_136 (by decide) ?_
            exact END 0 t_2.1 t_2.2 x38_f_21 hT (by decide) _ _ hP hD hS _ _ dX9_hasSmaller_137
          · rw [if_neg c_5] at hT
            refine lv_iinc (v := v2_21 + (-1)) (lv' := [(2, .int (v2_21 + (-1))), (0, .ref (X 20)), (1, .int a1), (3, .int v3_21)]) hx hb dX9_hasSmaller_41 hl (k := 2) rfl (by rfl) (by decide) rfl (fun ls hl => ?_)
            refine lv_aload_n hx hb dX9_hasSmaller_44 rfl (lv_at hl 1 rfl) ?_
            refine lv_aload_n hx hb dX9_hasSmaller_45 rfl (lv_at hl 1 rfl) ?_
            refine va_get (D := D) (ci := 11) (v := .ref (X 38)) (C := RX9) (T := TX9) (N := 17) hx hb hts iv_k_X9_hasSmaller_X9 hown hK hP 2 rfl rfl 8 (by decide) (hts (.fieldLink RX9 31 "AnswerFold$Solver" "branches" "[I") (by decide +kernel)) (fun _ h9 => h9) rfl dX9_hasSmaller_46 ?_
            refine lv_iload_n hx hb dX9_hasSmaller_49 rfl (lv_at hl 0 rfl) ?_
            refine va_iald (D := D) hx hb hK hP 11 0 rfl rfl (om_k_X9_hasSmaller_0 v2_21 v3_21 hn_21 c_3 c_4 c_5) dX9_hasSmaller_50 ?_
            refine lv_iload_n hx hb dX9_hasSmaller_51 rfl (lv_at hl 2 rfl) ?_
            obtain ⟨t_52, ht_52⟩ : ∃ t, t = m_k_X9_grow pp rn rf t_2.1 ch cg c1 c2 c3 c4 t_2.2 obi sc (x38_f_21 (v2_21 + (-1)).toNatClampNeg) a1 := ⟨_, rfl⟩
            rw [lE_eq ht_52] at hT
            refine wq_iPW (wc := (wW_k_X9_grow ty X pn rn tn en rf t_2.1 ch cg fb mh ml ih lb ic cn c1 c2 c3 c4 t_2.2 obi sc)) (pl := pw ty pp) (ux := (wW_k_X9_grow ty X pn rn tn en rf t_2.1 ch cg fb mh ml ih lb ic cn c1 c2 c3 c4 t_2.2 obi sc)) (va_runV (As := [.int (x38_f_21 (v2_21 + (-1)).toNatClampNeg), .int a1]) (rest := []) ⟨hx, hb, hml, hown, hts⟩ (k_X9_grow l D ty td mi H.size pp X pn rn tn en rf t_2.1 ch cg fb mh ml ih lb ic cn c1 c2 c3 c4 t_2.2 obi sc (x38_f_21 (v2_21 + (-1)).toNatClampNeg) a1 hok hru t_52 ht_52) (cwV 2 hts gv_k_X9_hasSmaller_1 rfl rfl rfl (by decide +kernel) ⟨(Nat.le_of_ble_eq_true rfl), (Nat.le_of_ble_eq_true rfl)⟩) (wm_V (wm_preSP hP hD hK hE hS hA [true, true, true, true, true, true, true, true, true, true, true] rfl) (va_recv (q0 := 2) (ci := 11) hK hP rfl rfl)) rfl rfl hl.1 rfl (lv_room (Nat.le_of_ble_eq_true rfl)) dX9_hasSmaller_52 ⟨(Nat.le_of_ble_eq_true rfl), (Nat.le_of_ble_eq_true rfl)⟩) hS hA hP hD [true, true, true, true, true, true, true, true, true, true, true] rfl rfl (fun _ _ h => h.2) (fun r H locs hw hP hD hS => ?_)
            obtain ⟨hr0, -⟩ := hw
            subst r
            have hP : va_P D vwCl ((wW_k_X9_hasSmaller ty X pn rn tn en rf t_2.1 ch cg fb mh ml ih lb ic cn c1 c2 c3 c4 t_2.2 obi sc x38_f_21) ++ pw ty pp) H := hP
            have hD : va_D A ((wW_k_X9_hasSmaller ty X pn rn tn en rf t_2.1 ch cg fb mh ml ih lb ic cn c1 c2 c3 c4 t_2.2 obi sc x38_f_21) ++ pw ty pp) := hD
            refine W.widen (k := 0) (n := 0) (Nat.le_of_ble_eq_true rfl) (Nat.le_of_ble_eq_true rfl) ?_
            refine lv_istore (lv' := [(4, .int t_52), (2, .int (v2_21 + (-1))), (0, .ref (X 20)), (1, .int a1), (3, .int v3_21)]) hx hb dX9_hasSmaller_55 hl (by decide) rfl (fun ls hl => ?_)
            refine lv_aload_n hx hb dX9_hasSmaller_57 rfl (lv_at hl 2 rfl) ?_
            refine lv_iload hx hb dX9_hasSmaller_58 (lv_at hl 0 rfl) ?_
            refine lv_iload_n hx hb dX9_hasSmaller_60 rfl (lv_at hl 3 rfl) ?_
            obtain ⟨t_61, ht_61⟩ : ∃ t, t = m_k_X9_headsToSplit pp rn rf t_2.1 ch cg c1 c2 c3 c4 t_2.2 obi sc t_52 a1 := ⟨_, rfl⟩
            rw [lE_eq ht_61] at hT
            refine wq_iPW (wc := (wW_k_X9_headsToSplit ty X pn rn tn en rf t_2.1 ch cg fb mh ml ih lb ic cn c1 c2 c3 c4 t_2.2 obi sc)) (pl := pw ty pp) (ux := (wW_k_X9_headsToSplit ty X pn rn tn en rf t_2.1 ch cg fb mh ml ih lb ic cn c1 c2 c3 c4 t_2.2 obi sc)) (va_runV (As := [.int t_52, .int a1]) (rest := []) ⟨hx, hb, hml, hown, hts⟩ (k_X9_headsToSplit l D ty td mi H.size pp X pn rn tn en rf t_2.1 ch cg fb mh ml ih lb ic cn c1 c2 c3 c4 t_2.2 obi sc t_52 a1 hok hru t_61 ht_61) (cwV 2 hts gv_k_X9_hasSmaller_2 rfl rfl rfl (by decide +kernel) ⟨(Nat.le_of_ble_eq_true rfl), (Nat.le_of_ble_eq_true rfl)⟩) (wm_V (wm_preSP hP hD hK hE hS hA [true, true, true, true, true, true, true, true, true, true, true] rfl) (va_recv (q0 := 2) (ci := 11) hK hP rfl rfl)) rfl rfl hl.1 rfl (lv_room (Nat.le_of_ble_eq_true rfl)) dX9_hasSmaller_61 ⟨(Nat.le_of_ble_eq_true rfl), (Nat.le_of_ble_eq_true rfl)⟩) hS hA hP hD [true, true, true, true, true, true, true, true, true, true, true] rfl rfl (fun _ _ h => h.2) (fun r H locs hw hP hD hS => ?_)
            obtain ⟨hr0, -⟩ := hw
            subst r
            have hP : va_P D vwCl ((wW_k_X9_hasSmaller ty X pn rn tn en rf t_2.1 ch cg fb mh ml ih lb ic cn c1 c2 c3 c4 t_2.2 obi sc x38_f_21) ++ pw ty pp) H := hP
            have hD : va_D A ((wW_k_X9_hasSmaller ty X pn rn tn en rf t_2.1 ch cg fb mh ml ih lb ic cn c1 c2 c3 c4 t_2.2 obi sc x38_f_21) ++ pw ty pp) := hD
            refine W.widen (k := 0) (n := 0) (Nat.le_of_ble_eq_true rfl) (Nat.le_of_ble_eq_true rfl) ?_
            refine lv_istore (lv' := [(5, .int t_61), (4, .int t_52), (2, .int (v2_21 + (-1))), (0, .ref (X 20)), (1, .int a1), (3, .int v3_21)]) hx hb dX9_hasSmaller_64 hl (by decide) rfl (fun ls hl => ?_)
            refine lv_iload hx hb dX9_hasSmaller_66 (lv_at hl 0 rfl) ?_
            have J_130 : ∀ (v2_130 : Int32) (x38_f_130 : Nat → Int32), TT = m_k_X9_hasSmaller_130 (m_k_X9_hasSmaller_21 pp rn rf ch cg c1 c2 c3 c4 obi sc a1 t_2 n_21) v3_21 v2_130 x38_f_130 → ∀ (H : Heap) (locs : List Loc), va_P D vwCl ((wW_k_X9_hasSmaller ty X pn rn tn en rf t_2.1 ch cg fb mh ml ih lb ic cn c1 c2 c3 c4 t_2.2 obi sc x38_f_130) ++ pw ty pp) H → va_D A ((wW_k_X9_hasSmaller ty X pn rn tn en rf t_2.1 ch cg fb mh ml ih lb ic cn c1 c2 c3 c4 t_2.2 obi sc x38_f_130) ++ pw ty pp) → va_S A s.heap H locs → ∀ ls : Array Slot, lv_has ls 7 [(0, .ref (X 20)), (1, .int a1), (2, .int v2_130), (3, .int v3_21)] → W p l e (headSpec vs_k_X9_hasSmaller { frames := 5, cells := 0, slots := 0, locals := 122 }).room s m ([.ref (X 20), .int a1] : List Value).toArray below meth c H locs 0 0 (MQ below (va_Qi (fun (r : Int32) (u : va_W) => (r = TT.1 ∧ (TT.1 = 0 ∨ TT.1 = 1) ∧ (u = ((wW_k_X9_hasSmaller ty X pn rn tn en rf TT.2.1 ch cg fb mh ml ih lb ic cn c1 c2 c3 c4 TT.2.2.1 obi sc TT.2.2.2) ++ pw ty pp)))) (wq_B D A) A) ([.ref (X 20), .int a1] : List Value).toArray s 0 0 A) (F0 m 130 ls []) := by
              intro v2_130 x38_f_130 hT  H locs hP hD hS ls hl
              rw [m_k_X9_hasSmaller_130] at hT
              refine lv_iinc (v := v3_21 + 1) (lv' := [(3, .int (v3_21 + 1)), (0, .ref (X 20)), (1, .int a1), (2, .int v2_130)]) hx hb dX9_hasSmaller_130 hl (k := 3) rfl (by rfl) (by decide) rfl (fun ls hl => ?_)
              refine lv_goto (tgt := 21) hx hb dX9_hasSmaller_133 (by decide) ?_
              exact ih_21 v2_130 (v3_21 + 1) x38_f_130 (wi_up hu_21 (Int32.not_le.mp c_5)) hT (wi_inc hn_21 (Int32.not_le.mp c_5)) _ _ hP hD hS _ (lv_sub hl [1, 2, 3, 0] rfl)
            refine lv_if_ne (tgt := 79) hx hb dX9_hasSmaller_68 (by decide) (fun c_10 => ?_) (fun c_10 => ?_)
            · rw [if_neg c_10] at hT
              refine lv_iload_n hx hb dX9_hasSmaller_79 rfl (lv_at hl 2 rfl) ?_
              refine lv_iconst (v := 1) hx hb dX9_hasSmaller_80 (by decide) ?_
              refine lv_iadd hx hb dX9_hasSmaller_81 ?_
              refine lv_aload_n hx hb dX9_hasSmaller_82 rfl (lv_at hl 3 rfl) ?_
              refine va_get (D := D) (ci := 11) (v := .ref (X 38)) (C := RX9) (T := TX9) (N := 17) hx hb hts iv_k_X9_hasSmaller_X9 hown hK hP 2 rfl rfl 8 (by decide) (hts (.fieldLink RX9 31 "AnswerFold$Solver" "branches" "[I") (by decide +kernel)) (fun _ h9 => h9) rfl dX9_hasSmaller_83 ?_
              refine va_alen (D := D) (v := 26) hx hb hK hP 11 0 rfl rfl (by first | decide | rfl) dX9_hasSmaller_86 ?_
              refine lv_icmp_ge (tgt := 130) hx hb dX9_hasSmaller_87 (by decide) (fun c_11 => ?_) (fun c_11 => ?_)
              · rw [if_pos c_11] at hT
                exact J_130 (v2_21 + (-1)) x38_f_21 hT _ _ hP hD hS _ (lv_sub hl [3, 4, 2, 5] rfl)
              · rw [if_neg c_11] at hT
                refine lv_iload hx hb dX9_hasSmaller_90 (lv_at hl 0 rfl) ?_
                refine lv_iload hx hb dX9_hasSmaller_92 (lv_at hl 0 rfl) ?_
                refine lv_ineg hx hb dX9_hasSmaller_94 ?_
                refine lv_iand hx hb dX9_hasSmaller_95 ?_
                refine lv_istore (lv' := [(6, .int (t_61 &&& (-t_61))), (5, .int t_61), (4, .int t_52), (2, .int (v2_21 + (-1))), (0, .ref (X 20)), (1, .int a1), (3, .int v3_21)]) hx hb dX9_hasSmaller_96 hl (by decide) rfl (fun ls hl => ?_)
                refine lv_aload_n hx hb dX9_hasSmaller_98 rfl (lv_at hl 4 rfl) ?_
                refine va_get (D := D) (ci := 11) (v := .ref (X 38)) (C := RX9) (T := TX9) (N := 17) hx hb hts iv_k_X9_hasSmaller_X9 hown hK hP 2 rfl rfl 8 (by decide) (hts (.fieldLink RX9 31 "AnswerFold$Solver" "branches" "[I") (by decide +kernel)) (fun _ h9 => h9) rfl dX9_hasSmaller_99 ?_
                refine lv_iload_n hx hb dX9_hasSmaller_102 rfl (lv_at hl 3 rfl) ?_
                refine lv_iload hx hb dX9_hasSmaller_103 (lv_at hl 2 rfl) ?_
                refine lv_iload hx hb dX9_hasSmaller_105 (lv_at hl 0 rfl) ?_
                refine lv_ior hx hb dX9_hasSmaller_107 ?_
                refine va_iast (D := D) hx hb hK hP hD hS 11 0 rfl rfl (om_k_X9_hasSmaller_1 v2_21 v3_21 t_61 hn_21 c_3 c_4 c_5 c_10) dX9_hasSmaller_108 (fun H locs hP hD hS => ?_)
                have hP : va_P D vwCl ((wW_k_X9_hasSmaller ty X pn rn tn en rf t_2.1 ch cg fb mh ml ih lb ic cn c1 c2 c3 c4 t_2.2 obi sc (upd x38_f_21 ((v2_21 + (-1)).toNatClampNeg) (t_52 ||| (t_61 &&& (-t_61))))) ++ pw ty pp) H := hP
                have hD : va_D A ((wW_k_X9_hasSmaller ty X pn rn tn en rf t_2.1 ch cg fb mh ml ih lb ic cn c1 c2 c3 c4 t_2.2 obi sc (upd x38_f_21 ((v2_21 + (-1)).toNatClampNeg) (t_52 ||| (t_61 &&& (-t_61))))) ++ pw ty pp) := hD
                refine lv_aload_n hx hb dX9_hasSmaller_109 rfl (lv_at hl 4 rfl) ?_
                refine va_get (D := D) (ci := 11) (v := .ref (X 38)) (C := RX9) (T := TX9) (N := 17) hx hb hts iv_k_X9_hasSmaller_X9 hown hK hP 2 rfl rfl 8 (by decide) (hts (.fieldLink RX9 31 "AnswerFold$Solver" "branches" "[I") (by decide +kernel)) (fun _ h9 => h9) rfl dX9_hasSmaller_110 ?_
                refine lv_iload_n hx hb dX9_hasSmaller_113 rfl (lv_at hl 3 rfl) ?_
                refine lv_iconst (v := 1) hx hb dX9_hasSmaller_114 (by decide) ?_
                refine lv_iadd hx hb dX9_hasSmaller_115 ?_
                refine lv_iload hx hb dX9_hasSmaller_116 (lv_at hl 2 rfl) ?_
                refine lv_iload hx hb dX9_hasSmaller_118 (lv_at hl 1 rfl) ?_
                refine lv_iload hx hb dX9_hasSmaller_120 (lv_at hl 0 rfl) ?_
                refine lv_iconst (v := (-1)) hx hb dX9_hasSmaller_122 (by decide) ?_
                refine lv_ixor hx hb dX9_hasSmaller_123 ?_
                refine lv_iand hx hb dX9_hasSmaller_124 ?_
                refine lv_ior hx hb dX9_hasSmaller_125 ?_
                refine va_iast (D := D) hx hb hK hP hD hS 11 0 rfl rfl (om_k_X9_hasSmaller_2 v2_21 v3_21 t_61 hn_21 c_3 c_4 c_5 c_10) dX9_hasSmaller_126 (fun H locs hP hD hS => ?_)
                have hP : va_P D vwCl ((wW_k_X9_hasSmaller ty X pn rn tn en rf t_2.1 ch cg fb mh ml ih lb ic cn c1 c2 c3 c4 t_2.2 obi sc (upd (upd x38_f_21 ((v2_21 + (-1)).toNatClampNeg) (t_52 ||| (t_61 &&& (-t_61)))) (((v2_21 + (-1)) + 1).toNatClampNeg) (t_52 ||| (t_61 &&& ((t_61 &&& (-t_61)) ^^^ (-1)))))) ++ pw ty pp) H := hP
                have hD : va_D A ((wW_k_X9_hasSmaller ty X pn rn tn en rf t_2.1 ch cg fb mh ml ih lb ic cn c1 c2 c3 c4 t_2.2 obi sc (upd (upd x38_f_21 ((v2_21 + (-1)).toNatClampNeg) (t_52 ||| (t_61 &&& (-t_61)))) (((v2_21 + (-1)) + 1).toNatClampNeg) (t_52 ||| (t_61 &&& ((t_61 &&& (-t_61)) ^^^ (-1)))))) ++ pw ty pp) := hD
                refine lv_iinc (v := (v2_21 + (-1)) + 2) (lv' := [(2, .int ((v2_21 + (-1)) + 2)), (6, .int (t_61 &&& (-t_61))), (5, .int t_61), (4, .int t_52), (0, .ref (X 20)), (1, .int a1), (3, .int v3_21)]) hx hb dX9_hasSmaller_127 hl (k := 3) rfl (by rfl) (by decide) rfl (fun ls hl => ?_)
                exact J_130 ((v2_21 + (-1)) + 2) (upd (upd x38_f_21 ((v2_21 + (-1)).toNatClampNeg) (t_52 ||| (t_61 &&& (-t_61)))) (((v2_21 + (-1)) + 1).toNatClampNeg) (t_52 ||| (t_61 &&& ((t_61 &&& (-t_61)) ^^^ (-1))))) hT _ _ hP hD hS _ (lv_sub hl [4, 5, 0, 6] rfl)
            · rw [if_pos c_10] at hT
              refine lv_iload hx hb dX9_hasSmaller_71 (lv_at hl 1 rfl) ?_
              refine lv_iload_n hx hb dX9_hasSmaller_73 rfl (lv_at hl 4 rfl) ?_
              refine lv_icmp_eq (tgt := 130) hx hb dX9_hasSmaller_74 (by decide) (fun c_12 => ?_) (fun c_12 => ?_)
              · rw [if_pos c_12] at hT
                exact J_130 (v2_21 + (-1)) x38_f_21 hT _ _ hP hD hS _ (lv_sub hl [3, 4, 2, 5] rfl)
              · rw [if_neg c_12] at hT
                refine lv_iconst (v := 1) hx hb dX9_hasSmaller_77 (by decide) ?_
                exact END 1 t_2.1 t_2.2 x38_f_21 hT (by decide) _ _ hP hD hS _ _ dX9_hasSmaller_78
  exact L_21 wF 1 0 (upd br ((0 : Int32).toNatClampNeg) (a1 &&& fb)) (wF_up 0) hT (by decide) _ _ hP hD hS _ (lv_sub hl [2, 3, 1, 0] rfl)
theorem dX9_doesFor_0 : decode cX9_doesFor 0 = .ok (.iload_n 2, 1) := by decide +kernel
theorem dX9_doesFor_1 : decode cX9_doesFor 1 = .ok (.aload_n 0, 1) := by decide +kernel
theorem dX9_doesFor_2 : decode cX9_doesFor 2 = .ok (.getfield 75, 3) := by decide +kernel
theorem dX9_doesFor_5 : decode cX9_doesFor 5 = .ok (.iand, 1) := by decide +kernel
theorem dX9_doesFor_6 : decode cX9_doesFor 6 = .ok (.iload_n 1, 1) := by decide +kernel
theorem dX9_doesFor_7 : decode cX9_doesFor 7 = .ok (.iconst (-1), 1) := by decide +kernel
theorem dX9_doesFor_8 : decode cX9_doesFor 8 = .ok (.ixor, 1) := by decide +kernel
theorem dX9_doesFor_9 : decode cX9_doesFor 9 = .ok (.iand, 1) := by decide +kernel
theorem dX9_doesFor_10 : decode cX9_doesFor 10 = .ok (.ifCond .eq 5, 3) := by decide +kernel
theorem dX9_doesFor_13 : decode cX9_doesFor 13 = .ok (.iconst 0, 1) := by decide +kernel
theorem dX9_doesFor_14 : decode cX9_doesFor 14 = .ok (.ireturn, 1) := by decide +kernel
theorem dX9_doesFor_15 : decode cX9_doesFor 15 = .ok (.aload_n 0, 1) := by decide +kernel
theorem dX9_doesFor_16 : decode cX9_doesFor 16 = .ok (.iload_n 1, 1) := by decide +kernel
theorem dX9_doesFor_17 : decode cX9_doesFor 17 = .ok (.invokevirtual 241, 3) := by decide +kernel
theorem dX9_doesFor_20 : decode cX9_doesFor 20 = .ok (.istore_n 3, 1) := by decide +kernel
theorem dX9_doesFor_21 : decode cX9_doesFor 21 = .ok (.iconst 0, 1) := by decide +kernel
theorem dX9_doesFor_22 : decode cX9_doesFor 22 = .ok (.istore 4, 2) := by decide +kernel
theorem dX9_doesFor_24 : decode cX9_doesFor 24 = .ok (.iload 4, 2) := by decide +kernel
theorem dX9_doesFor_26 : decode cX9_doesFor 26 = .ok (.aload_n 0, 1) := by decide +kernel
theorem dX9_doesFor_27 : decode cX9_doesFor 27 = .ok (.getfield 276, 3) := by decide +kernel
theorem dX9_doesFor_30 : decode cX9_doesFor 30 = .ok (.if_icmp .ge 100, 3) := by decide +kernel
theorem dX9_doesFor_33 : decode cX9_doesFor 33 = .ok (.iload 4, 2) := by decide +kernel
theorem dX9_doesFor_35 : decode cX9_doesFor 35 = .ok (.sipush 300, 3) := by decide +kernel
theorem dX9_doesFor_38 : decode cX9_doesFor 38 = .ok (.if_icmp .ge 92, 3) := by decide +kernel
theorem dX9_doesFor_41 : decode cX9_doesFor 41 = .ok (.aload_n 0, 1) := by decide +kernel
theorem dX9_doesFor_42 : decode cX9_doesFor 42 = .ok (.getfield 21, 3) := by decide +kernel
theorem dX9_doesFor_45 : decode cX9_doesFor 45 = .ok (.iload 4, 2) := by decide +kernel
theorem dX9_doesFor_47 : decode cX9_doesFor 47 = .ok (.iaload, 1) := by decide +kernel
theorem dX9_doesFor_48 : decode cX9_doesFor 48 = .ok (.istore 5, 2) := by decide +kernel
theorem dX9_doesFor_50 : decode cX9_doesFor 50 = .ok (.aload_n 0, 1) := by decide +kernel
theorem dX9_doesFor_51 : decode cX9_doesFor 51 = .ok (.getfield 12, 3) := by decide +kernel
theorem dX9_doesFor_54 : decode cX9_doesFor 54 = .ok (.iload 5, 2) := by decide +kernel
theorem dX9_doesFor_56 : decode cX9_doesFor 56 = .ok (.invokevirtual 279, 3) := by decide +kernel
theorem dX9_doesFor_59 : decode cX9_doesFor 59 = .ok (.iload_n 2, 1) := by decide +kernel
theorem dX9_doesFor_60 : decode cX9_doesFor 60 = .ok (.iand, 1) := by decide +kernel
theorem dX9_doesFor_61 : decode cX9_doesFor 61 = .ok (.istore 6, 2) := by decide +kernel
theorem dX9_doesFor_63 : decode cX9_doesFor 63 = .ok (.aload_n 0, 1) := by decide +kernel
theorem dX9_doesFor_64 : decode cX9_doesFor 64 = .ok (.iload 5, 2) := by decide +kernel
theorem dX9_doesFor_66 : decode cX9_doesFor 66 = .ok (.invokevirtual 287, 3) := by decide +kernel
theorem dX9_doesFor_69 : decode cX9_doesFor 69 = .ok (.ifCond .eq 20, 3) := by decide +kernel
theorem dX9_doesFor_72 : decode cX9_doesFor 72 = .ok (.iload 6, 2) := by decide +kernel
theorem dX9_doesFor_74 : decode cX9_doesFor 74 = .ok (.iload_n 1, 1) := by decide +kernel
theorem dX9_doesFor_75 : decode cX9_doesFor 75 = .ok (.iconst (-1), 1) := by decide +kernel
theorem dX9_doesFor_76 : decode cX9_doesFor 76 = .ok (.ixor, 1) := by decide +kernel
theorem dX9_doesFor_77 : decode cX9_doesFor 77 = .ok (.iand, 1) := by decide +kernel
theorem dX9_doesFor_78 : decode cX9_doesFor 78 = .ok (.ifCond .ne 7, 3) := by decide +kernel
theorem dX9_doesFor_81 : decode cX9_doesFor 81 = .ok (.iconst 1, 1) := by decide +kernel
theorem dX9_doesFor_82 : decode cX9_doesFor 82 = .ok (.goto 19, 3) := by decide +kernel
theorem dX9_doesFor_85 : decode cX9_doesFor 85 = .ok (.iconst 0, 1) := by decide +kernel
theorem dX9_doesFor_86 : decode cX9_doesFor 86 = .ok (.goto 15, 3) := by decide +kernel
theorem dX9_doesFor_89 : decode cX9_doesFor 89 = .ok (.iload 6, 2) := by decide +kernel
theorem dX9_doesFor_91 : decode cX9_doesFor 91 = .ok (.iload_n 1, 1) := by decide +kernel
theorem dX9_doesFor_92 : decode cX9_doesFor 92 = .ok (.iand, 1) := by decide +kernel
theorem dX9_doesFor_93 : decode cX9_doesFor 93 = .ok (.ifCond .eq 7, 3) := by decide +kernel
theorem dX9_doesFor_96 : decode cX9_doesFor 96 = .ok (.iconst 1, 1) := by decide +kernel
theorem dX9_doesFor_97 : decode cX9_doesFor 97 = .ok (.goto 4, 3) := by decide +kernel
theorem dX9_doesFor_100 : decode cX9_doesFor 100 = .ok (.iconst 0, 1) := by decide +kernel
theorem dX9_doesFor_101 : decode cX9_doesFor 101 = .ok (.istore 7, 2) := by decide +kernel
theorem dX9_doesFor_103 : decode cX9_doesFor 103 = .ok (.iload 7, 2) := by decide +kernel
theorem dX9_doesFor_105 : decode cX9_doesFor 105 = .ok (.ifCond .ne 19, 3) := by decide +kernel
theorem dX9_doesFor_108 : decode cX9_doesFor 108 = .ok (.aload_n 0, 1) := by decide +kernel
theorem dX9_doesFor_109 : decode cX9_doesFor 109 = .ok (.getfield 12, 3) := by decide +kernel
theorem dX9_doesFor_112 : decode cX9_doesFor 112 = .ok (.iload 5, 2) := by decide +kernel
theorem dX9_doesFor_114 : decode cX9_doesFor 114 = .ok (.iload_n 1, 1) := by decide +kernel
theorem dX9_doesFor_115 : decode cX9_doesFor 115 = .ok (.iload_n 3, 1) := by decide +kernel
theorem dX9_doesFor_116 : decode cX9_doesFor 116 = .ok (.invokevirtual 282, 3) := by decide +kernel
theorem dX9_doesFor_119 : decode cX9_doesFor 119 = .ok (.ifCond .eq 5, 3) := by decide +kernel
theorem dX9_doesFor_122 : decode cX9_doesFor 122 = .ok (.iconst 0, 1) := by decide +kernel
theorem dX9_doesFor_123 : decode cX9_doesFor 123 = .ok (.ireturn, 1) := by decide +kernel
theorem dX9_doesFor_124 : decode cX9_doesFor 124 = .ok (.iinc 4 1, 3) := by decide +kernel
theorem dX9_doesFor_127 : decode cX9_doesFor 127 = .ok (.goto (-103), 3) := by decide +kernel
theorem dX9_doesFor_130 : decode cX9_doesFor 130 = .ok (.iconst 1, 1) := by decide +kernel
theorem dX9_doesFor_131 : decode cX9_doesFor 131 = .ok (.ireturn, 1) := by decide +kernel
def wW_k_X9_doesFor (ty : Nat → ClassId) (X : Nat → Nat) (z9_0 : Int32) (z9_1 : Int32) (z9_2 : Int32) (z9_3 : Int32) (z9_4 : Nat → Option Nat) (z9_5 : Int32) (z9_6 : Int32) (z9_7 : Int32) (z9_8 : Int32) (z9_9 : Int32) (z9_10 : Int32) (z9_11 : Int32) (z9_12 : Int32) (z9_13 : Int32) (z9_14 : Int32) (z9_15 : Nat → Int32) (z9_16 : Nat → Int32) (z9_17 : Nat → Int32) (z9_18 : Nat → Int32) (z9_19 : Nat → Int32) (z9_20 : Nat → Int32) (z9_21 : Nat → Int32) : va_W := [((X 1), .inr (8, [.ref (X 2), .int z9_0, .ref (X 3), .int z9_1, .ref (X 4), .ref (X 5), .int z9_2, .ref (X 6), .ref (X 7), .int z9_3])), ((X 3), .inl (ty 4, 20, .inr (.inr (.inr (.inr z9_4))))), ((X 20), .inr (11, [.ref (X 1), .ref (X 8), .ref (X 21), .ref (X 28), .ref (X 35), .int z9_5, .ref (X 36), .ref (X 37), .ref (X 38), .int z9_6, .int z9_7, .int z9_8, .int z9_9, .int z9_10, .int z9_11, .int z9_12, .int z9_13])), ((X 21), .inr (9, [.ref (X 22), .ref (X 23), .ref (X 24), .ref (X 25), .ref (X 26), .ref (X 27), .int z9_14])), ((X 22), .inl (ty 0, 300, .inl z9_15)), ((X 23), .inl (ty 0, 300, .inl z9_16)), ((X 24), .inl (ty 0, 300, .inl z9_17)), ((X 25), .inl (ty 0, 300, .inl z9_18)), ((X 35), .inl (ty 0, 300, .inl z9_19)), ((X 36), .inl (ty 0, 6, .inl z9_20)), ((X 37), .inl (ty 0, 6, .inl z9_21))]
abbrev r_k_X9_doesFor : Type := Int32
def m_k_X9_doesFor_124 (rec_24 : Int32 → r_k_X9_doesFor) (v4_24 : Int32) : r_k_X9_doesFor :=
  rec_24 (v4_24 + 1)
def m_k_X9_doesFor_101 (c1 : Nat → Int32) (c2 : Nat → Int32) (c3 : Nat → Int32) (ac : Nat → Int32) (a1 : Int32) (rec_24 : Int32 → r_k_X9_doesFor) (t_17 : r_k_X9_countsHeld) (v4_24 : Int32) (s0_101 : Int32) : r_k_X9_doesFor :=
  if s0_101 = 0 then
    lE (m_k_X7_bodyHolds c1 c2 c3 (ac v4_24.toNatClampNeg) a1 t_17) (fun t_116 =>
      if t_116 = 0 then
        m_k_X9_doesFor_124 rec_24 v4_24
      else
        0)
  else
    m_k_X9_doesFor_124 rec_24 v4_24
def m_k_X9_doesFor_24s (an : Int32) (ch : Int32) (c1 : Nat → Int32) (c2 : Nat → Int32) (c3 : Nat → Int32) (c4 : Nat → Int32) (ac : Nat → Int32) (a1 : Int32) (a2 : Int32) (t_17 : r_k_X9_countsHeld) (rec_24 : Int32 → r_k_X9_doesFor) (v4_24 : Int32) : r_k_X9_doesFor :=
  if an ≤ v4_24 then
    1
  else
    if 300 ≤ v4_24 then
      1
    else
      lE (m_k_X7_headsAt c4 (ac v4_24.toNatClampNeg)) (fun t_56 =>
        lE (m_k_X9_isChoice ch c1 (ac v4_24.toNatClampNeg)) (fun t_66 =>
          if t_66 = 0 then
            if ((t_56 &&& a2) &&& a1) = 0 then
              m_k_X9_doesFor_101 c1 c2 c3 ac a1 rec_24 t_17 v4_24 0
            else
              m_k_X9_doesFor_101 c1 c2 c3 ac a1 rec_24 t_17 v4_24 1
          else
            if ((t_56 &&& a2) &&& (a1 ^^^ (-1))) = 0 then
              m_k_X9_doesFor_101 c1 c2 c3 ac a1 rec_24 t_17 v4_24 1
            else
              m_k_X9_doesFor_101 c1 c2 c3 ac a1 rec_24 t_17 v4_24 0))
def m_k_X9_doesFor_24 (an : Int32) (ch : Int32) (c1 : Nat → Int32) (c2 : Nat → Int32) (c3 : Nat → Int32) (c4 : Nat → Int32) (ac : Nat → Int32) (a1 : Int32) (a2 : Int32) (t_17 : r_k_X9_countsHeld) : Nat → Int32 → r_k_X9_doesFor
  | 0, _ => (0)
  | n + 1, v4_24 => m_k_X9_doesFor_24s an ch c1 c2 c3 c4 ac a1 a2 t_17 (fun v4_24 => m_k_X9_doesFor_24 an ch c1 c2 c3 c4 ac a1 a2 t_17 n v4_24) v4_24
theorem m_k_X9_doesFor_24_succ (an : Int32) (ch : Int32) (c1 : Nat → Int32) (c2 : Nat → Int32) (c3 : Nat → Int32) (c4 : Nat → Int32) (ac : Nat → Int32) (a1 : Int32) (a2 : Int32) (t_17 : r_k_X9_countsHeld) (n : Nat) (v4_24 : Int32) : m_k_X9_doesFor_24 an ch c1 c2 c3 c4 ac a1 a2 t_17 (n + 1) v4_24 = m_k_X9_doesFor_24s an ch c1 c2 c3 c4 ac a1 a2 t_17 (m_k_X9_doesFor_24 an ch c1 c2 c3 c4 ac a1 a2 t_17 n) v4_24 := rfl
def m_k_X9_doesFor (pp : pT) (rn : Int32) (rf : Nat → Option Nat) (an : Int32) (ch : Int32) (cg : Int32) (fb : Int32) (c1 : Nat → Int32) (c2 : Nat → Int32) (c3 : Nat → Int32) (c4 : Nat → Int32) (ac : Nat → Int32) (obi : Nat → Int32) (sc : Nat → Int32) (a1 : Int32) (a2 : Int32) : r_k_X9_doesFor :=
  if ((a2 &&& fb) &&& (a1 ^^^ (-1))) = 0 then
    lE (m_k_X9_countsHeld pp rn rf cg obi sc a1) (fun t_17 =>
      m_k_X9_doesFor_24 an ch c1 c2 c3 c4 ac a1 a2 t_17 wF 0)
  else
    0
def vs_k_X9_doesFor : List Cond := .code yX9_doesFor cX9_doesFor 8 (some .boolean) :: ([.fieldLink RX9 75 "AnswerFold$Solver" "freeBits" "I", .methodLink RX9 241 yX9_countsHeld, .instanceMethod yX9_countsHeld, .selects RX9 yX9_countsHeld yX9_countsHeld, .initialized RX9, .fieldLink RX9 276 "AnswerFold$Solver" "activeCount" "I", .fieldLink RX9 21 "AnswerFold$Solver" "active" "[I", .fieldLink RX9 12 "AnswerFold$Solver" "checks" "LAnswerFold$Rows;", .methodLink RX9 279 yX7_headsAt, .instanceMethod yX7_headsAt, .selects RX7 yX7_headsAt yX7_headsAt, .initialized RX7, .methodLink RX9 287 yX9_isChoice, .instanceMethod yX9_isChoice, .selects RX9 yX9_isChoice yX9_isChoice, .methodLink RX9 282 yX7_bodyHolds, .instanceMethod yX7_bodyHolds, .selects RX7 yX7_bodyHolds yX7_bodyHolds] ++ (u_ws RX9 TX9 17 ++ (vs_k_X9_countsHeld ++ (vs_k_X7_headsAt ++ (vs_k_X9_isChoice ++ (vs_k_X7_bodyHolds))))))
theorem iv_k_X9_doesFor_X9 : ∀ w ∈ u_ws RX9 TX9 17, w ∈ vs_k_X9_doesFor := (fun _ h => List.mem_cons_of_mem _ (List.mem_append_right _ (List.mem_append_left _ h)))
set_option maxRecDepth 20000 in
theorem gv_k_X9_doesFor_0 : GoodIn vs_k_X9_doesFor (wsV RX9 241 RX9 yX9_countsHeld vs_k_X9_countsHeld) := goodIn_app (goodIn_sub (by decide +kernel) (by decide +kernel)) (goodIn_sub (fun _ h => List.mem_cons_of_mem _ (List.mem_append_right _ (List.mem_append_right _ (List.mem_append_left _ h)))) (by decide +kernel))
set_option maxRecDepth 20000 in
theorem gv_k_X9_doesFor_1 : GoodIn vs_k_X9_doesFor (wsV RX9 279 RX7 yX7_headsAt vs_k_X7_headsAt) := goodIn_app (goodIn_sub (by decide +kernel) (by decide +kernel)) (goodIn_sub (fun _ h => List.mem_cons_of_mem _ (List.mem_append_right _ (List.mem_append_right _ (List.mem_append_right _ (List.mem_append_left _ h))))) (by decide +kernel))
set_option maxRecDepth 20000 in
theorem gv_k_X9_doesFor_2 : GoodIn vs_k_X9_doesFor (wsV RX9 287 RX9 yX9_isChoice vs_k_X9_isChoice) := goodIn_app (goodIn_sub (by decide +kernel) (by decide +kernel)) (goodIn_sub (fun _ h => List.mem_cons_of_mem _ (List.mem_append_right _ (List.mem_append_right _ (List.mem_append_right _ (List.mem_append_right _ (List.mem_append_left _ h)))))) (by decide +kernel))
set_option maxRecDepth 20000 in
theorem gv_k_X9_doesFor_3 : GoodIn vs_k_X9_doesFor (wsV RX9 282 RX7 yX7_bodyHolds vs_k_X7_bodyHolds) := goodIn_app (goodIn_sub (by decide +kernel) (by decide +kernel)) (goodIn_sub (fun _ h => List.mem_cons_of_mem _ (List.mem_append_right _ (List.mem_append_right _ (List.mem_append_right _ (List.mem_append_right _ (List.mem_append_right _ (h))))))) (by decide +kernel))
set_option maxHeartbeats 4000000 in
set_option maxRecDepth 100000 in
theorem k_X9_doesFor (l : Launch) (D : va_G) (ty : Nat → ClassId) (td mi sz : Nat) (pp : pT) (X : Nat → Nat) (pn : Int32) (rn : Int32) (tn : Int32) (en : Int32) (rf : Nat → Option Nat) (an : Int32) (ch : Int32) (cg : Int32) (fb : Int32) (mh : Int32) (ml : Int32) (ih : Int32) (lb : Int32) (ic : Int32) (cn : Int32) (c1 : Nat → Int32) (c2 : Nat → Int32) (c3 : Nat → Int32) (c4 : Nat → Int32) (ac : Nat → Int32) (obi : Nat → Int32) (sc : Nat → Int32) (a1 : Int32) (a2 : Int32) (hok : pOK pp) (hru : ∀ (i a : Nat), rf i = some a → a ∈ pRA pp) (TT : r_k_X9_doesFor) (hTT : TT = m_k_X9_doesFor pp rn rf an ch cg fb c1 c2 c3 c4 ac obi sc a1 a2) : Met l yX9_doesFor vs_k_X9_doesFor { frames := 4, cells := 0, slots := 0, locals := 91 } (va_Pc [.ref (X 20), .int a1, .int a2] (wq_P D ty td mi ((wW_k_X9_doesFor ty X pn rn tn en rf an ch cg fb mh ml ih lb ic cn c1 c2 c3 c4 ac obi sc) ++ pw ty pp) sz)) (va_Qi (fun (r : Int32) (u : va_W) => (r = TT ∧ (TT = 0 ∨ TT = 1) ∧ (u = ((wW_k_X9_doesFor ty X pn rn tn en rf an ch cg fb mh ml ih lb ic cn c1 c2 c3 c4 ac obi sc) ++ pw ty pp)))) (wq_B D (va_A ((wW_k_X9_doesFor ty X pn rn tn en rf an ch cg fb mh ml ih lb ic cn c1 c2 c3 c4 ac obi sc) ++ pw ty pp) sz)) (va_A ((wW_k_X9_doesFor ty X pn rn tn en rf an ch cg fb mh ml ih lb ic cn c1 c2 c3 c4 ac obi sc) ++ pw ty pp) sz)) 0 0 (va_A ((wW_k_X9_doesFor ty X pn rn tn en rf an ch cg fb mh ml ih lb ic cn c1 c2 c3 c4 ac obi sc) ++ pw ty pp) sz) := by
  refine Met.ofW (cc := cX9_doesFor) (maxL := 8) (ret := (some .boolean)) (by decide) rfl ?_
  intro p e s m args below meth c s₁ B hml hv
  obtain ⟨rfl, hsz, hP, hK, hD0, hE⟩ := hv
  have hx := B.exec
  have hb := B.bytes
  have hr := B.returns
  have hts := atoms_spec (ws := vs_k_X9_doesFor) B.pre
  have hown : s.vm.findClass RX9 = some m.cls := findClass_of_methodNamed B.named
  have hlocks := B.notSynchronized
  subst hsz
  have hD := hD0.self (sz := s.heap.size)
  generalize hAe : va_A ((wW_k_X9_doesFor ty X pn rn tn en rf an ch cg fb mh ml ih lb ic cn c1 c2 c3 c4 ac obi sc) ++ pw ty pp) s.heap.size = A at hD hE ⊢
  have hA : ∀ q : Nat, s.heap.size ≤ q → A q := fun q h => by rw [← hAe]; exact Or.inr h
  have hS : va_S A s.heap s.heap [] := va_S.rf
  have hP : va_P D vwCl ((wW_k_X9_doesFor ty X pn rn tn en rf an ch cg fb mh ml ih lb ic cn c1 c2 c3 c4 ac obi sc) ++ pw ty pp) s.heap := hP
  have hl := lv_entry ([.ref (X 20), .int a1, .int a2]) (n := 8) (Nat.le_of_ble_eq_true rfl)
  rw [lg_entry_eq]
  generalize (lg_sl ([.ref (X 20), .int a1, .int a2]) ++ List.replicate (8 - (lg_sl ([.ref (X 20), .int a1, .int a2])).length) Slot.unset).toArray = ls at hl ⊢
  have hl : lv_has ls 8 [(0, .ref (X 20)), (1, .int a1), (2, .int a2)] := hl
  have END : ∀ (r : Int32), TT = r → (r = 0 ∨ r = 1) → ∀ (H : Heap) (locs : List Loc), va_P D vwCl ((wW_k_X9_doesFor ty X pn rn tn en rf an ch cg fb mh ml ih lb ic cn c1 c2 c3 c4 ac obi sc) ++ pw ty pp) H → va_D A ((wW_k_X9_doesFor ty X pn rn tn en rf an ch cg fb mh ml ih lb ic cn c1 c2 c3 c4 ac obi sc) ++ pw ty pp) → va_S A s.heap H locs → ∀ (ls : Array Slot) (pc : Nat), decode cX9_doesFor pc = .ok (.ireturn, 1) → W p l e (headSpec vs_k_X9_doesFor { frames := 4, cells := 0, slots := 0, locals := 91 }).room s m ([.ref (X 20), .int a1, .int a2] : List Value).toArray below meth c H locs 0 0 (MQ below (va_Qi (fun (r : Int32) (u : va_W) => (r = TT ∧ (TT = 0 ∨ TT = 1) ∧ (u = ((wW_k_X9_doesFor ty X pn rn tn en rf an ch cg fb mh ml ih lb ic cn c1 c2 c3 c4 ac obi sc) ++ pw ty pp)))) (wq_B D A) A) ([.ref (X 20), .int a1, .int a2] : List Value).toArray s 0 0 A) (F0 m pc ls [.int r]) := by
    intro r hT hb01 H locs hP hD hS ls pc hd
    have hM : TT = r := hT
    exact W.zret (v := r) hx hb hr (wz_nar hb01) (fun t ht hW => ⟨⟨r, ((wW_k_X9_doesFor ty X pn rn tn en rf an ch cg fb mh ml ih lb ic cn c1 c2 c3 c4 ac obi sc) ++ pw ty pp), rfl, ⟨(by rw [hM]), (by rw [hM]; exact hb01), rfl⟩, wq_B.of ht hP hD⟩, hS.F ht⟩) hS.2.2 hd
  have hT := hTT
  rw [m_k_X9_doesFor] at hT
  refine lv_iload_n hx hb dX9_doesFor_0 rfl (lv_at hl 2 rfl) ?_
  refine lv_aload_n hx hb dX9_doesFor_1 rfl (lv_at hl 0 rfl) ?_
  refine va_get (D := D) (ci := 11) (v := .int fb) (C := RX9) (T := TX9) (N := 17) hx hb hts iv_k_X9_doesFor_X9 hown hK hP 2 rfl rfl 11 (by decide) (hts (.fieldLink RX9 75 "AnswerFold$Solver" "freeBits" "I") (by decide +kernel)) (fun _ h9 => h9) rfl dX9_doesFor_2 ?_
  refine lv_iand hx hb dX9_doesFor_5 ?_
  refine lv_iload_n hx hb dX9_doesFor_6 rfl (lv_at hl 1 rfl) ?_
  refine lv_iconst (v := (-1)) hx hb dX9_doesFor_7 (by decide) ?_
  refine lv_ixor hx hb dX9_doesFor_8 ?_
  refine lv_iand hx hb dX9_doesFor_9 ?_
  refine lv_if_eq (tgt := 15) hx hb dX9_doesFor_10 (by decide) (fun c_1 => ?_) (fun c_1 => ?_)
  · rw [if_pos c_1] at hT
    refine lv_aload_n hx hb dX9_doesFor_15 rfl (lv_at hl 0 rfl) ?_
    refine lv_iload_n hx hb dX9_doesFor_16 rfl (lv_at hl 1 rfl) ?_
    obtain ⟨t_17, ht_17⟩ : ∃ t, t = m_k_X9_countsHeld pp rn rf cg obi sc a1 := ⟨_, rfl⟩
    rw [lE_eq ht_17] at hT
    refine wq_iPW (wc := (wW_k_X9_countsHeld ty X pn rn tn en rf an ch cg fb mh ml ih lb ic obi sc)) (pl := pw ty pp) (ux := (wW_k_X9_countsHeld ty X pn rn tn en rf an ch cg fb mh ml ih lb ic obi sc)) (va_runV (As := [.int a1]) (rest := []) ⟨hx, hb, hml, hown, hts⟩ (k_X9_countsHeld l D ty td mi s.heap.size pp X pn rn tn en rf an ch cg fb mh ml ih lb ic obi sc a1 hok hru t_17 ht_17) (cwV 1 hts gv_k_X9_doesFor_0 rfl rfl rfl (by decide +kernel) ⟨(Nat.le_of_ble_eq_true rfl), (Nat.le_of_ble_eq_true rfl)⟩) (wm_V (wm_preSP hP hD hK hE hS hA [true, true, true, false, false, false, false, false, false, true, true] rfl) (va_recv (q0 := 2) (ci := 11) hK hP rfl rfl)) rfl rfl hl.1 rfl (lv_room (Nat.le_of_ble_eq_true rfl)) dX9_doesFor_17 ⟨(Nat.le_of_ble_eq_true rfl), (Nat.le_of_ble_eq_true rfl)⟩) hS hA hP hD [true, true, true, false, false, false, false, false, false, true, true] rfl rfl (fun _ _ h => h.2) (fun r H locs hw hP hD hS => ?_)
    obtain ⟨hr0, -⟩ := hw
    subst r
    have hP : va_P D vwCl ((wW_k_X9_doesFor ty X pn rn tn en rf an ch cg fb mh ml ih lb ic cn c1 c2 c3 c4 ac obi sc) ++ pw ty pp) H := hP
    have hD : va_D A ((wW_k_X9_doesFor ty X pn rn tn en rf an ch cg fb mh ml ih lb ic cn c1 c2 c3 c4 ac obi sc) ++ pw ty pp) := hD
    refine W.widen (k := 0) (n := 0) (Nat.le_of_ble_eq_true rfl) (Nat.le_of_ble_eq_true rfl) ?_
    refine lv_istore_n (lv' := [(3, .int t_17), (0, .ref (X 20)), (1, .int a1), (2, .int a2)]) hx hb dX9_doesFor_20 rfl hl (by decide) rfl (fun ls hl => ?_)
    refine lv_iconst (v := 0) hx hb dX9_doesFor_21 (by decide) ?_
    refine lv_istore (lv' := [(4, .int 0), (3, .int t_17), (0, .ref (X 20)), (1, .int a1), (2, .int a2)]) hx hb dX9_doesFor_22 hl (by decide) rfl (fun ls hl => ?_)
    have L_24 : ∀ (n_24 : Nat) (v4_24 : Int32), (2147483648 - v4_24.toInt).toNat < n_24 → TT = m_k_X9_doesFor_24 an ch c1 c2 c3 c4 ac a1 a2 t_17 n_24 v4_24 → 0 ≤ v4_24.toInt → ∀ (H : Heap) (locs : List Loc), va_P D vwCl ((wW_k_X9_doesFor ty X pn rn tn en rf an ch cg fb mh ml ih lb ic cn c1 c2 c3 c4 ac obi sc) ++ pw ty pp) H → va_D A ((wW_k_X9_doesFor ty X pn rn tn en rf an ch cg fb mh ml ih lb ic cn c1 c2 c3 c4 ac obi sc) ++ pw ty pp) → va_S A s.heap H locs → ∀ ls : Array Slot, lv_has ls 8 [(0, .ref (X 20)), (1, .int a1), (2, .int a2), (3, .int t_17), (4, .int v4_24)] → W p l e (headSpec vs_k_X9_doesFor { frames := 4, cells := 0, slots := 0, locals := 91 }).room s m ([.ref (X 20), .int a1, .int a2] : List Value).toArray below meth c H locs 0 0 (MQ below (va_Qi (fun (r : Int32) (u : va_W) => (r = TT ∧ (TT = 0 ∨ TT = 1) ∧ (u = ((wW_k_X9_doesFor ty X pn rn tn en rf an ch cg fb mh ml ih lb ic cn c1 c2 c3 c4 ac obi sc) ++ pw ty pp)))) (wq_B D A) A) ([.ref (X 20), .int a1, .int a2] : List Value).toArray s 0 0 A) (F0 m 24 ls []) := by
      intro n_24
      induction n_24 with
      | zero => intro v4_24 hu; exact absurd hu (Nat.not_lt_zero _)
      | succ n_24 ih_24 =>
        intro v4_24 hu_24 hT hn_24 H locs hP hD hS ls hl
        rw [m_k_X9_doesFor_24_succ, m_k_X9_doesFor_24s] at hT
        refine lv_iload hx hb dX9_doesFor_24 (lv_at hl 4 rfl) ?_
        refine lv_aload_n hx hb dX9_doesFor_26 rfl (lv_at hl 0 rfl) ?_
        refine va_get (D := D) (ci := 11) (v := .int an) (C := RX9) (T := TX9) (N := 17) hx hb hts iv_k_X9_doesFor_X9 hown hK hP 2 rfl rfl 5 (by decide) (hts (.fieldLink RX9 276 "AnswerFold$Solver" "activeCount" "I") (by decide +kernel)) (fun _ h9 => h9) rfl dX9_doesFor_27 ?_
        refine lv_icmp_ge (tgt := 130) hx hb dX9_doesFor_30 (by decide) (fun c_4 => ?_) (fun c_4 => ?_)
        · rw [if_pos c_4] at hT
          refine lv_iconst (v := 1) hx hb dX9_doesFor_130 (by decide) ?_
          exact END 1 hT (by decide) _ _ hP hD hS _ _ dX9_doesFor_131
        · rw [if_neg c_4] at hT
          refine lv_iload hx hb dX9_doesFor_33 (lv_at hl 4 rfl) ?_
          refine lv_sipush (v := 300) hx hb dX9_doesFor_35 (by decide) ?_
          refine lv_icmp_ge (tgt := 130) hx hb dX9_doesFor_38 (by decide) (fun c_5 => ?_) (fun c_5 => ?_)
          · rw [if_pos c_5] at hT
            refine lv_iconst (v := 1) hx hb dX9_doesFor_130 (by decide) ?_
            exact END 1 hT (by decide) _ _ hP hD hS _ _ dX9_doesFor_131
          · rw [if_neg c_5] at hT
            refine lv_aload_n hx hb dX9_doesFor_41 rfl (lv_at hl 0 rfl) ?_
            refine va_get (D := D) (ci := 11) (v := .ref (X 35)) (C := RX9) (T := TX9) (N := 17) hx hb hts iv_k_X9_doesFor_X9 hown hK hP 2 rfl rfl 4 (by decide) (hts (.fieldLink RX9 21 "AnswerFold$Solver" "active" "[I") (by decide +kernel)) (fun _ h9 => h9) rfl dX9_doesFor_42 ?_
            refine lv_iload hx hb dX9_doesFor_45 (lv_at hl 4 rfl) ?_
            refine va_iald (D := D) hx hb hK hP 8 0 rfl rfl (wi_in hn_24 (wi_hi c_5 (by decide))) dX9_doesFor_47 ?_
            refine lv_istore (lv' := [(5, .int (ac v4_24.toNatClampNeg)), (0, .ref (X 20)), (1, .int a1), (2, .int a2), (3, .int t_17), (4, .int v4_24)]) hx hb dX9_doesFor_48 hl (by decide) rfl (fun ls hl => ?_)
            refine lv_aload_n hx hb dX9_doesFor_50 rfl (lv_at hl 1 rfl) ?_
            refine va_get (D := D) (ci := 11) (v := .ref (X 21)) (C := RX9) (T := TX9) (N := 17) hx hb hts iv_k_X9_doesFor_X9 hown hK hP 2 rfl rfl 2 (by decide) (hts (.fieldLink RX9 12 "AnswerFold$Solver" "checks" "LAnswerFold$Rows;") (by decide +kernel)) (fun _ h9 => h9) rfl dX9_doesFor_51 ?_
            refine lv_iload hx hb dX9_doesFor_54 (lv_at hl 0 rfl) ?_
            obtain ⟨t_56, ht_56⟩ : ∃ t, t = m_k_X7_headsAt c4 (ac v4_24.toNatClampNeg) := ⟨_, rfl⟩
            rw [lE_eq ht_56] at hT
            refine wq_iQW (wc := (wW_k_X7_headsAt ty (X 21) (X 22) (X 23) (X 24) (X 25) (X 26) (X 27) cn c4)) (pl := pw ty pp) (va_runV (As := [.int (ac v4_24.toNatClampNeg)]) (rest := []) ⟨hx, hb, hml, hown, hts⟩ (k_X7_headsAt l D ty td mi H.size (X 21) (X 22) (X 23) (X 24) (X 25) (X 26) (X 27) cn c4 (ac v4_24.toNatClampNeg) t_56 ht_56) (cwV 1 hts gv_k_X9_doesFor_1 rfl rfl rfl (by decide +kernel) ⟨(Nat.le_of_ble_eq_true rfl), (Nat.le_of_ble_eq_true rfl)⟩) (wm_V (wm_preS (vP_left hP) (vD_left hD) hK hE hS hA [false, false, false, true, false, false, false, true] rfl) (va_recv (q0 := 3) (ci := 9) hK hP rfl rfl)) rfl rfl hl.1 rfl (lv_room (Nat.le_of_ble_eq_true rfl)) dX9_doesFor_56 ⟨(Nat.le_of_ble_eq_true rfl), (Nat.le_of_ble_eq_true rfl)⟩) hS hA hP hD [false, false, false, true, false, false, false, true] rfl (fun _ _ h => by rcases h with ⟨-, rfl⟩; rfl) (fun r u H locs hw hP hD hS => ?_)
            obtain ⟨hr0, rfl⟩ := hw
            subst r
            have hP : va_P D vwCl ((wW_k_X9_doesFor ty X pn rn tn en rf an ch cg fb mh ml ih lb ic cn c1 c2 c3 c4 ac obi sc) ++ pw ty pp) H := hP
            have hD : va_D A ((wW_k_X9_doesFor ty X pn rn tn en rf an ch cg fb mh ml ih lb ic cn c1 c2 c3 c4 ac obi sc) ++ pw ty pp) := hD
            refine W.widen (k := 0) (n := 0) (Nat.le_of_ble_eq_true rfl) (Nat.le_of_ble_eq_true rfl) ?_
            refine lv_iload_n hx hb dX9_doesFor_59 rfl (lv_at hl 3 rfl) ?_
            refine lv_iand hx hb dX9_doesFor_60 ?_
            refine lv_istore (lv' := [(6, .int (t_56 &&& a2)), (5, .int (ac v4_24.toNatClampNeg)), (0, .ref (X 20)), (1, .int a1), (2, .int a2), (3, .int t_17), (4, .int v4_24)]) hx hb dX9_doesFor_61 hl (by decide) rfl (fun ls hl => ?_)
            refine lv_aload_n hx hb dX9_doesFor_63 rfl (lv_at hl 2 rfl) ?_
            refine lv_iload hx hb dX9_doesFor_64 (lv_at hl 1 rfl) ?_
            obtain ⟨t_66, ht_66⟩ : ∃ t, t = m_k_X9_isChoice ch c1 (ac v4_24.toNatClampNeg) := ⟨_, rfl⟩
            rw [lE_eq ht_66] at hT
            refine wq_iQW (wc := (wW_k_X9_isChoice ty X an ch cg fb mh ml ih lb ic cn c1)) (pl := pw ty pp) (va_runV (As := [.int (ac v4_24.toNatClampNeg)]) (rest := []) ⟨hx, hb, hml, hown, hts⟩ (k_X9_isChoice l D ty td mi H.size X an ch cg fb mh ml ih lb ic cn c1 (ac v4_24.toNatClampNeg) t_66 ht_66) (cwV 1 hts gv_k_X9_doesFor_2 rfl rfl rfl (by decide +kernel) ⟨(Nat.le_of_ble_eq_true rfl), (Nat.le_of_ble_eq_true rfl)⟩) (wm_V (wm_preS (vP_left hP) (vD_left hD) hK hE hS hA [false, false, true, true, true] rfl) (va_recv (q0 := 2) (ci := 11) hK hP rfl rfl)) rfl rfl hl.1 rfl (lv_room (Nat.le_of_ble_eq_true rfl)) dX9_doesFor_66 ⟨(Nat.le_of_ble_eq_true rfl), (Nat.le_of_ble_eq_true rfl)⟩) hS hA hP hD [false, false, true, true, true] rfl (fun _ _ h => by rcases h with ⟨-, -, rfl⟩; rfl) (fun r u H locs hw hP hD hS => ?_)
            obtain ⟨hr0, c_10, rfl⟩ := hw
            subst r
            have hP : va_P D vwCl ((wW_k_X9_doesFor ty X pn rn tn en rf an ch cg fb mh ml ih lb ic cn c1 c2 c3 c4 ac obi sc) ++ pw ty pp) H := hP
            have hD : va_D A ((wW_k_X9_doesFor ty X pn rn tn en rf an ch cg fb mh ml ih lb ic cn c1 c2 c3 c4 ac obi sc) ++ pw ty pp) := hD
            refine W.widen (k := 0) (n := 0) (Nat.le_of_ble_eq_true rfl) (Nat.le_of_ble_eq_true rfl) ?_
            have J_101 : ∀ (s0_101 : Int32), TT = m_k_X9_doesFor_101 c1 c2 c3 ac a1 (m_k_X9_doesFor_24 an ch c1 c2 c3 c4 ac a1 a2 t_17 n_24) t_17 v4_24 s0_101 → s0_101 = 0 ∨ s0_101 = 1 → ∀ (H : Heap) (locs : List Loc), va_P D vwCl ((wW_k_X9_doesFor ty X pn rn tn en rf an ch cg fb mh ml ih lb ic cn c1 c2 c3 c4 ac obi sc) ++ pw ty pp) H → va_D A ((wW_k_X9_doesFor ty X pn rn tn en rf an ch cg fb mh ml ih lb ic cn c1 c2 c3 c4 ac obi sc) ++ pw ty pp) → va_S A s.heap H locs → ∀ ls : Array Slot, lv_has ls 8 [(0, .ref (X 20)), (1, .int a1), (2, .int a2), (3, .int t_17), (4, .int v4_24), (5, .int (ac v4_24.toNatClampNeg))] → W p l e (headSpec vs_k_X9_doesFor { frames := 4, cells := 0, slots := 0, locals := 91 }).room s m ([.ref (X 20), .int a1, .int a2] : List Value).toArray below meth c H locs 0 0 (MQ below (va_Qi (fun (r : Int32) (u : va_W) => (r = TT ∧ (TT = 0 ∨ TT = 1) ∧ (u = ((wW_k_X9_doesFor ty X pn rn tn en rf an ch cg fb mh ml ih lb ic cn c1 c2 c3 c4 ac obi sc) ++ pw ty pp)))) (wq_B D A) A) ([.ref (X 20), .int a1, .int a2] : List Value).toArray s 0 0 A) (F0 m 101 ls [.int s0_101]) := by
              intro s0_101 hT hb_s0_101 H locs hP hD hS ls hl
              rw [m_k_X9_doesFor_101] at hT
              refine lv_istore (lv' := [(7, .int s0_101), (0, .ref (X 20)), (1, .int a1), (2, .int a2), (3, .int t_17), (4, .int v4_24), (5, .int (ac v4_24.toNatClampNeg))]) hx hb dX9_doesFor_101 hl (by decide) rfl (fun ls hl => ?_)
              refine lv_iload hx hb dX9_doesFor_103 (lv_at hl 0 rfl) ?_
              have J_124 : ∀ (_ : Unit), TT = m_k_X9_doesFor_124 (m_k_X9_doesFor_24 an ch c1 c2 c3 c4 ac a1 a2 t_17 n_24) v4_24 → ∀ (H : Heap) (locs : List Loc), va_P D vwCl ((wW_k_X9_doesFor ty X pn rn tn en rf an ch cg fb mh ml ih lb ic cn c1 c2 c3 c4 ac obi sc) ++ pw ty pp) H → va_D A ((wW_k_X9_doesFor ty X pn rn tn en rf an ch cg fb mh ml ih lb ic cn c1 c2 c3 c4 ac obi sc) ++ pw ty pp) → va_S A s.heap H locs → ∀ ls : Array Slot, lv_has ls 8 [(0, .ref (X 20)), (1, .int a1), (2, .int a2), (3, .int t_17), (4, .int v4_24)] → W p l e (headSpec vs_k_X9_doesFor { frames := 4, cells := 0, slots := 0, locals := 91 }).room s m ([.ref (X 20), .int a1, .int a2] : List Value).toArray below meth c H locs 0 0 (MQ below (va_Qi (fun (r : Int32) (u : va_W) => (r = TT ∧ (TT = 0 ∨ TT = 1) ∧ (u = ((wW_k_X9_doesFor ty X pn rn tn en rf an ch cg fb mh ml ih lb ic cn c1 c2 c3 c4 ac obi sc) ++ pw ty pp)))) (wq_B D A) A) ([.ref (X 20), .int a1, .int a2] : List Value).toArray s 0 0 A) (F0 m 124 ls []) := by
                intro _ hT  H locs hP hD hS ls hl
                rw [m_k_X9_doesFor_124] at hT
                refine lv_iinc (v := v4_24 + 1) (lv' := [(4, .int (v4_24 + 1)), (0, .ref (X 20)), (1, .int a1), (2, .int a2), (3, .int t_17)]) hx hb dX9_doesFor_124 hl (k := 4) rfl (by rfl) (by decide) rfl (fun ls hl => ?_)
                refine lv_goto (tgt := 24) hx hb dX9_doesFor_127 (by decide) ?_
                exact ih_24 (v4_24 + 1) (wi_up hu_24 (Int32.not_le.mp c_4)) hT (wi_inc hn_24 (Int32.not_le.mp c_4)) _ _ hP hD hS _ (lv_sub hl [1, 2, 3, 4, 0] rfl)
              refine lv_if_ne (tgt := 124) hx hb dX9_doesFor_105 (by decide) (fun c_11 => ?_) (fun c_11 => ?_)
              · rw [if_neg c_11] at hT
                exact J_124 () hT _ _ hP hD hS _ (lv_sub hl [1, 2, 3, 4, 5] rfl)
              · rw [if_pos c_11] at hT
                refine lv_aload_n hx hb dX9_doesFor_108 rfl (lv_at hl 1 rfl) ?_
                refine va_get (D := D) (ci := 11) (v := .ref (X 21)) (C := RX9) (T := TX9) (N := 17) hx hb hts iv_k_X9_doesFor_X9 hown hK hP 2 rfl rfl 2 (by decide) (hts (.fieldLink RX9 12 "AnswerFold$Solver" "checks" "LAnswerFold$Rows;") (by decide +kernel)) (fun _ h9 => h9) rfl dX9_doesFor_109 ?_
                refine lv_iload hx hb dX9_doesFor_112 (lv_at hl 6 rfl) ?_
                refine lv_iload_n hx hb dX9_doesFor_114 rfl (lv_at hl 2 rfl) ?_
                refine lv_iload_n hx hb dX9_doesFor_115 rfl (lv_at hl 4 rfl) ?_
                obtain ⟨t_116, ht_116⟩ : ∃ t, t = m_k_X7_bodyHolds c1 c2 c3 (ac v4_24.toNatClampNeg) a1 t_17 := ⟨_, rfl⟩
                rw [lE_eq ht_116] at hT
                refine wq_iQW (wc := (wW_k_X7_bodyHolds ty (X 21) (X 22) (X 23) (X 24) (X 25) (X 26) (X 27) cn c1 c2 c3)) (pl := pw ty pp) (va_runV (As := [.int (ac v4_24.toNatClampNeg), .int a1, .int t_17]) (rest := []) ⟨hx, hb, hml, hown, hts⟩ (k_X7_bodyHolds l D ty td mi H.size (X 21) (X 22) (X 23) (X 24) (X 25) (X 26) (X 27) cn c1 c2 c3 (ac v4_24.toNatClampNeg) a1 t_17 t_116 ht_116) (cwV 3 hts gv_k_X9_doesFor_3 rfl rfl rfl (by decide +kernel) ⟨(Nat.le_of_ble_eq_true rfl), (Nat.le_of_ble_eq_true rfl)⟩) (wm_V (wm_preS (vP_left hP) (vD_left hD) hK hE hS hA [false, false, false, true, true, true, true] rfl) (va_recv (q0 := 3) (ci := 9) hK hP rfl rfl)) rfl rfl hl.1 rfl (lv_room (Nat.le_of_ble_eq_true rfl)) dX9_doesFor_116 ⟨(Nat.le_of_ble_eq_true rfl), (Nat.le_of_ble_eq_true rfl)⟩) hS hA hP hD [false, false, false, true, true, true, true] rfl (fun _ _ h => by rcases h with ⟨-, -, rfl⟩; rfl) (fun r u H locs hw hP hD hS => ?_)
                obtain ⟨hr0, c_14, rfl⟩ := hw
                subst r
                have hP : va_P D vwCl ((wW_k_X9_doesFor ty X pn rn tn en rf an ch cg fb mh ml ih lb ic cn c1 c2 c3 c4 ac obi sc) ++ pw ty pp) H := hP
                have hD : va_D A ((wW_k_X9_doesFor ty X pn rn tn en rf an ch cg fb mh ml ih lb ic cn c1 c2 c3 c4 ac obi sc) ++ pw ty pp) := hD
                refine W.widen (k := 0) (n := 0) (Nat.le_of_ble_eq_true rfl) (Nat.le_of_ble_eq_true rfl) ?_
                refine lv_if_eq (tgt := 124) hx hb dX9_doesFor_119 (by decide) (fun c_15 => ?_) (fun c_15 => ?_)
                · rw [if_pos c_15] at hT
                  exact J_124 () hT _ _ hP hD hS _ (lv_sub hl [1, 2, 3, 4, 5] rfl)
                · rw [if_neg c_15] at hT
                  refine lv_iconst (v := 0) hx hb dX9_doesFor_122 (by decide) ?_
                  exact END 0 hT (by decide) _ _ hP hD hS _ _ dX9_doesFor_123
            refine lv_if_eq (tgt := 89) hx hb dX9_doesFor_69 (by decide) (fun c_16 => ?_) (fun c_16 => ?_)
            · rw [if_pos c_16] at hT
              refine lv_iload hx hb dX9_doesFor_89 (lv_at hl 0 rfl) ?_
              refine lv_iload_n hx hb dX9_doesFor_91 rfl (lv_at hl 3 rfl) ?_
              refine lv_iand hx hb dX9_doesFor_92 ?_
              refine lv_if_eq (tgt := 100) hx hb dX9_doesFor_93 (by decide) (fun c_17 => ?_) (fun c_17 => ?_)
              · rw [if_pos c_17] at hT
                refine lv_iconst (v := 0) hx hb dX9_doesFor_100 (by decide) ?_
                exact J_101 0 hT (by decide) _ _ hP hD hS _ (lv_sub hl [2, 3, 4, 5, 6, 1] rfl)
              · rw [if_neg c_17] at hT
                refine lv_iconst (v := 1) hx hb dX9_doesFor_96 (by decide) ?_
                refine lv_goto (tgt := 101) hx hb dX9_doesFor_97 (by decide) ?_
                exact J_101 1 hT (by decide) _ _ hP hD hS _ (lv_sub hl [2, 3, 4, 5, 6, 1] rfl)
            · rw [if_neg c_16] at hT
              refine lv_iload hx hb dX9_doesFor_72 (lv_at hl 0 rfl) ?_
              refine lv_iload_n hx hb dX9_doesFor_74 rfl (lv_at hl 3 rfl) ?_
              refine lv_iconst (v := (-1)) hx hb dX9_doesFor_75 (by decide) ?_
              refine lv_ixor hx hb dX9_doesFor_76 ?_
              refine lv_iand hx hb dX9_doesFor_77 ?_
              refine lv_if_ne (tgt := 85) hx hb dX9_doesFor_78 (by decide) (fun c_18 => ?_) (fun c_18 => ?_)
              · rw [if_neg c_18] at hT
                refine lv_iconst (v := 0) hx hb dX9_doesFor_85 (by decide) ?_
                refine lv_goto (tgt := 101) hx hb dX9_doesFor_86 (by decide) ?_
                exact J_101 0 hT (by decide) _ _ hP hD hS _ (lv_sub hl [2, 3, 4, 5, 6, 1] rfl)
              · rw [if_pos c_18] at hT
                refine lv_iconst (v := 1) hx hb dX9_doesFor_81 (by decide) ?_
                refine lv_goto (tgt := 101) hx hb dX9_doesFor_82 (by decide) ?_
                exact J_101 1 hT (by decide) _ _ hP hD hS _ (lv_sub hl [2, 3, 4, 5, 6, 1] rfl)
    exact L_24 wF 0 (wF_up 0) hT (by decide) _ _ hP hD hS _ (lv_sub hl [2, 3, 4, 1, 0] rfl)
  · rw [if_neg c_1] at hT
    refine lv_iconst (v := 0) hx hb dX9_doesFor_13 (by decide) ?_
    exact END 0 hT (by decide) _ _ hP hD hS _ _ dX9_doesFor_14
theorem dX9_hasSmallerByAll_0 : decode cX9_hasSmallerByAll 0 = .ok (.aload_n 0, 1) := by decide +kernel
theorem dX9_hasSmallerByAll_1 : decode cX9_hasSmallerByAll 1 = .ok (.iload_n 1, 1) := by decide +kernel
theorem dX9_hasSmallerByAll_2 : decode cX9_hasSmallerByAll 2 = .ok (.invokevirtual 266, 3) := by decide +kernel
theorem dX9_hasSmallerByAll_5 : decode cX9_hasSmallerByAll 5 = .ok (.iconst 0, 1) := by decide +kernel
theorem dX9_hasSmallerByAll_6 : decode cX9_hasSmallerByAll 6 = .ok (.istore_n 2, 1) := by decide +kernel
theorem dX9_hasSmallerByAll_7 : decode cX9_hasSmallerByAll 7 = .ok (.iload_n 2, 1) := by decide +kernel
theorem dX9_hasSmallerByAll_8 : decode cX9_hasSmallerByAll 8 = .ok (.iload_n 1, 1) := by decide +kernel
theorem dX9_hasSmallerByAll_9 : decode cX9_hasSmallerByAll 9 = .ok (.if_icmp .ge 28, 3) := by decide +kernel
theorem dX9_hasSmallerByAll_12 : decode cX9_hasSmallerByAll 12 = .ok (.iload_n 2, 1) := by decide +kernel
theorem dX9_hasSmallerByAll_13 : decode cX9_hasSmallerByAll 13 = .ok (.iload_n 1, 1) := by decide +kernel
theorem dX9_hasSmallerByAll_14 : decode cX9_hasSmallerByAll 14 = .ok (.iconst (-1), 1) := by decide +kernel
theorem dX9_hasSmallerByAll_15 : decode cX9_hasSmallerByAll 15 = .ok (.ixor, 1) := by decide +kernel
theorem dX9_hasSmallerByAll_16 : decode cX9_hasSmallerByAll 16 = .ok (.iand, 1) := by decide +kernel
theorem dX9_hasSmallerByAll_17 : decode cX9_hasSmallerByAll 17 = .ok (.ifCond .ne 14, 3) := by decide +kernel
theorem dX9_hasSmallerByAll_20 : decode cX9_hasSmallerByAll 20 = .ok (.aload_n 0, 1) := by decide +kernel
theorem dX9_hasSmallerByAll_21 : decode cX9_hasSmallerByAll 21 = .ok (.iload_n 2, 1) := by decide +kernel
theorem dX9_hasSmallerByAll_22 : decode cX9_hasSmallerByAll 22 = .ok (.iload_n 1, 1) := by decide +kernel
theorem dX9_hasSmallerByAll_23 : decode cX9_hasSmallerByAll 23 = .ok (.invokevirtual 290, 3) := by decide +kernel
theorem dX9_hasSmallerByAll_26 : decode cX9_hasSmallerByAll 26 = .ok (.ifCond .eq 5, 3) := by decide +kernel
theorem dX9_hasSmallerByAll_29 : decode cX9_hasSmallerByAll 29 = .ok (.iconst 1, 1) := by decide +kernel
theorem dX9_hasSmallerByAll_30 : decode cX9_hasSmallerByAll 30 = .ok (.ireturn, 1) := by decide +kernel
theorem dX9_hasSmallerByAll_31 : decode cX9_hasSmallerByAll 31 = .ok (.iinc 2 1, 3) := by decide +kernel
theorem dX9_hasSmallerByAll_34 : decode cX9_hasSmallerByAll 34 = .ok (.goto (-27), 3) := by decide +kernel
theorem dX9_hasSmallerByAll_37 : decode cX9_hasSmallerByAll 37 = .ok (.iconst 0, 1) := by decide +kernel
theorem dX9_hasSmallerByAll_38 : decode cX9_hasSmallerByAll 38 = .ok (.ireturn, 1) := by decide +kernel
def wW_k_X9_hasSmallerByAll (ty : Nat → ClassId) (X : Nat → Nat) (z9_0 : Int32) (z9_1 : Int32) (z9_2 : Int32) (z9_3 : Int32) (z9_4 : Nat → Option Nat) (z9_5 : Int32) (z9_6 : Int32) (z9_7 : Int32) (z9_8 : Int32) (z9_9 : Int32) (z9_10 : Int32) (z9_11 : Int32) (z9_12 : Int32) (z9_13 : Int32) (z9_14 : Int32) (z9_15 : Nat → Int32) (z9_16 : Nat → Int32) (z9_17 : Nat → Int32) (z9_18 : Nat → Int32) (z9_19 : Nat → Int32) (z9_20 : Nat → Int32) (z9_21 : Nat → Int32) : va_W := [((X 1), .inr (8, [.ref (X 2), .int z9_0, .ref (X 3), .int z9_1, .ref (X 4), .ref (X 5), .int z9_2, .ref (X 6), .ref (X 7), .int z9_3])), ((X 3), .inl (ty 4, 20, .inr (.inr (.inr (.inr z9_4))))), ((X 20), .inr (11, [.ref (X 1), .ref (X 8), .ref (X 21), .ref (X 28), .ref (X 35), .int z9_5, .ref (X 36), .ref (X 37), .ref (X 38), .int z9_6, .int z9_7, .int z9_8, .int z9_9, .int z9_10, .int z9_11, .int z9_12, .int z9_13])), ((X 21), .inr (9, [.ref (X 22), .ref (X 23), .ref (X 24), .ref (X 25), .ref (X 26), .ref (X 27), .int z9_14])), ((X 22), .inl (ty 0, 300, .inl z9_15)), ((X 23), .inl (ty 0, 300, .inl z9_16)), ((X 24), .inl (ty 0, 300, .inl z9_17)), ((X 25), .inl (ty 0, 300, .inl z9_18)), ((X 35), .inl (ty 0, 300, .inl z9_19)), ((X 36), .inl (ty 0, 6, .inl z9_20)), ((X 37), .inl (ty 0, 6, .inl z9_21))]
abbrev r_k_X9_hasSmallerByAll : Type := Int32 × Int32 × (Nat → Int32)
def m_k_X9_hasSmallerByAll_31 (rec_7 : Int32 → r_k_X9_hasSmallerByAll) (v2_7 : Int32) : r_k_X9_hasSmallerByAll :=
  rec_7 (v2_7 + 1)
def m_k_X9_hasSmallerByAll_7s (pp : pT) (rn : Int32) (rf : Nat → Option Nat) (ch : Int32) (cg : Int32) (fb : Int32) (c1 : Nat → Int32) (c2 : Nat → Int32) (c3 : Nat → Int32) (c4 : Nat → Int32) (obi : Nat → Int32) (sc : Nat → Int32) (a1 : Int32) (t_2 : r_k_X9_listActive) (rec_7 : Int32 → r_k_X9_hasSmallerByAll) (v2_7 : Int32) : r_k_X9_hasSmallerByAll :=
  if a1 ≤ v2_7 then
    (0, t_2.1, t_2.2)
  else
    if (v2_7 &&& (a1 ^^^ (-1))) = 0 then
      lE (m_k_X9_doesFor pp rn rf t_2.1 ch cg fb c1 c2 c3 c4 t_2.2 obi sc v2_7 a1) (fun t_23 =>
        if t_23 = 0 then
          m_k_X9_hasSmallerByAll_31 rec_7 v2_7
        else
          (1, t_2.1, t_2.2))
    else
      m_k_X9_hasSmallerByAll_31 rec_7 v2_7
def m_k_X9_hasSmallerByAll_7 (pp : pT) (rn : Int32) (rf : Nat → Option Nat) (ch : Int32) (cg : Int32) (fb : Int32) (c1 : Nat → Int32) (c2 : Nat → Int32) (c3 : Nat → Int32) (c4 : Nat → Int32) (obi : Nat → Int32) (sc : Nat → Int32) (a1 : Int32) (t_2 : r_k_X9_listActive) : Nat → Int32 → r_k_X9_hasSmallerByAll
  | 0, _ => (0, 0, (fun _ => 0))
  | n + 1, v2_7 => m_k_X9_hasSmallerByAll_7s pp rn rf ch cg fb c1 c2 c3 c4 obi sc a1 t_2 (fun v2_7 => m_k_X9_hasSmallerByAll_7 pp rn rf ch cg fb c1 c2 c3 c4 obi sc a1 t_2 n v2_7) v2_7
theorem m_k_X9_hasSmallerByAll_7_succ (pp : pT) (rn : Int32) (rf : Nat → Option Nat) (ch : Int32) (cg : Int32) (fb : Int32) (c1 : Nat → Int32) (c2 : Nat → Int32) (c3 : Nat → Int32) (c4 : Nat → Int32) (obi : Nat → Int32) (sc : Nat → Int32) (a1 : Int32) (t_2 : r_k_X9_listActive) (n : Nat) (v2_7 : Int32) : m_k_X9_hasSmallerByAll_7 pp rn rf ch cg fb c1 c2 c3 c4 obi sc a1 t_2 (n + 1) v2_7 = m_k_X9_hasSmallerByAll_7s pp rn rf ch cg fb c1 c2 c3 c4 obi sc a1 t_2 (m_k_X9_hasSmallerByAll_7 pp rn rf ch cg fb c1 c2 c3 c4 obi sc a1 t_2 n) v2_7 := rfl
def m_k_X9_hasSmallerByAll (pp : pT) (rn : Int32) (rf : Nat → Option Nat) (ch : Int32) (cg : Int32) (fb : Int32) (cn : Int32) (c1 : Nat → Int32) (c2 : Nat → Int32) (c3 : Nat → Int32) (c4 : Nat → Int32) (ac : Nat → Int32) (obi : Nat → Int32) (sc : Nat → Int32) (a1 : Int32) : r_k_X9_hasSmallerByAll :=
  lE (m_k_X9_listActive pp rn rf cg cn c1 c2 c3 c4 ac obi sc a1) (fun t_2 =>
    m_k_X9_hasSmallerByAll_7 pp rn rf ch cg fb c1 c2 c3 c4 obi sc a1 t_2 wF 0)
def vs_k_X9_hasSmallerByAll : List Cond := .code yX9_hasSmallerByAll cX9_hasSmallerByAll 3 (some .boolean) :: ([.methodLink RX9 266 yX9_listActive, .instanceMethod yX9_listActive, .selects RX9 yX9_listActive yX9_listActive, .initialized RX9, .methodLink RX9 290 yX9_doesFor, .instanceMethod yX9_doesFor, .selects RX9 yX9_doesFor yX9_doesFor] ++ (vs_k_X9_listActive ++ (vs_k_X9_doesFor)))
set_option maxRecDepth 20000 in
theorem gv_k_X9_hasSmallerByAll_0 : GoodIn vs_k_X9_hasSmallerByAll (wsV RX9 266 RX9 yX9_listActive vs_k_X9_listActive) := goodIn_app (goodIn_sub (by decide +kernel) (by decide +kernel)) (goodIn_sub (fun _ h => List.mem_cons_of_mem _ (List.mem_append_right _ (List.mem_append_left _ h))) (by decide +kernel))
set_option maxRecDepth 20000 in
theorem gv_k_X9_hasSmallerByAll_1 : GoodIn vs_k_X9_hasSmallerByAll (wsV RX9 290 RX9 yX9_doesFor vs_k_X9_doesFor) := goodIn_app (goodIn_sub (by decide +kernel) (by decide +kernel)) (goodIn_sub (fun _ h => List.mem_cons_of_mem _ (List.mem_append_right _ (List.mem_append_right _ (h)))) (by decide +kernel))
set_option maxHeartbeats 4000000 in
set_option maxRecDepth 100000 in
theorem k_X9_hasSmallerByAll (l : Launch) (D : va_G) (ty : Nat → ClassId) (td mi sz : Nat) (pp : pT) (X : Nat → Nat) (pn : Int32) (rn : Int32) (tn : Int32) (en : Int32) (rf : Nat → Option Nat) (an : Int32) (ch : Int32) (cg : Int32) (fb : Int32) (mh : Int32) (ml : Int32) (ih : Int32) (lb : Int32) (ic : Int32) (cn : Int32) (c1 : Nat → Int32) (c2 : Nat → Int32) (c3 : Nat → Int32) (c4 : Nat → Int32) (ac : Nat → Int32) (obi : Nat → Int32) (sc : Nat → Int32) (a1 : Int32) (hok : pOK pp) (hru : ∀ (i a : Nat), rf i = some a → a ∈ pRA pp) (TT : r_k_X9_hasSmallerByAll) (hTT : TT = m_k_X9_hasSmallerByAll pp rn rf ch cg fb cn c1 c2 c3 c4 ac obi sc a1) : Met l yX9_hasSmallerByAll vs_k_X9_hasSmallerByAll { frames := 5, cells := 0, slots := 0, locals := 118 } (va_Pc [.ref (X 20), .int a1] (wq_P D ty td mi ((wW_k_X9_hasSmallerByAll ty X pn rn tn en rf an ch cg fb mh ml ih lb ic cn c1 c2 c3 c4 ac obi sc) ++ pw ty pp) sz)) (va_Qi (fun (r : Int32) (u : va_W) => (r = TT.1 ∧ (TT.1 = 0 ∨ TT.1 = 1) ∧ (u = ((wW_k_X9_hasSmallerByAll ty X pn rn tn en rf TT.2.1 ch cg fb mh ml ih lb ic cn c1 c2 c3 c4 TT.2.2 obi sc) ++ pw ty pp)))) (wq_B D (va_A ((wW_k_X9_hasSmallerByAll ty X pn rn tn en rf an ch cg fb mh ml ih lb ic cn c1 c2 c3 c4 ac obi sc) ++ pw ty pp) sz)) (va_A ((wW_k_X9_hasSmallerByAll ty X pn rn tn en rf an ch cg fb mh ml ih lb ic cn c1 c2 c3 c4 ac obi sc) ++ pw ty pp) sz)) 0 0 (va_A ((wW_k_X9_hasSmallerByAll ty X pn rn tn en rf an ch cg fb mh ml ih lb ic cn c1 c2 c3 c4 ac obi sc) ++ pw ty pp) sz) := by
  refine Met.ofW (cc := cX9_hasSmallerByAll) (maxL := 3) (ret := (some .boolean)) (by decide) rfl ?_
  intro p e s m args below meth c s₁ B hml hv
  obtain ⟨rfl, hsz, hP, hK, hD0, hE⟩ := hv
  have hx := B.exec
  have hb := B.bytes
  have hr := B.returns
  have hts := atoms_spec (ws := vs_k_X9_hasSmallerByAll) B.pre
  have hown : s.vm.findClass RX9 = some m.cls := findClass_of_methodNamed B.named
  have hlocks := B.notSynchronized
  subst hsz
  have hD := hD0.self (sz := s.heap.size)
  generalize hAe : va_A ((wW_k_X9_hasSmallerByAll ty X pn rn tn en rf an ch cg fb mh ml ih lb ic cn c1 c2 c3 c4 ac obi sc) ++ pw ty pp) s.heap.size = A at hD hE ⊢
  have hA : ∀ q : Nat, s.heap.size ≤ q → A q := fun q h => by rw [← hAe]; exact Or.inr h
  have hS : va_S A s.heap s.heap [] := va_S.rf
  have hP : va_P D vwCl ((wW_k_X9_hasSmallerByAll ty X pn rn tn en rf an ch cg fb mh ml ih lb ic cn c1 c2 c3 c4 ac obi sc) ++ pw ty pp) s.heap := hP
  have hl := lv_entry ([.ref (X 20), .int a1]) (n := 3) (Nat.le_of_ble_eq_true rfl)
  rw [lg_entry_eq]
  generalize (lg_sl ([.ref (X 20), .int a1]) ++ List.replicate (3 - (lg_sl ([.ref (X 20), .int a1])).length) Slot.unset).toArray = ls at hl ⊢
  have hl : lv_has ls 3 [(0, .ref (X 20)), (1, .int a1)] := hl
  have END : ∀ (r : Int32) (e0 : Int32) (e1 : Nat → Int32), TT = (r, e0, e1) → (r = 0 ∨ r = 1) → ∀ (H : Heap) (locs : List Loc), va_P D vwCl ((wW_k_X9_hasSmallerByAll ty X pn rn tn en rf e0 ch cg fb mh ml ih lb ic cn c1 c2 c3 c4 e1 obi sc) ++ pw ty pp) H → va_D A ((wW_k_X9_hasSmallerByAll ty X pn rn tn en rf e0 ch cg fb mh ml ih lb ic cn c1 c2 c3 c4 e1 obi sc) ++ pw ty pp) → va_S A s.heap H locs → ∀ (ls : Array Slot) (pc : Nat), decode cX9_hasSmallerByAll pc = .ok (.ireturn, 1) → W p l e (headSpec vs_k_X9_hasSmallerByAll { frames := 5, cells := 0, slots := 0, locals := 118 }).room s m ([.ref (X 20), .int a1] : List Value).toArray below meth c H locs 0 0 (MQ below (va_Qi (fun (r : Int32) (u : va_W) => (r = TT.1 ∧ (TT.1 = 0 ∨ TT.1 = 1) ∧ (u = ((wW_k_X9_hasSmallerByAll ty X pn rn tn en rf TT.2.1 ch cg fb mh ml ih lb ic cn c1 c2 c3 c4 TT.2.2 obi sc) ++ pw ty pp)))) (wq_B D A) A) ([.ref (X 20), .int a1] : List Value).toArray s 0 0 A) (F0 m pc ls [.int r]) := by
    intro r e0 e1 hT hb01 H locs hP hD hS ls pc hd
    have hM : TT = (r, e0, e1) := hT
    exact W.zret (v := r) hx hb hr (wz_nar hb01) (fun t ht hW => ⟨⟨r, ((wW_k_X9_hasSmallerByAll ty X pn rn tn en rf e0 ch cg fb mh ml ih lb ic cn c1 c2 c3 c4 e1 obi sc) ++ pw ty pp), rfl, ⟨(by rw [hM]), (by rw [hM]; exact hb01), (by rw [hM])⟩, wq_B.of ht hP hD⟩, hS.F ht⟩) hS.2.2 hd
  have hT := hTT
  rw [m_k_X9_hasSmallerByAll] at hT
  refine lv_aload_n hx hb dX9_hasSmallerByAll_0 rfl (lv_at hl 0 rfl) ?_
  refine lv_iload_n hx hb dX9_hasSmallerByAll_1 rfl (lv_at hl 1 rfl) ?_
  obtain ⟨t_2, ht_2⟩ : ∃ t, t = m_k_X9_listActive pp rn rf cg cn c1 c2 c3 c4 ac obi sc a1 := ⟨_, rfl⟩
  rw [lE_eq ht_2] at hT
  refine wq_vPW (wc := (wW_k_X9_listActive ty X pn rn tn en rf an ch cg fb mh ml ih lb ic cn c1 c2 c3 c4 ac obi sc)) (pl := pw ty pp) (ux := (wW_k_X9_listActive ty X pn rn tn en rf t_2.1 ch cg fb mh ml ih lb ic cn c1 c2 c3 c4 t_2.2 obi sc)) (va_runV (As := [.int a1]) (rest := []) ⟨hx, hb, hml, hown, hts⟩ (k_X9_listActive l D ty td mi s.heap.size pp X pn rn tn en rf an ch cg fb mh ml ih lb ic cn c1 c2 c3 c4 ac obi sc a1 hok hru t_2 ht_2) (cwV 1 hts gv_k_X9_hasSmallerByAll_0 rfl rfl rfl (by decide +kernel) ⟨(Nat.le_of_ble_eq_true rfl), (Nat.le_of_ble_eq_true rfl)⟩) (wm_V (wm_preSP hP hD hK hE hS hA [true, true, true, true, true, true, true, true, true, true, true] rfl) (va_recv (q0 := 2) (ci := 11) hK hP rfl rfl)) rfl rfl hl.1 rfl (lv_room (Nat.le_of_ble_eq_true rfl)) dX9_hasSmallerByAll_2 ⟨(Nat.le_of_ble_eq_true rfl), (Nat.le_of_ble_eq_true rfl)⟩) hS hA hP hD [true, true, true, true, true, true, true, true, true, true, true] rfl rfl (fun _ h => h) (fun  H locs hw hP hD hS => ?_)
  have hP : va_P D vwCl ((wW_k_X9_hasSmallerByAll ty X pn rn tn en rf t_2.1 ch cg fb mh ml ih lb ic cn c1 c2 c3 c4 t_2.2 obi sc) ++ pw ty pp) H := hP
  have hD : va_D A ((wW_k_X9_hasSmallerByAll ty X pn rn tn en rf t_2.1 ch cg fb mh ml ih lb ic cn c1 c2 c3 c4 t_2.2 obi sc) ++ pw ty pp) := hD
  refine W.widen (k := 0) (n := 0) (Nat.le_of_ble_eq_true rfl) (Nat.le_of_ble_eq_true rfl) ?_
  refine lv_iconst (v := 0) hx hb dX9_hasSmallerByAll_5 (by decide) ?_
  refine lv_istore_n (lv' := [(2, .int 0), (0, .ref (X 20)), (1, .int a1)]) hx hb dX9_hasSmallerByAll_6 rfl hl (by decide) rfl (fun ls hl => ?_)
  have L_7 : ∀ (n_7 : Nat) (v2_7 : Int32), (2147483648 - v2_7.toInt).toNat < n_7 → TT = m_k_X9_hasSmallerByAll_7 pp rn rf ch cg fb c1 c2 c3 c4 obi sc a1 t_2 n_7 v2_7 → 0 ≤ v2_7.toInt → ∀ (H : Heap) (locs : List Loc), va_P D vwCl ((wW_k_X9_hasSmallerByAll ty X pn rn tn en rf t_2.1 ch cg fb mh ml ih lb ic cn c1 c2 c3 c4 t_2.2 obi sc) ++ pw ty pp) H → va_D A ((wW_k_X9_hasSmallerByAll ty X pn rn tn en rf t_2.1 ch cg fb mh ml ih lb ic cn c1 c2 c3 c4 t_2.2 obi sc) ++ pw ty pp) → va_S A s.heap H locs → ∀ ls : Array Slot, lv_has ls 3 [(0, .ref (X 20)), (1, .int a1), (2, .int v2_7)] → W p l e (headSpec vs_k_X9_hasSmallerByAll { frames := 5, cells := 0, slots := 0, locals := 118 }).room s m ([.ref (X 20), .int a1] : List Value).toArray below meth c H locs 0 0 (MQ below (va_Qi (fun (r : Int32) (u : va_W) => (r = TT.1 ∧ (TT.1 = 0 ∨ TT.1 = 1) ∧ (u = ((wW_k_X9_hasSmallerByAll ty X pn rn tn en rf TT.2.1 ch cg fb mh ml ih lb ic cn c1 c2 c3 c4 TT.2.2 obi sc) ++ pw ty pp)))) (wq_B D A) A) ([.ref (X 20), .int a1] : List Value).toArray s 0 0 A) (F0 m 7 ls []) := by
    intro n_7
    induction n_7 with
    | zero => intro v2_7 hu; exact absurd hu (Nat.not_lt_zero _)
    | succ n_7 ih_7 =>
      intro v2_7 hu_7 hT hn_7 H locs hP hD hS ls hl
      rw [m_k_X9_hasSmallerByAll_7_succ, m_k_X9_hasSmallerByAll_7s] at hT
      refine lv_iload_n hx hb dX9_hasSmallerByAll_7 rfl (lv_at hl 2 rfl) ?_
      refine lv_iload_n hx hb dX9_hasSmallerByAll_8 rfl (lv_at hl 1 rfl) ?_
      refine lv_icmp_ge (tgt := 37) hx hb dX9_hasSmallerByAll_9 (by decide) (fun c_3 => ?_) (fun c_3 => ?_)
      · rw [if_pos c_3] at hT
        refine lv_iconst (v := 0) hx hb dX9_hasSmallerByAll_37 (by decide) ?_
        exact END 0 t_2.1 t_2.2 hT (by decide) _ _ hP hD hS _ _ dX9_hasSmallerByAll_38
      · rw [if_neg c_3] at hT
        refine lv_iload_n hx hb dX9_hasSmallerByAll_12 rfl (lv_at hl 2 rfl) ?_
        refine lv_iload_n hx hb dX9_hasSmallerByAll_13 rfl (lv_at hl 1 rfl) ?_
        refine lv_iconst (v := (-1)) hx hb dX9_hasSmallerByAll_14 (by decide) ?_
        refine lv_ixor hx hb dX9_hasSmallerByAll_15 ?_
        refine lv_iand hx hb dX9_hasSmallerByAll_16 ?_
        have J_31 : ∀ (_ : Unit), TT = m_k_X9_hasSmallerByAll_31 (m_k_X9_hasSmallerByAll_7 pp rn rf ch cg fb c1 c2 c3 c4 obi sc a1 t_2 n_7) v2_7 → ∀ (H : Heap) (locs : List Loc), va_P D vwCl ((wW_k_X9_hasSmallerByAll ty X pn rn tn en rf t_2.1 ch cg fb mh ml ih lb ic cn c1 c2 c3 c4 t_2.2 obi sc) ++ pw ty pp) H → va_D A ((wW_k_X9_hasSmallerByAll ty X pn rn tn en rf t_2.1 ch cg fb mh ml ih lb ic cn c1 c2 c3 c4 t_2.2 obi sc) ++ pw ty pp) → va_S A s.heap H locs → ∀ ls : Array Slot, lv_has ls 3 [(0, .ref (X 20)), (1, .int a1), (2, .int v2_7)] → W p l e (headSpec vs_k_X9_hasSmallerByAll { frames := 5, cells := 0, slots := 0, locals := 118 }).room s m ([.ref (X 20), .int a1] : List Value).toArray below meth c H locs 0 0 (MQ below (va_Qi (fun (r : Int32) (u : va_W) => (r = TT.1 ∧ (TT.1 = 0 ∨ TT.1 = 1) ∧ (u = ((wW_k_X9_hasSmallerByAll ty X pn rn tn en rf TT.2.1 ch cg fb mh ml ih lb ic cn c1 c2 c3 c4 TT.2.2 obi sc) ++ pw ty pp)))) (wq_B D A) A) ([.ref (X 20), .int a1] : List Value).toArray s 0 0 A) (F0 m 31 ls []) := by
          intro _ hT  H locs hP hD hS ls hl
          rw [m_k_X9_hasSmallerByAll_31] at hT
          refine lv_iinc (v := v2_7 + 1) (lv' := [(2, .int (v2_7 + 1)), (0, .ref (X 20)), (1, .int a1)]) hx hb dX9_hasSmallerByAll_31 hl (k := 2) rfl (by rfl) (by decide) rfl (fun ls hl => ?_)
          refine lv_goto (tgt := 7) hx hb dX9_hasSmallerByAll_34 (by decide) ?_
          exact ih_7 (v2_7 + 1) (wi_up hu_7 (Int32.not_le.mp c_3)) hT (wi_inc hn_7 (Int32.not_le.mp c_3)) _ _ hP hD hS _ (lv_sub hl [1, 2, 0] rfl)
        refine lv_if_ne (tgt := 31) hx hb dX9_hasSmallerByAll_17 (by decide) (fun c_4 => ?_) (fun c_4 => ?_)
        · rw [if_neg c_4] at hT
          exact J_31 () hT _ _ hP hD hS _ (lv_sub hl [0, 1, 2] rfl)
        · rw [if_pos c_4] at hT
          refine lv_aload_n hx hb dX9_hasSmallerByAll_20 rfl (lv_at hl 0 rfl) ?_
          refine lv_iload_n hx hb dX9_hasSmallerByAll_21 rfl (lv_at hl 2 rfl) ?_
          refine lv_iload_n hx hb dX9_hasSmallerByAll_22 rfl (lv_at hl 1 rfl) ?_
          obtain ⟨t_23, ht_23⟩ : ∃ t, t = m_k_X9_doesFor pp rn rf t_2.1 ch cg fb c1 c2 c3 c4 t_2.2 obi sc v2_7 a1 := ⟨_, rfl⟩
          rw [lE_eq ht_23] at hT
          refine wq_iPW (wc := (wW_k_X9_doesFor ty X pn rn tn en rf t_2.1 ch cg fb mh ml ih lb ic cn c1 c2 c3 c4 t_2.2 obi sc)) (pl := pw ty pp) (ux := (wW_k_X9_doesFor ty X pn rn tn en rf t_2.1 ch cg fb mh ml ih lb ic cn c1 c2 c3 c4 t_2.2 obi sc)) (va_runV (As := [.int v2_7, .int a1]) (rest := []) ⟨hx, hb, hml, hown, hts⟩ (k_X9_doesFor l D ty td mi H.size pp X pn rn tn en rf t_2.1 ch cg fb mh ml ih lb ic cn c1 c2 c3 c4 t_2.2 obi sc v2_7 a1 hok hru t_23 ht_23) (cwV 2 hts gv_k_X9_hasSmallerByAll_1 rfl rfl rfl (by decide +kernel) ⟨(Nat.le_of_ble_eq_true rfl), (Nat.le_of_ble_eq_true rfl)⟩) (wm_V (wm_preSP hP hD hK hE hS hA [true, true, true, true, true, true, true, true, true, true, true] rfl) (va_recv (q0 := 2) (ci := 11) hK hP rfl rfl)) rfl rfl hl.1 rfl (lv_room (Nat.le_of_ble_eq_true rfl)) dX9_hasSmallerByAll_23 ⟨(Nat.le_of_ble_eq_true rfl), (Nat.le_of_ble_eq_true rfl)⟩) hS hA hP hD [true, true, true, true, true, true, true, true, true, true, true] rfl rfl (fun _ _ h => h.2.2) (fun r H locs hw hP hD hS => ?_)
          obtain ⟨hr0, c_7, -⟩ := hw
          subst r
          have hP : va_P D vwCl ((wW_k_X9_hasSmallerByAll ty X pn rn tn en rf t_2.1 ch cg fb mh ml ih lb ic cn c1 c2 c3 c4 t_2.2 obi sc) ++ pw ty pp) H := hP
          have hD : va_D A ((wW_k_X9_hasSmallerByAll ty X pn rn tn en rf t_2.1 ch cg fb mh ml ih lb ic cn c1 c2 c3 c4 t_2.2 obi sc) ++ pw ty pp) := hD
          refine W.widen (k := 0) (n := 0) (Nat.le_of_ble_eq_true rfl) (Nat.le_of_ble_eq_true rfl) ?_
          refine lv_if_eq (tgt := 31) hx hb dX9_hasSmallerByAll_26 (by decide) (fun c_8 => ?_) (fun c_8 => ?_)
          · rw [if_pos c_8] at hT
            exact J_31 () hT _ _ hP hD hS _ (lv_sub hl [0, 1, 2] rfl)
          · rw [if_neg c_8] at hT
            refine lv_iconst (v := 1) hx hb dX9_hasSmallerByAll_29 (by decide) ?_
            exact END 1 t_2.1 t_2.2 hT (by decide) _ _ hP hD hS _ _ dX9_hasSmallerByAll_30
  exact L_7 wF 0 (wF_up 0) hT (by decide) _ _ hP hD hS _ (lv_sub hl [1, 2, 0] rfl)
