def m_k_X9_fitAssumptions_73 (on : Int32) (su : Nat → Int64) (ob : Nat → Int32) (ao : Nat → Int64) (rec_17 : Int32 → Int32 → Int32 → Int32 → r_k_X9_fitAssumptions) (t_39 : r_k_X9_bitOf) (v3_17 : Int32) (x20_12_17 : Int32) (x20_13_17 : Int32) (s0_73 : Int32) : r_k_X9_fitAssumptions :=
  m_k_X9_fitAssumptions_76 on su ob ao rec_17 v3_17 x20_13_17 (x20_12_17 ||| t_39) s0_73
def m_k_X9_fitAssumptions_68 (on : Int32) (su : Nat → Int64) (ob : Nat → Int32) (ao : Nat → Int64) (rec_17 : Int32 → Int32 → Int32 → Int32 → r_k_X9_fitAssumptions) (t_39 : r_k_X9_bitOf) (v3_17 : Int32) (x20_12_17 : Int32) (x20_13_17 : Int32) : r_k_X9_fitAssumptions :=
  m_k_X9_fitAssumptions_73 on su ob ao rec_17 t_39 v3_17 x20_12_17 x20_13_17 1
def m_k_X9_fitAssumptions_17s (on : Int32) (su : Nat → Int64) (po : Nat → Int64) (ob : Nat → Int32) (ai : Nat → Int64) (ao : Nat → Int64) (rec_17 : Int32 → Int32 → Int32 → Int32 → r_k_X9_fitAssumptions) (v3_17 : Int32) (x20_12_17 : Int32) (x20_13_17 : Int32) (x20_14_17 : Int32) : r_k_X9_fitAssumptions :=
  if 384 ≤ v3_17 then
    (x20_12_17, x20_13_17, x20_14_17)
  else
    lE (m_k_X1_contains ai v3_17) (fun t_26 =>
      if t_26 = 0 then
        m_k_X9_fitAssumptions_76 on su ob ao rec_17 v3_17 x20_13_17 x20_12_17 x20_14_17
      else
        lE (m_k_X9_bitOf on ob v3_17) (fun t_39 =>
          if x20_14_17 = 0 then
            lE (m_k_X1_contains po v3_17) (fun t_62 =>
              if t_62 = 0 then
                m_k_X9_fitAssumptions_68 on su ob ao rec_17 t_39 v3_17 x20_12_17 x20_13_17
              else
                m_k_X9_fitAssumptions_73 on su ob ao rec_17 t_39 v3_17 x20_12_17 x20_13_17 0)
          else
            m_k_X9_fitAssumptions_68 on su ob ao rec_17 t_39 v3_17 x20_12_17 x20_13_17))
def m_k_X9_fitAssumptions_17 (on : Int32) (su : Nat → Int64) (po : Nat → Int64) (ob : Nat → Int32) (ai : Nat → Int64) (ao : Nat → Int64) : Nat → Int32 → Int32 → Int32 → Int32 → r_k_X9_fitAssumptions
  | 0, _, _, _, _ => (0, 0, 0)
  | n + 1, v3_17, x20_12_17, x20_13_17, x20_14_17 => m_k_X9_fitAssumptions_17s on su po ob ai ao (fun v3_17 x20_12_17 x20_13_17 x20_14_17 => m_k_X9_fitAssumptions_17 on su po ob ai ao n v3_17 x20_12_17 x20_13_17 x20_14_17) v3_17 x20_12_17 x20_13_17 x20_14_17
theorem m_k_X9_fitAssumptions_17_succ (on : Int32) (su : Nat → Int64) (po : Nat → Int64) (ob : Nat → Int32) (ai : Nat → Int64) (ao : Nat → Int64) (n : Nat) (v3_17 : Int32) (x20_12_17 : Int32) (x20_13_17 : Int32) (x20_14_17 : Int32) : m_k_X9_fitAssumptions_17 on su po ob ai ao (n + 1) v3_17 x20_12_17 x20_13_17 x20_14_17 = m_k_X9_fitAssumptions_17s on su po ob ai ao (m_k_X9_fitAssumptions_17 on su po ob ai ao n) v3_17 x20_12_17 x20_13_17 x20_14_17 := rfl
def m_k_X9_fitAssumptions (on : Int32) (su : Nat → Int64) (po : Nat → Int64) (ob : Nat → Int32) (ai : Nat → Int64) (ao : Nat → Int64) : r_k_X9_fitAssumptions :=
  m_k_X9_fitAssumptions_17 on su po ob ai ao wF 0 0 0 0
abbrev r_k_X9_prepare : Type := (Nat → Int32) × Int32 × Int32 × Int32 × Int32 × Int32 × Int32 × Int32 × Int32 × Int32 × (Nat → Int32) × (Nat → Int32) × (Nat → Int32) × (Nat → Int32) × (Nat → Int32) × (Nat → Int32) × Int32 × (Nat → Int32) × (Nat → Int32) × (Nat → Int32) × (Nat → Int32) × (Nat → Int32) × (Nat → Int32) × (Nat → Int32) × (Nat → Int32) × Int32 × Int32 × Int32 × Int32 × Int32
def m_k_X9_prepare_16 (on : Int32) (su : Nat → Int64) (po : Nat → Int64) (ob : Nat → Int32) (ai : Nat → Int64) (ao : Nat → Int64) (x14_f_16 : Nat → Int32) (x20_10_16 : Int32) (x20_11_16 : Int32) (x20_15_16 : Int32) (x20_16_16 : Int32) (x20_9_16 : Int32) (x21_6_16 : Int32) (x22_f_16 : Nat → Int32) (x23_f_16 : Nat → Int32) (x24_f_16 : Nat → Int32) (x25_f_16 : Nat → Int32) (x26_f_16 : Nat → Int32) (x27_f_16 : Nat → Int32) (x28_6_16 : Int32) (x29_f_16 : Nat → Int32) (x30_f_16 : Nat → Int32) (x31_f_16 : Nat → Int32) (x32_f_16 : Nat → Int32) (x33_f_16 : Nat → Int32) (x34_f_16 : Nat → Int32) (x36_f_16 : Nat → Int32) (x37_f_16 : Nat → Int32) (x8_5_16 : Int32) (x9_0_16 : Int32) (x9_1_16 : Int32) (x9_2_16 : Int32) (x9_3_16 : Int32) : r_k_X9_prepare :=
  lE (m_k_X9_fitAssumptions on su po ob ai ao) (fun t_19 =>
    (x14_f_16, x20_10_16, x20_11_16, t_19.1, t_19.2.1, t_19.2.2, x20_15_16, x20_16_16, x20_9_16, x21_6_16, x22_f_16, x23_f_16, x24_f_16, x25_f_16, x26_f_16, x27_f_16, x28_6_16, x29_f_16, x30_f_16, x31_f_16, x32_f_16, x33_f_16, x34_f_16, x36_f_16, x37_f_16, x8_5_16, x9_0_16, x9_1_16, x9_2_16, x9_3_16))
def m_k_X9_prepare (pp : pT) (rn : Int32) (en : Int32) (rf : Nat → Option Nat) (ea : Nat → Int32) (es : Nat → Int32) (hn : Int32) (kn : Int32) (on : Int32) (b_1 : Int32) (b_2 : Int32) (b_3 : Int32) (b_p : Int32) (su : Nat → Int64) (po : Nat → Int64) (hds : Nat → Int32) (kr : Nat → Int32) (kv : Nat → Int32) (oa : Nat → Int32) (ob : Nat → Int32) (ch : Int32) (cg : Int32) (fb : Int32) (lb : Int32) (ic : Int32) (cn : Int32) (c1 : Nat → Int32) (c2 : Nat → Int32) (c3 : Nat → Int32) (c4 : Nat → Int32) (c5 : Nat → Int32) (c6 : Nat → Int32) (wn : Int32) (w1 : Nat → Int32) (w2 : Nat → Int32) (w3 : Nat → Int32) (w4 : Nat → Int32) (w5 : Nat → Int32) (w6 : Nat → Int32) (obi : Nat → Int32) (sc : Nat → Int32) (ai : Nat → Int64) (ao : Nat → Int64) : r_k_X9_prepare :=
  if ic = 0 then
    lE (m_k_X9_compile pp rn en rf ea es hn kn on b_1 b_2 b_3 b_p su hds kr kv oa ob c1 c2 c3 c4 c5 c6 w1 w2 w3 w4 w5 w6 obi sc) (fun t_8 =>
      m_k_X9_prepare_16 on su po ob ai ao t_8.1 t_8.2.1 t_8.2.2.1 t_8.2.2.2.1 1 t_8.2.2.2.2.1 t_8.2.2.2.2.2.1 t_8.2.2.2.2.2.2.1 t_8.2.2.2.2.2.2.2.1 t_8.2.2.2.2.2.2.2.2.1 t_8.2.2.2.2.2.2.2.2.2.1 t_8.2.2.2.2.2.2.2.2.2.2.1 t_8.2.2.2.2.2.2.2.2.2.2.2.1 t_8.2.2.2.2.2.2.2.2.2.2.2.2.1 t_8.2.2.2.2.2.2.2.2.2.2.2.2.2.1 t_8.2.2.2.2.2.2.2.2.2.2.2.2.2.2.1 t_8.2.2.2.2.2.2.2.2.2.2.2.2.2.2.2.1 t_8.2.2.2.2.2.2.2.2.2.2.2.2.2.2.2.2.1 t_8.2.2.2.2.2.2.2.2.2.2.2.2.2.2.2.2.2.1 t_8.2.2.2.2.2.2.2.2.2.2.2.2.2.2.2.2.2.2.1 t_8.2.2.2.2.2.2.2.2.2.2.2.2.2.2.2.2.2.2.2.1 t_8.2.2.2.2.2.2.2.2.2.2.2.2.2.2.2.2.2.2.2.2.1 t_8.2.2.2.2.2.2.2.2.2.2.2.2.2.2.2.2.2.2.2.2.2.1 t_8.2.2.2.2.2.2.2.2.2.2.2.2.2.2.2.2.2.2.2.2.2.2.1 t_8.2.2.2.2.2.2.2.2.2.2.2.2.2.2.2.2.2.2.2.2.2.2.2.1 t_8.2.2.2.2.2.2.2.2.2.2.2.2.2.2.2.2.2.2.2.2.2.2.2.2.1 t_8.2.2.2.2.2.2.2.2.2.2.2.2.2.2.2.2.2.2.2.2.2.2.2.2.2)
  else
    m_k_X9_prepare_16 on su po ob ai ao hds cg fb lb ic ch cn c1 c2 c3 c4 c5 c6 wn w1 w2 w3 w4 w5 w6 obi sc hn b_1 b_2 b_3 b_p
abbrev r_k_X9_conditionHolds : Type := Int32
def m_k_X9_conditionHolds (pp : pT) (on : Int32) (b_1 : Int32) (b_2 : Int32) (b_3 : Int32) (b_p : Int32) (su : Nat → Int64) (ob : Nat → Int32) (obi : Nat → Int32) (sc : Nat → Int32) (a0 : Nat) (a1 : Int32) : r_k_X9_conditionHolds :=
  lE (m_k_X4_isCount pp a0) (fun t_1 =>
    if t_1 = 0 then
      if (pI pp a0 0) = 116 then
        lE (m_k_X2_atomOf pp b_1 b_2 b_3 b_p a0) (fun t_33 =>
          lE (m_k_X9_isIn on su ob a1 t_33) (fun t_36 =>
            t_36))
      else
        if (pI pp a0 0) = 102 then
          lE (m_k_X2_atomOf pp b_1 b_2 b_3 b_p a0) (fun t_59 =>
            lE (m_k_X9_isIn on su ob a1 t_59) (fun t_62 =>
              if t_62 = 0 then
                1
              else
                0))
        else
          lE (m_k_X2_testHolds pp b_1 b_2 b_3 b_p a0) (fun t_82 =>
            t_82)
    else
      lE (m_k_X9_countHolds pp obi sc a0 a1) (fun t_10 =>
        t_10))
abbrev r_k_X9_bodyHolds : Type := Int32
def m_k_X9_bodyHolds_34 (rec_2 : Int32 → r_k_X9_bodyHolds) (v3_2 : Int32) : r_k_X9_bodyHolds :=
  rec_2 (v3_2 + 1)
def m_k_X9_bodyHolds_2s (pp : pT) (on : Int32) (b_1 : Int32) (b_2 : Int32) (b_3 : Int32) (b_p : Int32) (su : Nat → Int64) (ob : Nat → Int32) (obi : Nat → Int32) (sc : Nat → Int32) (a0 : Nat) (a1 : Int32) (rec_2 : Int32 → r_k_X9_bodyHolds) (v3_2 : Int32) : r_k_X9_bodyHolds :=
  if (pI pp a0 10) ≤ v3_2 then
    1
  else
    lE (m_k_X8_conditionAt pp a0 v3_2) (fun t_12 =>
      oE (t_12) (
        m_k_X9_bodyHolds_34 rec_2 v3_2) (fun o_12 =>
        lE (m_k_X9_conditionHolds pp on b_1 b_2 b_3 b_p su ob obi sc o_12 a1) (fun t_26 =>
          if t_26 = 0 then
            0
          else
            m_k_X9_bodyHolds_34 rec_2 v3_2)))
def m_k_X9_bodyHolds_2 (pp : pT) (on : Int32) (b_1 : Int32) (b_2 : Int32) (b_3 : Int32) (b_p : Int32) (su : Nat → Int64) (ob : Nat → Int32) (obi : Nat → Int32) (sc : Nat → Int32) (a0 : Nat) (a1 : Int32) : Nat → Int32 → r_k_X9_bodyHolds
  | 0, _ => (0)
  | n + 1, v3_2 => m_k_X9_bodyHolds_2s pp on b_1 b_2 b_3 b_p su ob obi sc a0 a1 (fun v3_2 => m_k_X9_bodyHolds_2 pp on b_1 b_2 b_3 b_p su ob obi sc a0 a1 n v3_2) v3_2
theorem m_k_X9_bodyHolds_2_succ (pp : pT) (on : Int32) (b_1 : Int32) (b_2 : Int32) (b_3 : Int32) (b_p : Int32) (su : Nat → Int64) (ob : Nat → Int32) (obi : Nat → Int32) (sc : Nat → Int32) (a0 : Nat) (a1 : Int32) (n : Nat) (v3_2 : Int32) : m_k_X9_bodyHolds_2 pp on b_1 b_2 b_3 b_p su ob obi sc a0 a1 (n + 1) v3_2 = m_k_X9_bodyHolds_2s pp on b_1 b_2 b_3 b_p su ob obi sc a0 a1 (m_k_X9_bodyHolds_2 pp on b_1 b_2 b_3 b_p su ob obi sc a0 a1 n) v3_2 := rfl
def m_k_X9_bodyHolds (pp : pT) (on : Int32) (b_1 : Int32) (b_2 : Int32) (b_3 : Int32) (b_p : Int32) (su : Nat → Int64) (ob : Nat → Int32) (obi : Nat → Int32) (sc : Nat → Int32) (a0 : Nat) (a1 : Int32) : r_k_X9_bodyHolds :=
  m_k_X9_bodyHolds_2 pp on b_1 b_2 b_3 b_p su ob obi sc a0 a1 wF 0
abbrev r_k_X9_gives : Type := Int32 × (Nat → Int32) × Int32 × Int32
def m_k_X9_gives_66 (rec_18 : Int32 → Int32 → Int32 → r_k_X9_gives) (v6_18 : Int32) (v4_66 : Int32) (v5_66 : Int32) : r_k_X9_gives :=
  rec_18 v4_66 v5_66 (v6_18 + 1)
def m_k_X9_gives_91 (t_5 : r_k_X3_listHeads) : r_k_X9_gives :=
  (1, t_5.2.1, t_5.2.2.1, t_5.2.2.2)
def m_k_X9_gives_18s (pp : pT) (on : Int32) (su : Nat → Int64) (ob : Nat → Int32) (a0 : Nat) (a1 : Int32) (a2 : Int32) (t_5 : r_k_X3_listHeads) (rec_18 : Int32 → Int32 → Int32 → r_k_X9_gives) (v4_18 : Int32) (v5_18 : Int32) (v6_18 : Int32) : r_k_X9_gives :=
  if t_5.2.2.1 ≤ v6_18 then
    if v4_18 = 0 then
      (0, t_5.2.1, t_5.2.2.1, t_5.2.2.2)
    else
      if (pI pp a0 0) = 99 then
        m_k_X9_gives_91 t_5
      else
        if v5_18 = 0 then
          (0, t_5.2.1, t_5.2.2.1, t_5.2.2.2)
        else
          m_k_X9_gives_91 t_5
  else
    lE (m_k_X3_headAtomAt t_5.2.1 v6_18) (fun t_36 =>
      if t_36 = a2 then
        m_k_X9_gives_66 rec_18 v6_18 1 v5_18
      else
        lE (m_k_X9_isIn on su ob a1 t_36) (fun t_57 =>
          if t_57 = 0 then
            m_k_X9_gives_66 rec_18 v6_18 v4_18 v5_18
          else
            m_k_X9_gives_66 rec_18 v6_18 v4_18 0))
def m_k_X9_gives_18 (pp : pT) (on : Int32) (su : Nat → Int64) (ob : Nat → Int32) (a0 : Nat) (a1 : Int32) (a2 : Int32) (t_5 : r_k_X3_listHeads) : Nat → Int32 → Int32 → Int32 → r_k_X9_gives
  | 0, _, _, _ => (0, (fun _ => 0), 0, 0)
  | n + 1, v4_18, v5_18, v6_18 => m_k_X9_gives_18s pp on su ob a0 a1 a2 t_5 (fun v4_18 v5_18 v6_18 => m_k_X9_gives_18 pp on su ob a0 a1 a2 t_5 n v4_18 v5_18 v6_18) v4_18 v5_18 v6_18
theorem m_k_X9_gives_18_succ (pp : pT) (on : Int32) (su : Nat → Int64) (ob : Nat → Int32) (a0 : Nat) (a1 : Int32) (a2 : Int32) (t_5 : r_k_X3_listHeads) (n : Nat) (v4_18 : Int32) (v5_18 : Int32) (v6_18 : Int32) : m_k_X9_gives_18 pp on su ob a0 a1 a2 t_5 (n + 1) v4_18 v5_18 v6_18 = m_k_X9_gives_18s pp on su ob a0 a1 a2 t_5 (m_k_X9_gives_18 pp on su ob a0 a1 a2 t_5 n) v4_18 v5_18 v6_18 := rfl
def m_k_X9_gives (pp : pT) (on : Int32) (b_1 : Int32) (b_2 : Int32) (b_3 : Int32) (b_p : Int32) (su : Nat → Int64) (hds : Nat → Int32) (ob : Nat → Int32) (a0 : Nat) (a1 : Int32) (a2 : Int32) : r_k_X9_gives :=
  lE (m_k_X3_listHeads pp b_1 b_2 b_3 b_p su hds a0) (fun t_5 =>
    m_k_X9_gives_18 pp on su ob a0 a1 a2 t_5 wF 0 1 0)
abbrev r_k_X9_reasonFor : Type := Int32 × (Nat → Int32) × Int32 × Int32 × Int32 × Int32 × Int32
def m_k_X9_reasonFor_75 (rec_2 : Int32 → (Nat → Int32) → Int32 → Int32 → Int32 → Int32 → Int32 → r_k_X9_reasonFor) (t_25 : r_k_X3_bindKept) (v3_2 : Int32) (x14_f_75 : Nat → Int32) (x8_5_75 : Int32) (x9_2_75 : Int32) : r_k_X9_reasonFor :=
  rec_2 (v3_2 + 1) x14_f_75 x8_5_75 t_25.2.1 t_25.2.2.1 x9_2_75 t_25.2.2.2.2
def m_k_X9_reasonFor_114 (t_86 : r_k_X6_externalOf) (x14_f_2 : Nat → Int32) (x8_5_2 : Int32) (x9_0_2 : Int32) (x9_1_2 : Int32) (x9_2_2 : Int32) (x9_3_2 : Int32) : r_k_X9_reasonFor :=
  ((100 + t_86), x14_f_2, x8_5_2, x9_0_2, x9_1_2, x9_2_2, x9_3_2)
def m_k_X9_reasonFor_81 (en : Int32) (ea : Nat → Int32) (es : Nat → Int32) (a2 : Int32) (x14_f_2 : Nat → Int32) (x8_5_2 : Int32) (x9_0_2 : Int32) (x9_1_2 : Int32) (x9_2_2 : Int32) (x9_3_2 : Int32) : r_k_X9_reasonFor :=
  lE (m_k_X6_externalOf en ea a2) (fun t_86 =>
    lE (m_k_X6_externalState en es t_86) (fun t_95 =>
      if t_95 = 116 then
        m_k_X9_reasonFor_114 t_86 x14_f_2 x8_5_2 x9_0_2 x9_1_2 x9_2_2 x9_3_2
      else
        if t_95 = 117 then
          m_k_X9_reasonFor_114 t_86 x14_f_2 x8_5_2 x9_0_2 x9_1_2 x9_2_2 x9_3_2
        else
          ((-1), x14_f_2, x8_5_2, x9_0_2, x9_1_2, x9_2_2, x9_3_2)))
def m_k_X9_reasonFor_2s (pp : pT) (rn : Int32) (en : Int32) (rf : Nat → Option Nat) (ea : Nat → Int32) (es : Nat → Int32) (kn : Int32) (on : Int32) (su : Nat → Int64) (kr : Nat → Int32) (kv : Nat → Int32) (ob : Nat → Int32) (obi : Nat → Int32) (sc : Nat → Int32) (a1 : Int32) (a2 : Int32) (rec_2 : Int32 → (Nat → Int32) → Int32 → Int32 → Int32 → Int32 → Int32 → r_k_X9_reasonFor) (v3_2 : Int32) (x14_f_2 : Nat → Int32) (x8_5_2 : Int32) (x9_0_2 : Int32) (x9_1_2 : Int32) (x9_2_2 : Int32) (x9_3_2 : Int32) : r_k_X9_reasonFor :=
  if kn ≤ v3_2 then
    m_k_X9_reasonFor_81 en ea es a2 x14_f_2 x8_5_2 x9_0_2 x9_1_2 x9_2_2 x9_3_2
  else
    if 300 ≤ v3_2 then
      m_k_X9_reasonFor_81 en ea es a2 x14_f_2 x8_5_2 x9_0_2 x9_1_2 x9_2_2 x9_3_2
    else
      lE (m_k_X3_bindKept rn rf x9_0_2 x9_1_2 x9_2_2 x9_3_2 kr kv v3_2) (fun t_25 =>
        oE (t_25.1) (
          m_k_X9_reasonFor_75 rec_2 t_25 v3_2 x14_f_2 x8_5_2 t_25.2.2.2.1) (fun o_25 =>
          if (pI pp o_25 0) = 119 then
            m_k_X9_reasonFor_75 rec_2 t_25 v3_2 x14_f_2 x8_5_2 t_25.2.2.2.1
          else
            lE (m_k_X9_bodyHolds pp on t_25.2.1 t_25.2.2.1 t_25.2.2.2.1 t_25.2.2.2.2 su ob obi sc o_25 a1) (fun t_49 =>
              if t_49 = 0 then
                m_k_X9_reasonFor_75 rec_2 t_25 v3_2 x14_f_2 x8_5_2 t_25.2.2.2.1
              else
                lE (m_k_X9_gives pp on t_25.2.1 t_25.2.2.1 t_25.2.2.2.1 t_25.2.2.2.2 su x14_f_2 ob o_25 a1 a2) (fun t_60 =>
                  if t_60.1 = 0 then
                    m_k_X9_reasonFor_75 rec_2 t_25 v3_2 t_60.2.1 t_60.2.2.1 t_60.2.2.2
                  else
                    lE (m_k_X3_keptRuleAt kr v3_2) (fun t_71 =>
                      (t_71, t_60.2.1, t_60.2.2.1, t_25.2.1, t_25.2.2.1, t_60.2.2.2, t_25.2.2.2.2))))))
def m_k_X9_reasonFor_2 (pp : pT) (rn : Int32) (en : Int32) (rf : Nat → Option Nat) (ea : Nat → Int32) (es : Nat → Int32) (kn : Int32) (on : Int32) (su : Nat → Int64) (kr : Nat → Int32) (kv : Nat → Int32) (ob : Nat → Int32) (obi : Nat → Int32) (sc : Nat → Int32) (a1 : Int32) (a2 : Int32) : Nat → Int32 → (Nat → Int32) → Int32 → Int32 → Int32 → Int32 → Int32 → r_k_X9_reasonFor
  | 0, _, _, _, _, _, _, _ => (0, (fun _ => 0), 0, 0, 0, 0, 0)
  | n + 1, v3_2, x14_f_2, x8_5_2, x9_0_2, x9_1_2, x9_2_2, x9_3_2 => m_k_X9_reasonFor_2s pp rn en rf ea es kn on su kr kv ob obi sc a1 a2 (fun v3_2 x14_f_2 x8_5_2 x9_0_2 x9_1_2 x9_2_2 x9_3_2 => m_k_X9_reasonFor_2 pp rn en rf ea es kn on su kr kv ob obi sc a1 a2 n v3_2 x14_f_2 x8_5_2 x9_0_2 x9_1_2 x9_2_2 x9_3_2) v3_2 x14_f_2 x8_5_2 x9_0_2 x9_1_2 x9_2_2 x9_3_2
theorem m_k_X9_reasonFor_2_succ (pp : pT) (rn : Int32) (en : Int32) (rf : Nat → Option Nat) (ea : Nat → Int32) (es : Nat → Int32) (kn : Int32) (on : Int32) (su : Nat → Int64) (kr : Nat → Int32) (kv : Nat → Int32) (ob : Nat → Int32) (obi : Nat → Int32) (sc : Nat → Int32) (a1 : Int32) (a2 : Int32) (n : Nat) (v3_2 : Int32) (x14_f_2 : Nat → Int32) (x8_5_2 : Int32) (x9_0_2 : Int32) (x9_1_2 : Int32) (x9_2_2 : Int32) (x9_3_2 : Int32) : m_k_X9_reasonFor_2 pp rn en rf ea es kn on su kr kv ob obi sc a1 a2 (n + 1) v3_2 x14_f_2 x8_5_2 x9_0_2 x9_1_2 x9_2_2 x9_3_2 = m_k_X9_reasonFor_2s pp rn en rf ea es kn on su kr kv ob obi sc a1 a2 (m_k_X9_reasonFor_2 pp rn en rf ea es kn on su kr kv ob obi sc a1 a2 n) v3_2 x14_f_2 x8_5_2 x9_0_2 x9_1_2 x9_2_2 x9_3_2 := rfl
def m_k_X9_reasonFor (pp : pT) (rn : Int32) (en : Int32) (rf : Nat → Option Nat) (ea : Nat → Int32) (es : Nat → Int32) (hn : Int32) (kn : Int32) (on : Int32) (b_1 : Int32) (b_2 : Int32) (b_3 : Int32) (b_p : Int32) (su : Nat → Int64) (hds : Nat → Int32) (kr : Nat → Int32) (kv : Nat → Int32) (ob : Nat → Int32) (obi : Nat → Int32) (sc : Nat → Int32) (a1 : Int32) (a2 : Int32) : r_k_X9_reasonFor :=
  m_k_X9_reasonFor_2 pp rn en rf ea es kn on su kr kv ob obi sc a1 a2 wF 0 hds hn b_1 b_2 b_3 b_p
abbrev r_k_X10_forgetGrounding : Type := Int32 × Int32 × Int32
def m_k_X10_forgetGrounding : r_k_X10_forgetGrounding :=
  (0, 0, 0)
abbrev r_k_X10_checkPart : Type := Int32
def m_k_X10_checkPart_9 : r_k_X10_checkPart :=
  2
def m_k_X10_checkPart (a1 : Int32) : r_k_X10_checkPart :=
  if a1 < 0 then
    m_k_X10_checkPart_9
  else
    if a1 ≤ 3 then
      0
    else
      m_k_X10_checkPart_9
abbrev r_k_X10_checkLevel : Type := Int32
def m_k_X10_checkLevel_10 : r_k_X10_checkLevel :=
  2
def m_k_X10_checkLevel (a1 : Int32) : r_k_X10_checkLevel :=
  if a1 < 1 then
    m_k_X10_checkLevel_10
  else
    if a1 ≤ 3 then
      0
    else
      m_k_X10_checkLevel_10
abbrev r_k_X10_checkRoomForRule : Type := Int32
def m_k_X10_checkRoomForRule (rn : Int32) : r_k_X10_checkRoomForRule :=
  if rn < 20 then
    0
  else
    3
abbrev r_k_X10_checkWalk : Type := Int32
def m_k_X10_checkWalk (kp : Int32) : r_k_X10_checkWalk :=
  if kp = 0 then
    3
  else
    0
abbrev r_k_X10_isValue : Type := Int32
def m_k_X10_isValue (a1 : Int32) : r_k_X10_isValue :=
  if a1 < 0 then
    0
  else
    if 8 ≤ a1 then
      0
    else
      1
abbrev r_k_X10_isTerm : Type := Int32
def m_k_X10_isTerm (a1 : Int32) : r_k_X10_isTerm :=
  lE (m_k_X10_isValue a1) (fun t_1 =>
    if t_1 = 0 then
      if a1 = 40 then
        1
      else
        if a1 = 50 then
          1
        else
          if a1 < 10 then
            0
          else
            if 32 < a1 then
              0
            else
              if 2 < (a1 - a1 / 10 * 10) then
                0
              else
                1
    else
      1)
abbrev r_k_X10_checkedAnswer : Type := Int32 × Int32
def m_k_X10_checkedAnswer_19 : r_k_X10_checkedAnswer :=
  (1, 0)
def m_k_X10_checkedAnswer (nn : Int32) (kp : Int32) (se : Nat → Int32) (a1 : Int32) : r_k_X10_checkedAnswer :=
  lE (m_k_X10_checkWalk kp) (fun t_1 =>
    if t_1 = 0 then
      if a1 < 0 then
        m_k_X10_checkedAnswer_19
      else
        if a1 < nn then
          lE (m_k_X0_setAt se a1) (fun t_35 =>
            (0, t_35))
        else
          m_k_X10_checkedAnswer_19
    else
      (3, 0))
abbrev r_k_X10_checkedAtom : Type := Int32 × Int32
def m_k_X10_checkedAtom_57 : r_k_X10_checkedAtom :=
  (2, 0)
def m_k_X10_checkedAtom_97 (a1 : Int32) (s0_82 : Int32) (s0_97 : Int32) : r_k_X10_checkedAtom :=
  (0, (((a1 * 64) + (s0_82 * 8)) + s0_97))
def m_k_X10_checkedAtom_82 (a1 : Int32) (a3 : Int32) (t_27 : r_k_X6_placesOf) (s0_82 : Int32) : r_k_X10_checkedAtom :=
  if t_27 ≤ 1 then
    m_k_X10_checkedAtom_97 a1 s0_82 0
  else
    m_k_X10_checkedAtom_97 a1 s0_82 a3
def m_k_X10_checkedAtom_68 (a1 : Int32) (a2 : Int32) (a3 : Int32) (t_27 : r_k_X6_placesOf) : r_k_X10_checkedAtom :=
  if t_27 ≤ 0 then
    m_k_X10_checkedAtom_82 a1 a3 t_27 0
  else
    m_k_X10_checkedAtom_82 a1 a3 t_27 a2
def m_k_X10_checkedAtom_44 (a1 : Int32) (a2 : Int32) (a3 : Int32) (t_27 : r_k_X6_placesOf) : r_k_X10_checkedAtom :=
  if t_27 ≤ 1 then
    m_k_X10_checkedAtom_68 a1 a2 a3 t_27
  else
    lE (m_k_X10_isValue a3) (fun t_51 =>
      if t_51 = 0 then
        m_k_X10_checkedAtom_57
      else
        m_k_X10_checkedAtom_68 a1 a2 a3 t_27)
def m_k_X10_checkedAtom (pn : Int32) (pl : Nat → Int32) (a1 : Int32) (a2 : Int32) (a3 : Int32) : r_k_X10_checkedAtom :=
  lE (m_k_X6_hasPredicate pn a1) (fun t_5 =>
    if t_5 = 0 then
      (1, 0)
    else
      lE (m_k_X6_placesOf pn pl a1) (fun t_27 =>
        if t_27 ≤ 0 then
          m_k_X10_checkedAtom_44 a1 a2 a3 t_27
        else
          lE (m_k_X10_isValue a2) (fun t_38 =>
            if t_38 = 0 then
              m_k_X10_checkedAtom_57
            else
              m_k_X10_checkedAtom_44 a1 a2 a3 t_27)))
abbrev r_k_X10_answersWith : Type := Int32
def m_k_X10_answersWith_37 (rec_4 : Int32 → Int32 → r_k_X10_answersWith) (v3_4 : Int32) (v2_37 : Int32) : r_k_X10_answersWith :=
  rec_4 v2_37 (v3_4 + 1)
def m_k_X10_answersWith_4s (on : Int32) (su : Nat → Int64) (ob : Nat → Int32) (nn : Int32) (se : Nat → Int32) (a1 : Int32) (rec_4 : Int32 → Int32 → r_k_X10_answersWith) (v2_4 : Int32) (v3_4 : Int32) : r_k_X10_answersWith :=
  if nn ≤ v3_4 then
    v2_4
  else
    lE (m_k_X0_setAt se v3_4) (fun t_24 =>
      lE (m_k_X9_isIn on su ob t_24 a1) (fun t_28 =>
        if t_28 = 0 then
          m_k_X10_answersWith_37 rec_4 v3_4 v2_4
        else
          m_k_X10_answersWith_37 rec_4 v3_4 (v2_4 + 1)))
def m_k_X10_answersWith_4 (on : Int32) (su : Nat → Int64) (ob : Nat → Int32) (nn : Int32) (se : Nat → Int32) (a1 : Int32) : Nat → Int32 → Int32 → r_k_X10_answersWith
  | 0, _, _ => (0)
  | n + 1, v2_4, v3_4 => m_k_X10_answersWith_4s on su ob nn se a1 (fun v2_4 v3_4 => m_k_X10_answersWith_4 on su ob nn se a1 n v2_4 v3_4) v2_4 v3_4
theorem m_k_X10_answersWith_4_succ (on : Int32) (su : Nat → Int64) (ob : Nat → Int32) (nn : Int32) (se : Nat → Int32) (a1 : Int32) (n : Nat) (v2_4 : Int32) (v3_4 : Int32) : m_k_X10_answersWith_4 on su ob nn se a1 (n + 1) v2_4 v3_4 = m_k_X10_answersWith_4s on su ob nn se a1 (m_k_X10_answersWith_4 on su ob nn se a1 n) v2_4 v3_4 := rfl
def m_k_X10_answersWith (on : Int32) (su : Nat → Int64) (ob : Nat → Int32) (nn : Int32) (se : Nat → Int32) (a1 : Int32) : r_k_X10_answersWith :=
  m_k_X10_answersWith_4 on su ob nn se a1 wF 0 0
abbrev r_k_X10_addPredicate : Type := Int32 × Int32 × Int32 × (Nat → Int32) × Int32 × Int32 × Int32
def m_k_X10_addPredicate_9 (pn : Int32) (pl : Nat → Int32) (cu : Int32) (ic : Int32) (kp : Int32) : r_k_X10_addPredicate :=
  (2, 0, pn, pl, ic, kp, cu)
def m_k_X10_addPredicate (pn : Int32) (pl : Nat → Int32) (cu : Int32) (ic : Int32) (kp : Int32) (a1 : Int32) : r_k_X10_addPredicate :=
  if a1 < 0 then
    m_k_X10_addPredicate_9 pn pl cu ic kp
  else
    if a1 ≤ 2 then
      if pn < 6 then
        lE (m_k_X10_forgetGrounding) (fun t_42 =>
          lE (m_k_X6_tellPredicate pn pl a1) (fun t_50 =>
            (0, t_50.1, t_50.2.1, t_50.2.2, t_42.1, t_42.2.1, t_42.2.2)))
      else
        (3, 0, pn, pl, ic, kp, cu)
    else
      m_k_X10_addPredicate_9 pn pl cu ic kp
abbrev r_k_X10_addExternal : Type := Int32 × Int32 × Int32 × Int32 × Int32 × (Nat → Int32) × (Nat → Int32) × Int32
def m_k_X10_addExternal_34 (en : Int32) (ea : Nat → Int32) (es : Nat → Int32) (cu : Int32) (ic : Int32) (kp : Int32) : r_k_X10_addExternal :=
  (3, 0, en, ic, kp, ea, es, cu)
def m_k_X10_addExternal (pn : Int32) (en : Int32) (pl : Nat → Int32) (ea : Nat → Int32) (es : Nat → Int32) (cu : Int32) (ic : Int32) (kp : Int32) (a1 : Int32) (a2 : Int32) (a3 : Int32) : r_k_X10_addExternal :=
  lE (m_k_X10_checkedAtom pn pl a1 a2 a3) (fun t_4 =>
    if t_4.1 = 0 then
      if 6 ≤ en then
        m_k_X10_addExternal_34 en ea es cu ic kp
      else
        lE (m_k_X6_externalOf en ea t_4.2) (fun t_27 =>
          if t_27 = (-1) then
            lE (m_k_X10_forgetGrounding) (fun t_45 =>
              lE (m_k_X6_tellExternal en ea es t_4.2) (fun t_54 =>
                (0, t_54.1, t_54.2.1, t_45.1, t_45.2.1, t_54.2.2.1, t_54.2.2.2, t_45.2.2)))
          else
            m_k_X10_addExternal_34 en ea es cu ic kp)
    else
      if t_4.1 = 1 then
        (1, 0, en, ic, kp, ea, es, cu)
      else
        (2, 0, en, ic, kp, ea, es, cu))
abbrev r_k_X10_assume : Type := Int32 × Int32 × (Nat → Int64) × (Nat → Int64) × Int32
def m_k_X10_assume_63 (x42_f_63 : Nat → Int64) (x44_f_63 : Nat → Int64) : r_k_X10_assume :=
  lE (m_k_X1_count x42_f_63) (fun t_67 =>
    lE (m_k_X1_count x44_f_63) (fun t_74 =>
      (0, (t_67 + t_74), x42_f_63, x44_f_63, 0)))
def m_k_X10_assume (pn : Int32) (pl : Nat → Int32) (ai : Nat → Int64) (ao : Nat → Int64) (kp : Int32) (a1 : Int32) (a2 : Int32) (a3 : Int32) (a4 : Int32) : r_k_X10_assume :=
  lE (m_k_X10_checkedAtom pn pl a1 a2 a3) (fun t_4 =>
    if t_4.1 = 0 then
      if a4 = 0 then
        lE (m_k_X1_remove ai t_4.2) (fun t_50 =>
          lE (m_k_X1_add ao t_4.2) (fun t_59 =>
            m_k_X10_assume_63 t_50 t_59.2))
      else
        lE (m_k_X1_remove ao t_4.2) (fun t_28 =>
          lE (m_k_X1_add ai t_4.2) (fun t_37 =>
            m_k_X10_assume_63 t_37.2 t_28))
    else
      if t_4.1 = 1 then
        (1, 0, ai, ao, kp)
      else
        (2, 0, ai, ao, kp))
abbrev r_k_X10_dropAssumptions : Type := Int32 × (Nat → Int64) × (Nat → Int64) × Int32
def m_k_X10_dropAssumptions (ai : Nat → Int64) (ao : Nat → Int64) : r_k_X10_dropAssumptions :=
  lE (m_k_X1_count ai) (fun t_4 =>
    lE (m_k_X1_count ao) (fun t_11 =>
      lE (m_k_X1_clear ai) (fun t_28 =>
        lE (m_k_X1_clear ao) (fun t_35 =>
          ((t_4 + t_11), t_28, t_35, 0)))))
abbrev r_k_X10_state : Type := Int32 × Int32 × (Nat → Int64) × (Nat → Int64) × (Nat → Int32) × (Nat → Int32) × (Nat → Int32) × (Nat → Int32) × (Nat → Int32) × (Nat → Int32) × Int32 × Int32 × Int32 × Int32 × Int32 × Int32 × Int32 × Int32 × Int32 × Int32
def m_k_X10_state (pp : pT) (pn : Int32) (rn : Int32) (tn : Int32) (en : Int32) (pl : Nat → Int32) (rf : Nat → Option Nat) (tp : Nat → Int32) (tq : Nat → Int32) (ea : Nat → Int32) (es : Nat → Int32) (hn : Int32) (kn : Int32) (on : Int32) (cu : Int32) (pu : Int32) (gw : Int32) (b_1 : Int32) (b_2 : Int32) (b_3 : Int32) (b_p : Int32) (su : Nat → Int64) (po : Nat → Int64) (hds : Nat → Int32) (kr : Nat → Int32) (kv : Nat → Int32) (kb : Nat → Int32) (oa : Nat → Int32) (ob : Nat → Int32) (a1 : Int32) (a2 : Int32) (a3 : Int32) : r_k_X10_state :=
  lE (m_k_X10_checkedAtom pn pl a1 a2 a3) (fun t_4 =>
    if t_4.1 = 0 then
      lE (m_k_X3_refresh pp rn tn en rf tp tq ea es hn kn on cu pu gw b_1 b_2 b_3 b_p su po hds kr kv kb oa ob) (fun t_13 =>
        lE (m_k_X1_contains t_13.1 t_4.2) (fun t_25 =>
          if t_25 = 0 then
            lE (m_k_X1_contains t_13.2.1 t_4.2) (fun t_43 =>
              if t_43 = 0 then
                (0, 110, t_13.1, t_13.2.1, t_13.2.2.1, t_13.2.2.2.1, t_13.2.2.2.2.1, t_13.2.2.2.2.2.1, t_13.2.2.2.2.2.2.1, t_13.2.2.2.2.2.2.2.1, t_13.2.2.2.2.2.2.2.2.1, t_13.2.2.2.2.2.2.2.2.2.1, t_13.2.2.2.2.2.2.2.2.2.2.1, t_13.2.2.2.2.2.2.2.2.2.2.2.1, t_13.2.2.2.2.2.2.2.2.2.2.2.2.1, t_13.2.2.2.2.2.2.2.2.2.2.2.2.2.1, t_13.2.2.2.2.2.2.2.2.2.2.2.2.2.2.1, t_13.2.2.2.2.2.2.2.2.2.2.2.2.2.2.2.1, t_13.2.2.2.2.2.2.2.2.2.2.2.2.2.2.2.2.1, t_13.2.2.2.2.2.2.2.2.2.2.2.2.2.2.2.2.2)
              else
                (0, 111, t_13.1, t_13.2.1, t_13.2.2.1, t_13.2.2.2.1, t_13.2.2.2.2.1, t_13.2.2.2.2.2.1, t_13.2.2.2.2.2.2.1, t_13.2.2.2.2.2.2.2.1, t_13.2.2.2.2.2.2.2.2.1, t_13.2.2.2.2.2.2.2.2.2.1, t_13.2.2.2.2.2.2.2.2.2.2.1, t_13.2.2.2.2.2.2.2.2.2.2.2.1, t_13.2.2.2.2.2.2.2.2.2.2.2.2.1, t_13.2.2.2.2.2.2.2.2.2.2.2.2.2.1, t_13.2.2.2.2.2.2.2.2.2.2.2.2.2.2.1, t_13.2.2.2.2.2.2.2.2.2.2.2.2.2.2.2.1, t_13.2.2.2.2.2.2.2.2.2.2.2.2.2.2.2.2.1, t_13.2.2.2.2.2.2.2.2.2.2.2.2.2.2.2.2.2))
          else
            (0, 115, t_13.1, t_13.2.1, t_13.2.2.1, t_13.2.2.2.1, t_13.2.2.2.2.1, t_13.2.2.2.2.2.1, t_13.2.2.2.2.2.2.1, t_13.2.2.2.2.2.2.2.1, t_13.2.2.2.2.2.2.2.2.1, t_13.2.2.2.2.2.2.2.2.2.1, t_13.2.2.2.2.2.2.2.2.2.2.1, t_13.2.2.2.2.2.2.2.2.2.2.2.1, t_13.2.2.2.2.2.2.2.2.2.2.2.2.1, t_13.2.2.2.2.2.2.2.2.2.2.2.2.2.1, t_13.2.2.2.2.2.2.2.2.2.2.2.2.2.2.1, t_13.2.2.2.2.2.2.2.2.2.2.2.2.2.2.2.1, t_13.2.2.2.2.2.2.2.2.2.2.2.2.2.2.2.2.1, t_13.2.2.2.2.2.2.2.2.2.2.2.2.2.2.2.2.2)))
    else
      if t_4.1 = 1 then
        (1, 0, su, po, hds, kr, kv, kb, oa, ob, on, cu, pu, gw, hn, kn, b_1, b_2, b_3, b_p)
      else
        (2, 0, su, po, hds, kr, kv, kb, oa, ob, on, cu, pu, gw, hn, kn, b_1, b_2, b_3, b_p))
abbrev r_k_X10_open : Type := Int32 × (Nat → Int64) × (Nat → Int64) × (Nat → Int32) × (Nat → Int32) × (Nat → Int32) × (Nat → Int32) × (Nat → Int32) × (Nat → Int32) × Int32 × Int32 × Int32 × Int32 × Int32 × Int32 × Int32 × Int32 × Int32 × Int32
def m_k_X10_open (pp : pT) (rn : Int32) (tn : Int32) (en : Int32) (rf : Nat → Option Nat) (tp : Nat → Int32) (tq : Nat → Int32) (ea : Nat → Int32) (es : Nat → Int32) (hn : Int32) (kn : Int32) (on : Int32) (cu : Int32) (pu : Int32) (gw : Int32) (b_1 : Int32) (b_2 : Int32) (b_3 : Int32) (b_p : Int32) (su : Nat → Int64) (po : Nat → Int64) (hds : Nat → Int32) (kr : Nat → Int32) (kv : Nat → Int32) (kb : Nat → Int32) (oa : Nat → Int32) (ob : Nat → Int32) : r_k_X10_open :=
  lE (m_k_X3_refresh pp rn tn en rf tp tq ea es hn kn on cu pu gw b_1 b_2 b_3 b_p su po hds kr kv kb oa ob) (fun t_4 =>
    (t_4.2.2.2.2.2.2.2.2.1, t_4.1, t_4.2.1, t_4.2.2.1, t_4.2.2.2.1, t_4.2.2.2.2.1, t_4.2.2.2.2.2.1, t_4.2.2.2.2.2.2.1, t_4.2.2.2.2.2.2.2.1, t_4.2.2.2.2.2.2.2.2.1, t_4.2.2.2.2.2.2.2.2.2.1, t_4.2.2.2.2.2.2.2.2.2.2.1, t_4.2.2.2.2.2.2.2.2.2.2.2.1, t_4.2.2.2.2.2.2.2.2.2.2.2.2.1, t_4.2.2.2.2.2.2.2.2.2.2.2.2.2.1, t_4.2.2.2.2.2.2.2.2.2.2.2.2.2.2.1, t_4.2.2.2.2.2.2.2.2.2.2.2.2.2.2.2.1, t_4.2.2.2.2.2.2.2.2.2.2.2.2.2.2.2.2.1, t_4.2.2.2.2.2.2.2.2.2.2.2.2.2.2.2.2.2))
abbrev r_k_X10_walk : Type := Int32 × Int32 × (Nat → Int64) × (Nat → Int64) × (Nat → Int32) × (Nat → Int32) × (Nat → Int32) × (Nat → Int32) × (Nat → Int32) × (Nat → Int32) × Int32 × Int32 × Int32 × Int32 × Int32 × Int32 × Int32 × Int32 × Int32 × Int32 × (Nat → Int32) × (Nat → Int32) × (Nat → Int32) × (Nat → Int32) × (Nat → Int32) × (Nat → Int32) × Int32 × (Nat → Int32) × (Nat → Int32) × (Nat → Int32) × (Nat → Int32) × (Nat → Int32) × (Nat → Int32) × (Nat → Int32) × (Nat → Int32) × (Nat → Int32) × (Nat → Int32) × Int32 × Int32 × (Nat → Int32) × (Nat → Int64) × Int32 × Int32 × Int32 × Int32 × Int32 × Int32 × Int32 × Int32 × Int32 × Int32
def m_k_X10_walk_50 (an : Int32) (ch : Int32) (cg : Int32) (fb : Int32) (mh : Int32) (ml : Int32) (ih : Int32) (lb : Int32) (ic : Int32) (cn : Int32) (c1 : Nat → Int32) (c2 : Nat → Int32) (c3 : Nat → Int32) (c4 : Nat → Int32) (c5 : Nat → Int32) (c6 : Nat → Int32) (wn : Int32) (w1 : Nat → Int32) (w2 : Nat → Int32) (w3 : Nat → Int32) (w4 : Nat → Int32) (w5 : Nat → Int32) (w6 : Nat → Int32) (ac : Nat → Int32) (obi : Nat → Int32) (sc : Nat → Int32) (br : Nat → Int32) (nn : Int32) (kp : Int32) (se : Nat → Int32) (co : Nat → Int64) (t_22 : r_k_X3_refresh) : r_k_X10_walk :=
  (4, 0, t_22.1, t_22.2.1, t_22.2.2.1, t_22.2.2.2.1, t_22.2.2.2.2.1, t_22.2.2.2.2.2.1, t_22.2.2.2.2.2.2.1, t_22.2.2.2.2.2.2.2.1, cg, fb, mh, ml, ih, lb, ic, an, ch, cn, c1, c2, c3, c4, c5, c6, wn, w1, w2, w3, w4, w5, w6, ac, obi, sc, br, nn, kp, se, co, t_22.2.2.2.2.2.2.2.2.1, t_22.2.2.2.2.2.2.2.2.2.1, t_22.2.2.2.2.2.2.2.2.2.2.1, t_22.2.2.2.2.2.2.2.2.2.2.2.1, t_22.2.2.2.2.2.2.2.2.2.2.2.2.1, t_22.2.2.2.2.2.2.2.2.2.2.2.2.2.1, t_22.2.2.2.2.2.2.2.2.2.2.2.2.2.2.1, t_22.2.2.2.2.2.2.2.2.2.2.2.2.2.2.2.1, t_22.2.2.2.2.2.2.2.2.2.2.2.2.2.2.2.2.1, t_22.2.2.2.2.2.2.2.2.2.2.2.2.2.2.2.2.2)
def m_k_X10_walk (pp : pT) (rn : Int32) (tn : Int32) (en : Int32) (rf : Nat → Option Nat) (tp : Nat → Int32) (tq : Nat → Int32) (ea : Nat → Int32) (es : Nat → Int32) (hn : Int32) (kn : Int32) (on : Int32) (cu : Int32) (pu : Int32) (gw : Int32) (b_1 : Int32) (b_2 : Int32) (b_3 : Int32) (b_p : Int32) (su : Nat → Int64) (po : Nat → Int64) (hds : Nat → Int32) (kr : Nat → Int32) (kv : Nat → Int32) (kb : Nat → Int32) (oa : Nat → Int32) (ob : Nat → Int32) (an : Int32) (ch : Int32) (cg : Int32) (fb : Int32) (mh : Int32) (ml : Int32) (ih : Int32) (lb : Int32) (ic : Int32) (cn : Int32) (c1 : Nat → Int32) (c2 : Nat → Int32) (c3 : Nat → Int32) (c4 : Nat → Int32) (c5 : Nat → Int32) (c6 : Nat → Int32) (wn : Int32) (w1 : Nat → Int32) (w2 : Nat → Int32) (w3 : Nat → Int32) (w4 : Nat → Int32) (w5 : Nat → Int32) (w6 : Nat → Int32) (ac : Nat → Int32) (obi : Nat → Int32) (sc : Nat → Int32) (br : Nat → Int32) (ai : Nat → Int64) (ao : Nat → Int64) (nn : Int32) (kp : Int32) (se : Nat → Int32) (co : Nat → Int64) : r_k_X10_walk :=
  if kp = 0 then
    lE (m_k_X3_refresh pp rn tn en rf tp tq ea es hn kn on cu pu gw b_1 b_2 b_3 b_p su po hds kr kv kb oa ob) (fun t_22 =>
      if 12 < t_22.2.2.2.2.2.2.2.2.1 then
        m_k_X10_walk_50 an ch cg fb mh ml ih lb ic cn c1 c2 c3 c4 c5 c6 wn w1 w2 w3 w4 w5 w6 ac obi sc br nn kp se co t_22
      else
        if t_22.2.2.2.2.2.2.2.2.2.2.2.2.2.1 ≤ 300 then
          lE (m_k_X9_prepare pp rn en rf ea es t_22.2.2.2.2.2.2.2.2.2.2.2.2.1 t_22.2.2.2.2.2.2.2.2.2.2.2.2.2.1 t_22.2.2.2.2.2.2.2.2.1 t_22.2.2.2.2.2.2.2.2.2.2.2.2.2.2.1 t_22.2.2.2.2.2.2.2.2.2.2.2.2.2.2.2.1 t_22.2.2.2.2.2.2.2.2.2.2.2.2.2.2.2.2.1 t_22.2.2.2.2.2.2.2.2.2.2.2.2.2.2.2.2.2 t_22.1 t_22.2.1 t_22.2.2.1 t_22.2.2.2.1 t_22.2.2.2.2.1 t_22.2.2.2.2.2.2.1 t_22.2.2.2.2.2.2.2.1 ch cg fb lb ic cn c1 c2 c3 c4 c5 c6 wn w1 w2 w3 w4 w5 w6 obi sc ai ao) (fun t_73 =>
            lE (m_k_X9_findAnswers pp rn rf t_22.2.2.2.2.2.2.2.2.1 an t_73.2.2.2.2.2.2.2.2.1 t_73.2.1 t_73.2.2.1 t_73.2.2.2.1 t_73.2.2.2.2.1 t_73.2.2.2.2.2.1 t_73.2.2.2.2.2.2.1 t_73.2.2.2.2.2.2.2.2.2.1 t_73.2.2.2.2.2.2.2.2.2.2.1 t_73.2.2.2.2.2.2.2.2.2.2.2.1 t_73.2.2.2.2.2.2.2.2.2.2.2.2.1 t_73.2.2.2.2.2.2.2.2.2.2.2.2.2.1 t_73.2.2.2.2.2.2.2.2.2.2.2.2.2.2.1 t_73.2.2.2.2.2.2.2.2.2.2.2.2.2.2.2.1 t_73.2.2.2.2.2.2.2.2.2.2.2.2.2.2.2.2.1 t_73.2.2.2.2.2.2.2.2.2.2.2.2.2.2.2.2.2.1 t_73.2.2.2.2.2.2.2.2.2.2.2.2.2.2.2.2.2.2.1 t_73.2.2.2.2.2.2.2.2.2.2.2.2.2.2.2.2.2.2.2.1 ac t_73.2.2.2.2.2.2.2.2.2.2.2.2.2.2.2.2.2.2.2.2.2.2.2.1 t_73.2.2.2.2.2.2.2.2.2.2.2.2.2.2.2.2.2.2.2.2.2.2.2.2.1 br se co) (fun t_84 =>
              if t_84.1 = 0 then
                (4, 0, t_22.1, t_22.2.1, t_73.1, t_22.2.2.2.1, t_22.2.2.2.2.1, t_22.2.2.2.2.2.1, t_22.2.2.2.2.2.2.1, t_22.2.2.2.2.2.2.2.1, t_73.2.1, t_73.2.2.1, t_73.2.2.2.1, t_73.2.2.2.2.1, t_73.2.2.2.2.2.1, t_84.2.1, t_73.2.2.2.2.2.2.2.1, t_84.2.2.1, t_73.2.2.2.2.2.2.2.2.1, t_73.2.2.2.2.2.2.2.2.2.1, t_73.2.2.2.2.2.2.2.2.2.2.1, t_73.2.2.2.2.2.2.2.2.2.2.2.1, t_73.2.2.2.2.2.2.2.2.2.2.2.2.1, t_73.2.2.2.2.2.2.2.2.2.2.2.2.2.1, t_73.2.2.2.2.2.2.2.2.2.2.2.2.2.2.1, t_73.2.2.2.2.2.2.2.2.2.2.2.2.2.2.2.1, t_73.2.2.2.2.2.2.2.2.2.2.2.2.2.2.2.2.1, t_73.2.2.2.2.2.2.2.2.2.2.2.2.2.2.2.2.2.1, t_73.2.2.2.2.2.2.2.2.2.2.2.2.2.2.2.2.2.2.1, t_73.2.2.2.2.2.2.2.2.2.2.2.2.2.2.2.2.2.2.2.1, t_73.2.2.2.2.2.2.2.2.2.2.2.2.2.2.2.2.2.2.2.2.1, t_73.2.2.2.2.2.2.2.2.2.2.2.2.2.2.2.2.2.2.2.2.2.1, t_73.2.2.2.2.2.2.2.2.2.2.2.2.2.2.2.2.2.2.2.2.2.2.1, t_84.2.2.2.1, t_73.2.2.2.2.2.2.2.2.2.2.2.2.2.2.2.2.2.2.2.2.2.2.2.1, t_73.2.2.2.2.2.2.2.2.2.2.2.2.2.2.2.2.2.2.2.2.2.2.2.2.1, t_84.2.2.2.2.1, t_84.2.2.2.2.2.1, kp, t_84.2.2.2.2.2.2.1, t_84.2.2.2.2.2.2.2, t_22.2.2.2.2.2.2.2.2.1, t_22.2.2.2.2.2.2.2.2.2.1, t_22.2.2.2.2.2.2.2.2.2.2.1, t_22.2.2.2.2.2.2.2.2.2.2.2.1, t_73.2.2.2.2.2.2.2.2.2.2.2.2.2.2.2.2.2.2.2.2.2.2.2.2.2.1, t_22.2.2.2.2.2.2.2.2.2.2.2.2.2.1, t_73.2.2.2.2.2.2.2.2.2.2.2.2.2.2.2.2.2.2.2.2.2.2.2.2.2.2.1, t_73.2.2.2.2.2.2.2.2.2.2.2.2.2.2.2.2.2.2.2.2.2.2.2.2.2.2.2.1, t_73.2.2.2.2.2.2.2.2.2.2.2.2.2.2.2.2.2.2.2.2.2.2.2.2.2.2.2.2.1, t_73.2.2.2.2.2.2.2.2.2.2.2.2.2.2.2.2.2.2.2.2.2.2.2.2.2.2.2.2.2)
              else
                (0, t_84.2.2.2.2.2.1, t_22.1, t_22.2.1, t_73.1, t_22.2.2.2.1, t_22.2.2.2.2.1, t_22.2.2.2.2.2.1, t_22.2.2.2.2.2.2.1, t_22.2.2.2.2.2.2.2.1, t_73.2.1, t_73.2.2.1, t_73.2.2.2.1, t_73.2.2.2.2.1, t_73.2.2.2.2.2.1, t_84.2.1, t_73.2.2.2.2.2.2.2.1, t_84.2.2.1, t_73.2.2.2.2.2.2.2.2.1, t_73.2.2.2.2.2.2.2.2.2.1, t_73.2.2.2.2.2.2.2.2.2.2.1, t_73.2.2.2.2.2.2.2.2.2.2.2.1, t_73.2.2.2.2.2.2.2.2.2.2.2.2.1, t_73.2.2.2.2.2.2.2.2.2.2.2.2.2.1, t_73.2.2.2.2.2.2.2.2.2.2.2.2.2.2.1, t_73.2.2.2.2.2.2.2.2.2.2.2.2.2.2.2.1, t_73.2.2.2.2.2.2.2.2.2.2.2.2.2.2.2.2.1, t_73.2.2.2.2.2.2.2.2.2.2.2.2.2.2.2.2.2.1, t_73.2.2.2.2.2.2.2.2.2.2.2.2.2.2.2.2.2.2.1, t_73.2.2.2.2.2.2.2.2.2.2.2.2.2.2.2.2.2.2.2.1, t_73.2.2.2.2.2.2.2.2.2.2.2.2.2.2.2.2.2.2.2.2.1, t_73.2.2.2.2.2.2.2.2.2.2.2.2.2.2.2.2.2.2.2.2.2.1, t_73.2.2.2.2.2.2.2.2.2.2.2.2.2.2.2.2.2.2.2.2.2.2.1, t_84.2.2.2.1, t_73.2.2.2.2.2.2.2.2.2.2.2.2.2.2.2.2.2.2.2.2.2.2.2.1, t_73.2.2.2.2.2.2.2.2.2.2.2.2.2.2.2.2.2.2.2.2.2.2.2.2.1, t_84.2.2.2.2.1, t_84.2.2.2.2.2.1, 1, t_84.2.2.2.2.2.2.1, t_84.2.2.2.2.2.2.2, t_22.2.2.2.2.2.2.2.2.1, t_22.2.2.2.2.2.2.2.2.2.1, t_22.2.2.2.2.2.2.2.2.2.2.1, t_22.2.2.2.2.2.2.2.2.2.2.2.1, t_73.2.2.2.2.2.2.2.2.2.2.2.2.2.2.2.2.2.2.2.2.2.2.2.2.2.1, t_22.2.2.2.2.2.2.2.2.2.2.2.2.2.1, t_73.2.2.2.2.2.2.2.2.2.2.2.2.2.2.2.2.2.2.2.2.2.2.2.2.2.2.1, t_73.2.2.2.2.2.2.2.2.2.2.2.2.2.2.2.2.2.2.2.2.2.2.2.2.2.2.2.1, t_73.2.2.2.2.2.2.2.2.2.2.2.2.2.2.2.2.2.2.2.2.2.2.2.2.2.2.2.2.1, t_73.2.2.2.2.2.2.2.2.2.2.2.2.2.2.2.2.2.2.2.2.2.2.2.2.2.2.2.2.2)))
        else
          m_k_X10_walk_50 an ch cg fb mh ml ih lb ic cn c1 c2 c3 c4 c5 c6 wn w1 w2 w3 w4 w5 w6 ac obi sc br nn kp se co t_22)
  else
    (0, nn, su, po, hds, kr, kv, kb, oa, ob, cg, fb, mh, ml, ih, lb, ic, an, ch, cn, c1, c2, c3, c4, c5, c6, wn, w1, w2, w3, w4, w5, w6, ac, obi, sc, br, nn, kp, se, co, on, cu, pu, gw, hn, kn, b_1, b_2, b_3, b_p)
abbrev r_k_X10_walkByAll : Type := Int32 × Int32 × (Nat → Int64) × (Nat → Int64) × (Nat → Int32) × (Nat → Int32) × (Nat → Int32) × (Nat → Int32) × (Nat → Int32) × (Nat → Int32) × Int32 × Int32 × Int32 × Int32 × Int32 × Int32 × Int32 × Int32 × Int32 × Int32 × (Nat → Int32) × (Nat → Int32) × (Nat → Int32) × (Nat → Int32) × (Nat → Int32) × (Nat → Int32) × Int32 × (Nat → Int32) × (Nat → Int32) × (Nat → Int32) × (Nat → Int32) × (Nat → Int32) × (Nat → Int32) × (Nat → Int32) × (Nat → Int32) × (Nat → Int32) × Int32 × Int32 × Int32 × Int32 × Int32 × Int32 × Int32 × Int32 × Int32 × Int32
def m_k_X10_walkByAll_32 (an : Int32) (ch : Int32) (cg : Int32) (fb : Int32) (mh : Int32) (ml : Int32) (ih : Int32) (lb : Int32) (ic : Int32) (cn : Int32) (c1 : Nat → Int32) (c2 : Nat → Int32) (c3 : Nat → Int32) (c4 : Nat → Int32) (c5 : Nat → Int32) (c6 : Nat → Int32) (wn : Int32) (w1 : Nat → Int32) (w2 : Nat → Int32) (w3 : Nat → Int32) (w4 : Nat → Int32) (w5 : Nat → Int32) (w6 : Nat → Int32) (ac : Nat → Int32) (obi : Nat → Int32) (sc : Nat → Int32) (t_4 : r_k_X3_refresh) : r_k_X10_walkByAll :=
  (4, 0, t_4.1, t_4.2.1, t_4.2.2.1, t_4.2.2.2.1, t_4.2.2.2.2.1, t_4.2.2.2.2.2.1, t_4.2.2.2.2.2.2.1, t_4.2.2.2.2.2.2.2.1, cg, fb, mh, ml, ih, lb, ic, an, ch, cn, c1, c2, c3, c4, c5, c6, wn, w1, w2, w3, w4, w5, w6, ac, obi, sc, t_4.2.2.2.2.2.2.2.2.1, t_4.2.2.2.2.2.2.2.2.2.1, t_4.2.2.2.2.2.2.2.2.2.2.1, t_4.2.2.2.2.2.2.2.2.2.2.2.1, t_4.2.2.2.2.2.2.2.2.2.2.2.2.1, t_4.2.2.2.2.2.2.2.2.2.2.2.2.2.1, t_4.2.2.2.2.2.2.2.2.2.2.2.2.2.2.1, t_4.2.2.2.2.2.2.2.2.2.2.2.2.2.2.2.1, t_4.2.2.2.2.2.2.2.2.2.2.2.2.2.2.2.2.1, t_4.2.2.2.2.2.2.2.2.2.2.2.2.2.2.2.2.2)
def m_k_X10_walkByAll (pp : pT) (rn : Int32) (tn : Int32) (en : Int32) (rf : Nat → Option Nat) (tp : Nat → Int32) (tq : Nat → Int32) (ea : Nat → Int32) (es : Nat → Int32) (hn : Int32) (kn : Int32) (on : Int32) (cu : Int32) (pu : Int32) (gw : Int32) (b_1 : Int32) (b_2 : Int32) (b_3 : Int32) (b_p : Int32) (su : Nat → Int64) (po : Nat → Int64) (hds : Nat → Int32) (kr : Nat → Int32) (kv : Nat → Int32) (kb : Nat → Int32) (oa : Nat → Int32) (ob : Nat → Int32) (an : Int32) (ch : Int32) (cg : Int32) (fb : Int32) (mh : Int32) (ml : Int32) (ih : Int32) (lb : Int32) (ic : Int32) (cn : Int32) (c1 : Nat → Int32) (c2 : Nat → Int32) (c3 : Nat → Int32) (c4 : Nat → Int32) (c5 : Nat → Int32) (c6 : Nat → Int32) (wn : Int32) (w1 : Nat → Int32) (w2 : Nat → Int32) (w3 : Nat → Int32) (w4 : Nat → Int32) (w5 : Nat → Int32) (w6 : Nat → Int32) (ac : Nat → Int32) (obi : Nat → Int32) (sc : Nat → Int32) (ai : Nat → Int64) (ao : Nat → Int64) : r_k_X10_walkByAll :=
  lE (m_k_X3_refresh pp rn tn en rf tp tq ea es hn kn on cu pu gw b_1 b_2 b_3 b_p su po hds kr kv kb oa ob) (fun t_4 =>
    if 7 < t_4.2.2.2.2.2.2.2.2.1 then
      m_k_X10_walkByAll_32 an ch cg fb mh ml ih lb ic cn c1 c2 c3 c4 c5 c6 wn w1 w2 w3 w4 w5 w6 ac obi sc t_4
    else
      if t_4.2.2.2.2.2.2.2.2.2.2.2.2.2.1 ≤ 300 then
        lE (m_k_X9_prepare pp rn en rf ea es t_4.2.2.2.2.2.2.2.2.2.2.2.2.1 t_4.2.2.2.2.2.2.2.2.2.2.2.2.2.1 t_4.2.2.2.2.2.2.2.2.1 t_4.2.2.2.2.2.2.2.2.2.2.2.2.2.2.1 t_4.2.2.2.2.2.2.2.2.2.2.2.2.2.2.2.1 t_4.2.2.2.2.2.2.2.2.2.2.2.2.2.2.2.2.1 t_4.2.2.2.2.2.2.2.2.2.2.2.2.2.2.2.2.2 t_4.1 t_4.2.1 t_4.2.2.1 t_4.2.2.2.1 t_4.2.2.2.2.1 t_4.2.2.2.2.2.2.1 t_4.2.2.2.2.2.2.2.1 ch cg fb lb ic cn c1 c2 c3 c4 c5 c6 wn w1 w2 w3 w4 w5 w6 obi sc ai ao) (fun t_55 =>
          lE (m_k_X9_countByAll pp rn rf t_4.2.2.2.2.2.2.2.2.1 an t_55.2.2.2.2.2.2.2.2.1 t_55.2.1 t_55.2.2.1 t_55.2.2.2.1 t_55.2.2.2.2.1 t_55.2.2.2.2.2.1 t_55.2.2.2.2.2.2.1 t_55.2.2.2.2.2.2.2.2.2.1 t_55.2.2.2.2.2.2.2.2.2.2.1 t_55.2.2.2.2.2.2.2.2.2.2.2.1 t_55.2.2.2.2.2.2.2.2.2.2.2.2.1 t_55.2.2.2.2.2.2.2.2.2.2.2.2.2.1 t_55.2.2.2.2.2.2.2.2.2.2.2.2.2.2.1 t_55.2.2.2.2.2.2.2.2.2.2.2.2.2.2.2.1 ac t_55.2.2.2.2.2.2.2.2.2.2.2.2.2.2.2.2.2.2.2.2.2.2.2.1 t_55.2.2.2.2.2.2.2.2.2.2.2.2.2.2.2.2.2.2.2.2.2.2.2.2.1) (fun t_62 =>
            (0, t_62.1, t_4.1, t_4.2.1, t_55.1, t_4.2.2.2.1, t_4.2.2.2.2.1, t_4.2.2.2.2.2.1, t_4.2.2.2.2.2.2.1, t_4.2.2.2.2.2.2.2.1, t_55.2.1, t_55.2.2.1, t_55.2.2.2.1, t_55.2.2.2.2.1, t_55.2.2.2.2.2.1, t_62.2.1, t_55.2.2.2.2.2.2.2.1, t_62.2.2.1, t_55.2.2.2.2.2.2.2.2.1, t_55.2.2.2.2.2.2.2.2.2.1, t_55.2.2.2.2.2.2.2.2.2.2.1, t_55.2.2.2.2.2.2.2.2.2.2.2.1, t_55.2.2.2.2.2.2.2.2.2.2.2.2.1, t_55.2.2.2.2.2.2.2.2.2.2.2.2.2.1, t_55.2.2.2.2.2.2.2.2.2.2.2.2.2.2.1, t_55.2.2.2.2.2.2.2.2.2.2.2.2.2.2.2.1, t_55.2.2.2.2.2.2.2.2.2.2.2.2.2.2.2.2.1, t_55.2.2.2.2.2.2.2.2.2.2.2.2.2.2.2.2.2.1, t_55.2.2.2.2.2.2.2.2.2.2.2.2.2.2.2.2.2.2.1, t_55.2.2.2.2.2.2.2.2.2.2.2.2.2.2.2.2.2.2.2.1, t_55.2.2.2.2.2.2.2.2.2.2.2.2.2.2.2.2.2.2.2.2.1, t_55.2.2.2.2.2.2.2.2.2.2.2.2.2.2.2.2.2.2.2.2.2.1, t_55.2.2.2.2.2.2.2.2.2.2.2.2.2.2.2.2.2.2.2.2.2.2.1, t_62.2.2.2, t_55.2.2.2.2.2.2.2.2.2.2.2.2.2.2.2.2.2.2.2.2.2.2.2.1, t_55.2.2.2.2.2.2.2.2.2.2.2.2.2.2.2.2.2.2.2.2.2.2.2.2.1, t_4.2.2.2.2.2.2.2.2.1, t_4.2.2.2.2.2.2.2.2.2.1, t_4.2.2.2.2.2.2.2.2.2.2.1, t_4.2.2.2.2.2.2.2.2.2.2.2.1, t_55.2.2.2.2.2.2.2.2.2.2.2.2.2.2.2.2.2.2.2.2.2.2.2.2.2.1, t_4.2.2.2.2.2.2.2.2.2.2.2.2.2.1, t_55.2.2.2.2.2.2.2.2.2.2.2.2.2.2.2.2.2.2.2.2.2.2.2.2.2.2.1, t_55.2.2.2.2.2.2.2.2.2.2.2.2.2.2.2.2.2.2.2.2.2.2.2.2.2.2.2.1, t_55.2.2.2.2.2.2.2.2.2.2.2.2.2.2.2.2.2.2.2.2.2.2.2.2.2.2.2.2.1, t_55.2.2.2.2.2.2.2.2.2.2.2.2.2.2.2.2.2.2.2.2.2.2.2.2.2.2.2.2.2)))
      else
        m_k_X10_walkByAll_32 an ch cg fb mh ml ih lb ic cn c1 c2 c3 c4 c5 c6 wn w1 w2 w3 w4 w5 w6 ac obi sc t_4)
abbrev r_k_X10_has : Type := Int32 × Int32
def m_k_X10_has (pn : Int32) (pl : Nat → Int32) (on : Int32) (su : Nat → Int64) (ob : Nat → Int32) (nn : Int32) (kp : Int32) (se : Nat → Int32) (a1 : Int32) (a2 : Int32) (a3 : Int32) (a4 : Int32) : r_k_X10_has :=
  lE (m_k_X10_checkedAnswer nn kp se a1) (fun t_2 =>
    if t_2.1 = 0 then
      lE (m_k_X10_checkedAtom pn pl a2 a3 a4) (fun t_18 =>
        if t_18.1 = 0 then
          lE (m_k_X9_isIn on su ob t_2.2 t_18.2) (fun t_21 =>
            (0, t_21))
        else
          if t_18.1 = 1 then
            (1, 0)
          else
            (2, 0))
    else
      if t_2.1 = 1 then
        (1, 0)
      else
        (3, 0))
abbrev r_k_X10_size : Type := Int32 × Int32
def m_k_X10_size (su : Nat → Int64) (nn : Int32) (kp : Int32) (se : Nat → Int32) (a1 : Int32) : r_k_X10_size :=
  lE (m_k_X10_checkedAnswer nn kp se a1) (fun t_6 =>
    if t_6.1 = 0 then
      lE (m_k_X9_sizeOf su t_6.2) (fun t_9 =>
        (0, t_9))
    else
      if t_6.1 = 1 then
        (1, 0)
      else
        (3, 0))
abbrev r_k_X10_cost : Type := Int32 × Int64
def m_k_X10_cost (nn : Int32) (kp : Int32) (se : Nat → Int32) (co : Nat → Int64) (a1 : Int32) (a2 : Int32) : r_k_X10_cost :=
  lE (m_k_X10_checkedAnswer nn kp se a1) (fun t_2 =>
    if t_2.1 = 0 then
      lE (m_k_X10_checkLevel a2) (fun t_8 =>
        if t_8 = 0 then
          lE (m_k_X0_costAt co a1 a2) (fun t_17 =>
            (0, t_17))
        else
          (2, 0))
    else
      if t_2.1 = 1 then
        (1, 0)
      else
        (3, 0))
abbrev r_k_X10_best : Type := Int32 × Int32
def m_k_X10_best (nn : Int32) (kp : Int32) (co : Nat → Int64) : r_k_X10_best :=
  lE (m_k_X10_checkWalk kp) (fun t_1 =>
    if t_1 = 0 then
      lE (m_k_X0_countBest nn co) (fun t_8 =>
        (0, t_8))
    else
      (3, 0))
abbrev r_k_X10_projected : Type := Int32 × Int32
def m_k_X10_projected (pn : Int32) (obi : Nat → Int32) (nn : Int32) (kp : Int32) (se : Nat → Int32) (a1 : Int32) : r_k_X10_projected :=
  lE (m_k_X10_checkWalk kp) (fun t_1 =>
    if t_1 = 0 then
      lE (m_k_X6_hasPredicate pn a1) (fun t_9 =>
        if t_9 = 0 then
          (1, 0)
        else
          lE (m_k_X9_openBitsOf obi a1) (fun t_35 =>
            lE (m_k_X0_countDifferent nn se t_35) (fun t_38 =>
              (0, t_38))))
    else
      (3, 0))
abbrev r_k_X10_holds : Type := Int32 × Int32
def m_k_X10_holds (pn : Int32) (pl : Nat → Int32) (on : Int32) (su : Nat → Int64) (ob : Nat → Int32) (nn : Int32) (kp : Int32) (se : Nat → Int32) (a1 : Int32) (a2 : Int32) (a3 : Int32) : r_k_X10_holds :=
  lE (m_k_X10_checkWalk kp) (fun t_1 =>
    if t_1 = 0 then
      lE (m_k_X10_checkedAtom pn pl a1 a2 a3) (fun t_9 =>
        if t_9.1 = 0 then
          lE (m_k_X10_answersWith on su ob nn se t_9.2) (fun t_12 =>
            if t_12 = nn then
              (0, 97)
            else
              if t_12 = 0 then
                (0, 110)
              else
                (0, 115))
        else
          if t_9.1 = 1 then
            (1, 0)
          else
            (2, 0))
    else
      (3, 0))
abbrev r_k_X10_reason : Type := Int32 × Int32 × (Nat → Int32) × Int32 × Int32 × Int32 × Int32 × Int32
def m_k_X10_reason_46 (s0_46 : Int32) (x14_f_46 : Nat → Int32) (x8_5_46 : Int32) (x9_0_46 : Int32) (x9_1_46 : Int32) (x9_2_46 : Int32) (x9_3_46 : Int32) : r_k_X10_reason :=
  if s0_46 = (-1) then
    (5, 0, x14_f_46, x8_5_46, x9_0_46, x9_1_46, x9_2_46, x9_3_46)
  else
    (0, s0_46, x14_f_46, x8_5_46, x9_0_46, x9_1_46, x9_2_46, x9_3_46)
def m_k_X10_reason (pp : pT) (pn : Int32) (rn : Int32) (en : Int32) (pl : Nat → Int32) (rf : Nat → Option Nat) (ea : Nat → Int32) (es : Nat → Int32) (hn : Int32) (kn : Int32) (on : Int32) (b_1 : Int32) (b_2 : Int32) (b_3 : Int32) (b_p : Int32) (su : Nat → Int64) (hds : Nat → Int32) (kr : Nat → Int32) (kv : Nat → Int32) (ob : Nat → Int32) (obi : Nat → Int32) (sc : Nat → Int32) (nn : Int32) (kp : Int32) (se : Nat → Int32) (a1 : Int32) (a2 : Int32) (a3 : Int32) (a4 : Int32) : r_k_X10_reason :=
  lE (m_k_X10_checkedAnswer nn kp se a1) (fun t_2 =>
    if t_2.1 = 0 then
      lE (m_k_X10_checkedAtom pn pl a2 a3 a4) (fun t_12 =>
        if t_12.1 = 0 then
          lE (m_k_X9_isIn on su ob t_2.2 t_12.2) (fun t_25 =>
            if t_25 = 0 then
              m_k_X10_reason_46 (-1) hds hn b_1 b_2 b_3 b_p
            else
              lE (m_k_X9_reasonFor pp rn en rf ea es hn kn on b_1 b_2 b_3 b_p su hds kr kv ob obi sc t_2.2 t_12.2) (fun t_39 =>
                m_k_X10_reason_46 t_39.1 t_39.2.1 t_39.2.2.1 t_39.2.2.2.1 t_39.2.2.2.2.1 t_39.2.2.2.2.2.1 t_39.2.2.2.2.2.2))
        else
          if t_12.1 = 1 then
            (1, 0, hds, hn, b_1, b_2, b_3, b_p)
          else
            (2, 0, hds, hn, b_1, b_2, b_3, b_p))
    else
      if t_2.1 = 1 then
        (1, 0, hds, hn, b_1, b_2, b_3, b_p)
      else
        (3, 0, hds, hn, b_1, b_2, b_3, b_p))
abbrev r_k_X10_commonest : Type := Int32 × Int32
def m_k_X10_commonest_24 : r_k_X10_commonest :=
  (5, 0)
def m_k_X10_commonest_84 (rec_41 : Int32 → Int32 → Int32 → r_k_X10_commonest) (v3_41 : Int32) (v1_84 : Int32) (v2_84 : Int32) : r_k_X10_commonest :=
  rec_41 v1_84 v2_84 (v3_41 + 1)
def m_k_X10_commonest_41s (on : Int32) (su : Nat → Int64) (oa : Nat → Int32) (ob : Nat → Int32) (nn : Int32) (se : Nat → Int32) (rec_41 : Int32 → Int32 → Int32 → r_k_X10_commonest) (v1_41 : Int32) (v2_41 : Int32) (v3_41 : Int32) : r_k_X10_commonest :=
  if on ≤ v3_41 then
    (0, (((100 * (v2_41 / 64)) + (10 * ((v2_41 - v2_41 / 64 * 64) / 8))) + (v2_41 - v2_41 / 8 * 8)))
  else
    lE (m_k_X3_openAtomAt oa v3_41) (fun t_58 =>
      lE (m_k_X10_answersWith on su ob nn se t_58) (fun t_61 =>
        if t_61 ≤ v1_41 then
          m_k_X10_commonest_84 rec_41 v3_41 v1_41 v2_41
        else
          lE (m_k_X3_openAtomAt oa v3_41) (fun t_80 =>
            m_k_X10_commonest_84 rec_41 v3_41 t_61 t_80)))
def m_k_X10_commonest_41 (on : Int32) (su : Nat → Int64) (oa : Nat → Int32) (ob : Nat → Int32) (nn : Int32) (se : Nat → Int32) : Nat → Int32 → Int32 → Int32 → r_k_X10_commonest
  | 0, _, _, _ => (0, 0)
  | n + 1, v1_41, v2_41, v3_41 => m_k_X10_commonest_41s on su oa ob nn se (fun v1_41 v2_41 v3_41 => m_k_X10_commonest_41 on su oa ob nn se n v1_41 v2_41 v3_41) v1_41 v2_41 v3_41
theorem m_k_X10_commonest_41_succ (on : Int32) (su : Nat → Int64) (oa : Nat → Int32) (ob : Nat → Int32) (nn : Int32) (se : Nat → Int32) (n : Nat) (v1_41 : Int32) (v2_41 : Int32) (v3_41 : Int32) : m_k_X10_commonest_41 on su oa ob nn se (n + 1) v1_41 v2_41 v3_41 = m_k_X10_commonest_41s on su oa ob nn se (m_k_X10_commonest_41 on su oa ob nn se n) v1_41 v2_41 v3_41 := rfl
def m_k_X10_commonest (on : Int32) (su : Nat → Int64) (oa : Nat → Int32) (ob : Nat → Int32) (nn : Int32) (kp : Int32) (se : Nat → Int32) : r_k_X10_commonest :=
  lE (m_k_X10_checkWalk kp) (fun t_1 =>
    if t_1 = 0 then
      if on ≤ 0 then
        m_k_X10_commonest_24
      else
        if 0 < nn then
          m_k_X10_commonest_41 on su oa ob nn se wF (-1) 0 0
        else
          m_k_X10_commonest_24
    else
      (3, 0))
abbrev r_k_X4_slotOf : Type := Int32
def m_k_X4_slotOf (a1 : Int32) : r_k_X4_slotOf :=
  if 8 ≤ a1 then
    if a1 < 40 then
      (1 + (a1 - a1 / 10 * 10))
    else
      4
  else
    0
abbrev r_k_X4_shiftOf : Type := Int32
def m_k_X4_shiftOf_22 (a1 : Int32) : r_k_X4_shiftOf :=
  if a1 < 30 then
    0
  else
    if a1 = 40 then
      0
    else
      (-1)
def m_k_X4_shiftOf (a1 : Int32) : r_k_X4_shiftOf :=
  if 8 ≤ a1 then
    if a1 < 20 then
      m_k_X4_shiftOf_22 a1
    else
      if 30 ≤ a1 then
        m_k_X4_shiftOf_22 a1
      else
        1
  else
    a1
abbrev r_k_X4_init : Type := Int32 × Int32 × Int32 × Int32 × Int32 × Int32 × Int32 × Int32
def m_k_X4_init_88 (a1 : Int32) (a2 : Int32) (a3 : Int32) (s0_72 : Int32) (t_22 : r_k_X4_slotOf) (t_31 : r_k_X4_shiftOf) (t_40 : r_k_X4_slotOf) (t_49 : r_k_X4_shiftOf) (s0_88 : Int32) : r_k_X4_init :=
  (a1, a2, a3, t_22, t_31, t_40, t_49, if s0_72 < s0_88 then s0_88 else s0_72)
def m_k_X4_init_72 (a1 : Int32) (a2 : Int32) (a3 : Int32) (t_22 : r_k_X4_slotOf) (t_31 : r_k_X4_shiftOf) (t_40 : r_k_X4_slotOf) (t_49 : r_k_X4_shiftOf) (s0_72 : Int32) : r_k_X4_init :=
  if t_40 = 4 then
    m_k_X4_init_88 a1 a2 a3 s0_72 t_22 t_31 t_40 t_49 0
  else
    m_k_X4_init_88 a1 a2 a3 s0_72 t_22 t_31 t_40 t_49 t_40
def m_k_X4_init (a1 : Int32) (a2 : Int32) (a3 : Int32) (a4 : Int32) (a5 : Int32) : r_k_X4_init :=
  lE (m_k_X4_slotOf a4) (fun t_22 =>
    lE (m_k_X4_shiftOf a4) (fun t_31 =>
      lE (m_k_X4_slotOf a5) (fun t_40 =>
        lE (m_k_X4_shiftOf a5) (fun t_49 =>
          if t_22 = 4 then
            m_k_X4_init_72 a1 a2 a3 t_22 t_31 t_40 t_49 0
          else
            m_k_X4_init_72 a1 a2 a3 t_22 t_31 t_40 t_49 t_22))))
abbrev r_k_X8_tellHead : Type := Int32 × Int32 × Int32
def m_k_X8_tellHead (y_hc : Int32) : r_k_X8_tellHead :=
  if y_hc < 0 then
    (0, y_hc, y_hc)
  else
    if 2 ≤ y_hc then
      (0, y_hc, y_hc)
    else
      (1, (y_hc + 1), y_hc + 1)
abbrev r_k_X8_tellCondition : Type := Int32 × Int32 × Int32
def m_k_X8_tellCondition (y_cc : Int32) : r_k_X8_tellCondition :=
  if y_cc < 0 then
    (0, y_cc, y_cc)
  else
    if 5 ≤ y_cc then
      (0, y_cc, y_cc)
    else
      (1, (y_cc + 1), y_cc + 1)
abbrev r_k_X6_tellRule : Type := Int32 × Int32 × Int32
def m_k_X6_tellRule (rn : Int32) : r_k_X6_tellRule :=
  if rn < 0 then
    (0, (-1), rn)
  else
    if rn < 20 then
      (1, rn, rn + 1)
    else
      (0, (-1), rn)
abbrev r_k_X10_addDisjunction : Type := Int32 × Int32 × Int32 × Int32 × Int32 × Int32 × Int32 × Int32 × Int32 × Int32 × Int32 × Int32 × Int32 × Int32 × Int32 × Int32
def m_k_X10_addDisjunction (rn : Int32) (cu : Int32) (ic : Int32) (kp : Int32) (a1 : Int32) : r_k_X10_addDisjunction :=
  lE (m_k_X10_checkPart a1) (fun t_2 =>
    if t_2 = 0 then
      lE (m_k_X10_checkRoomForRule rn) (fun t_6 =>
        if t_6 = 0 then
          lE (m_k_X10_forgetGrounding) (fun t_10 =>
            lE (m_k_X6_tellRule rn) (fun t_27 =>
              if t_27.1 = 0 then
                (0, 0, t_27.2.1, 100, a1, 0, 0, 0, (-1), 0, 0, 0, t_27.2.2, t_10.1, t_10.2.1, t_10.2.2)
              else
                (0, 1, t_27.2.1, 100, a1, 0, 0, 0, (-1), 0, 0, 0, t_27.2.2, t_10.1, t_10.2.1, t_10.2.2)))
        else
          (3, 0, 0, 0, 0, 0, 0, 0, 0, 0, 0, 0, rn, ic, kp, cu))
    else
      (2, 0, 0, 0, 0, 0, 0, 0, 0, 0, 0, 0, rn, ic, kp, cu))
abbrev r_k_X10_addChoice : Type := Int32 × Int32 × Int32 × Int32 × Int32 × Int32 × Int32 × Int32 × Int32 × Int32 × Int32 × Int32 × Int32 × Int32 × Int32 × Int32
def m_k_X10_addChoice_20 (rn : Int32) (cu : Int32) (ic : Int32) (kp : Int32) : r_k_X10_addChoice :=
  (2, 0, 0, 0, 0, 0, 0, 0, 0, 0, 0, 0, rn, ic, kp, cu)
def m_k_X10_addChoice_59 (rn : Int32) (cu : Int32) (ic : Int32) (kp : Int32) (a1 : Int32) (a2 : Int32) (a3 : Int32) (a4 : Int32) : r_k_X10_addChoice :=
  lE (m_k_X10_checkRoomForRule rn) (fun t_60 =>
    if t_60 = 0 then
      lE (m_k_X10_forgetGrounding) (fun t_64 =>
        lE (m_k_X6_tellRule rn) (fun t_104 =>
          if t_104.1 = 0 then
            (0, 0, t_104.2.1, 99, a1, 0, a2, a3, a4, 0, 0, 0, t_104.2.2, t_64.1, t_64.2.1, t_64.2.2)
          else
            (0, 1, t_104.2.1, 99, a1, 0, a2, a3, a4, 0, 0, 0, t_104.2.2, t_64.1, t_64.2.1, t_64.2.2)))
    else
      (3, 0, 0, 0, 0, 0, 0, 0, 0, 0, 0, 0, rn, ic, kp, cu))
def m_k_X10_addChoice (pn : Int32) (rn : Int32) (pl : Nat → Int32) (cu : Int32) (ic : Int32) (kp : Int32) (a1 : Int32) (a2 : Int32) (a3 : Int32) (a4 : Int32) : r_k_X10_addChoice :=
  lE (m_k_X10_checkPart a1) (fun t_2 =>
    if t_2 = 0 then
      if a2 < 0 then
        m_k_X10_addChoice_20 rn cu ic kp
      else
        if a3 < a2 then
          m_k_X10_addChoice_20 rn cu ic kp
        else
          if a3 ≤ 9 then
            if a4 = (-1) then
              m_k_X10_addChoice_59 rn cu ic kp a1 a2 a3 a4
            else
              lE (m_k_X6_placesOf pn pl a4) (fun t_42 =>
                if t_42 = 1 then
                  m_k_X10_addChoice_59 rn cu ic kp a1 a2 a3 a4
                else
                  (2, 0, 0, 0, 0, 0, 0, 0, 0, 0, 0, 0, rn, ic, kp, cu))
          else
            m_k_X10_addChoice_20 rn cu ic kp
    else
      (2, 0, 0, 0, 0, 0, 0, 0, 0, 0, 0, 0, rn, ic, kp, cu))
abbrev r_k_X10_addWeak : Type := Int32 × Int32 × Int32 × Int32 × Int32 × Int32 × Int32 × Int32 × Int32 × Int32 × Int32 × Int32 × Int32 × Int32 × Int32 × Int32
def m_k_X10_addWeak_17 (rn : Int32) (cu : Int32) (ic : Int32) (kp : Int32) : r_k_X10_addWeak :=
  (2, 0, 0, 0, 0, 0, 0, 0, 0, 0, 0, 0, rn, ic, kp, cu)
def m_k_X10_addWeak (rn : Int32) (cu : Int32) (ic : Int32) (kp : Int32) (a1 : Int32) (a2 : Int32) (a3 : Int32) : r_k_X10_addWeak :=
  lE (m_k_X10_checkPart a1) (fun t_2 =>
    if t_2 = 0 then
      if a2 < (-99) then
        m_k_X10_addWeak_17 rn cu ic kp
      else
        if a2 ≤ 99 then
          lE (m_k_X10_checkLevel a3) (fun t_29 =>
            if t_29 = 0 then
              lE (m_k_X10_checkRoomForRule rn) (fun t_33 =>
                if t_33 = 0 then
                  lE (m_k_X10_forgetGrounding) (fun t_37 =>
                    lE (m_k_X6_tellRule rn) (fun t_70 =>
                      if t_70.1 = 0 then
                        (0, 0, t_70.2.1, 119, a1, 0, 0, 0, (-1), a2, a3, 0, t_70.2.2, t_37.1, t_37.2.1, t_37.2.2)
                      else
                        (0, 1, t_70.2.1, 119, a1, 0, 0, 0, (-1), a2, a3, 0, t_70.2.2, t_37.1, t_37.2.1, t_37.2.2)))
                else
                  (3, 0, 0, 0, 0, 0, 0, 0, 0, 0, 0, 0, rn, ic, kp, cu))
            else
              (2, 0, 0, 0, 0, 0, 0, 0, 0, 0, 0, 0, rn, ic, kp, cu))
        else
          m_k_X10_addWeak_17 rn cu ic kp
    else
      (2, 0, 0, 0, 0, 0, 0, 0, 0, 0, 0, 0, rn, ic, kp, cu))
abbrev r_k_X6_ruleAt_l : Type := Option Nat
def m_k_X6_ruleAt_l (rn : Int32) (rf : Nat → Option Nat) (a1 : Int32) : r_k_X6_ruleAt_l :=
  if a1 < 0 then
    none
  else
    if rn ≤ a1 then
      none
    else
      if 20 ≤ a1 then
        none
      else
        oE (rf a1.toNatClampNeg) (
          none) (fun o_23 =>
          (some o_23))
abbrev r_k_X8_hasSpan_l : Type := Int32
def m_k_X8_hasSpan_l (y_sp : Int32) : r_k_X8_hasSpan_l :=
  if y_sp = (-1) then
    0
  else
    1
abbrev r_k_X10_isBodyTerm : Type := Int32
def m_k_X10_isBodyTerm_42 : r_k_X10_isBodyTerm :=
  1
def m_k_X10_isBodyTerm_23 (y_sp : Int32) (a1 : Int32) (s0_23 : Int32) : r_k_X10_isBodyTerm :=
  lE (m_k_X10_isTerm a1) (fun t_25 =>
    if t_25 = 0 then
      0
    else
      if s0_23 = 0 then
        m_k_X10_isBodyTerm_42
      else
        lE (m_k_X8_hasSpan_l y_sp) (fun t_36 =>
          if t_36 = 0 then
            m_k_X10_isBodyTerm_42
          else
            0))
def m_k_X10_isBodyTerm_18 (y_sp : Int32) (a1 : Int32) : r_k_X10_isBodyTerm :=
  m_k_X10_isBodyTerm_23 y_sp a1 1
def m_k_X10_isBodyTerm (y_sp : Int32) (a1 : Int32) : r_k_X10_isBodyTerm :=
  if a1 = 12 then
    m_k_X10_isBodyTerm_18 y_sp a1
  else
    if a1 = 22 then
      m_k_X10_isBodyTerm_18 y_sp a1
    else
      if a1 = 32 then
        m_k_X10_isBodyTerm_18 y_sp a1
      else
        m_k_X10_isBodyTerm_23 y_sp a1 0
abbrev r_k_X10_checkRoomForCondition : Type := Int32
def m_k_X10_checkRoomForCondition (y_cc : Int32) : r_k_X10_checkRoomForCondition :=
  if y_cc < 5 then
    0
  else
    3
abbrev r_k_X10_atomLiteral : Type := Int32 × Int32 × Int32 × Int32 × Int32 × Int32 × Int32 × Int32
def m_k_X10_atomLiteral (a1 : Int32) (a2 : Int32) (a3 : Int32) (a4 : Int32) (a5 : Int32) : r_k_X10_atomLiteral :=
  if a3 ≤ 0 then
    if a3 ≤ 1 then
      lE (m_k_X4_init a1 a2 0 0 0) (fun t_27 =>
        (t_27.1, t_27.2.1, t_27.2.2.1, t_27.2.2.2.1, t_27.2.2.2.2.1, t_27.2.2.2.2.2.1, t_27.2.2.2.2.2.2.1, t_27.2.2.2.2.2.2.2))
    else
      lE (m_k_X4_init a1 a2 0 0 a5) (fun t_27 =>
        (t_27.1, t_27.2.1, t_27.2.2.1, t_27.2.2.2.1, t_27.2.2.2.2.1, t_27.2.2.2.2.2.1, t_27.2.2.2.2.2.2.1, t_27.2.2.2.2.2.2.2))
  else
    if a3 ≤ 1 then
      lE (m_k_X4_init a1 a2 0 a4 0) (fun t_27 =>
        (t_27.1, t_27.2.1, t_27.2.2.1, t_27.2.2.2.1, t_27.2.2.2.2.1, t_27.2.2.2.2.2.1, t_27.2.2.2.2.2.2.1, t_27.2.2.2.2.2.2.2))
    else
      lE (m_k_X4_init a1 a2 0 a4 a5) (fun t_27 =>
        (t_27.1, t_27.2.1, t_27.2.2.1, t_27.2.2.2.1, t_27.2.2.2.2.1, t_27.2.2.2.2.2.1, t_27.2.2.2.2.2.2.1, t_27.2.2.2.2.2.2.2))
abbrev r_k_X10_addHead : Type := Int32 × Int32 × Int32 × Int32 × Int32 × Int32 × Int32 × Int32 × Int32 × Int32 × Int32 × Int32 × Int32 × Int32 × Int32
def m_k_X10_addHead_26 (cu : Int32) (ic : Int32) (kp : Int32) (y_hc : Int32) : r_k_X10_addHead :=
  (1, 0, 0, 0, 0, 0, 0, 0, 0, 0, 0, ic, kp, cu, y_hc)
def m_k_X10_addHead_72 (cu : Int32) (ic : Int32) (kp : Int32) (y_hc : Int32) : r_k_X10_addHead :=
  (2, 0, 0, 0, 0, 0, 0, 0, 0, 0, 0, ic, kp, cu, y_hc)
def m_k_X10_addHead_101 (cu : Int32) (ic : Int32) (kp : Int32) (y_hc : Int32) : r_k_X10_addHead :=
  (3, 0, 0, 0, 0, 0, 0, 0, 0, 0, 0, ic, kp, cu, y_hc)
def m_k_X10_addHead_82 (cu : Int32) (ic : Int32) (kp : Int32) (y_k : Int32) (y_hc : Int32) (a2 : Int32) (a3 : Int32) (a4 : Int32) (t_41 : r_k_X6_placesOf) : r_k_X10_addHead :=
  if y_k = 119 then
    m_k_X10_addHead_101 cu ic kp y_hc
  else
    if y_hc < 2 then
      lE (m_k_X10_forgetGrounding) (fun t_112 =>
        lE (m_k_X10_atomLiteral 104 a2 t_41 a3 a4) (fun t_125 =>
          lE (m_k_X8_tellHead y_hc) (fun t_128 =>
            if t_128.1 = 0 then
              (0, 0, t_128.2.1, t_125.1, t_125.2.1, t_125.2.2.1, t_125.2.2.2.1, t_125.2.2.2.2.1, t_125.2.2.2.2.2.1, t_125.2.2.2.2.2.2.1, t_125.2.2.2.2.2.2.2, t_112.1, t_112.2.1, t_112.2.2, t_128.2.2)
            else
              (0, 1, t_128.2.1, t_125.1, t_125.2.1, t_125.2.2.1, t_125.2.2.2.1, t_125.2.2.2.2.1, t_125.2.2.2.2.2.1, t_125.2.2.2.2.2.2.1, t_125.2.2.2.2.2.2.2, t_112.1, t_112.2.1, t_112.2.2, t_128.2.2))))
    else
      m_k_X10_addHead_101 cu ic kp y_hc
def m_k_X10_addHead_58 (cu : Int32) (ic : Int32) (kp : Int32) (y_k : Int32) (y_hc : Int32) (a2 : Int32) (a3 : Int32) (a4 : Int32) (t_41 : r_k_X6_placesOf) : r_k_X10_addHead :=
  if t_41 ≤ 1 then
    m_k_X10_addHead_82 cu ic kp y_k y_hc a2 a3 a4 t_41
  else
    lE (m_k_X10_isTerm a4) (fun t_66 =>
      if t_66 = 0 then
        m_k_X10_addHead_72 cu ic kp y_hc
      else
        m_k_X10_addHead_82 cu ic kp y_k y_hc a2 a3 a4 t_41)
def m_k_X10_addHead (pn : Int32) (rn : Int32) (pl : Nat → Int32) (rf : Nat → Option Nat) (cu : Int32) (ic : Int32) (kp : Int32) (y_k : Int32) (y_hc : Int32) (a1 : Int32) (a2 : Int32) (a3 : Int32) (a4 : Int32) : r_k_X10_addHead :=
  lE (m_k_X6_ruleAt_l rn rf a1) (fun t_5 =>
    oE (t_5) (
      m_k_X10_addHead_26 cu ic kp y_hc) (fun o_5 =>
      lE (m_k_X6_hasPredicate pn a2) (fun t_20 =>
        if t_20 = 0 then
          m_k_X10_addHead_26 cu ic kp y_hc
        else
          lE (m_k_X6_placesOf pn pl a2) (fun t_41 =>
            if t_41 ≤ 0 then
              m_k_X10_addHead_58 cu ic kp y_k y_hc a2 a3 a4 t_41
            else
              lE (m_k_X10_isTerm a3) (fun t_52 =>
                if t_52 = 0 then
                  m_k_X10_addHead_72 cu ic kp y_hc
                else
                  m_k_X10_addHead_58 cu ic kp y_k y_hc a2 a3 a4 t_41)))))
abbrev r_k_X10_addAtom : Type := Int32 × Int32 × Int32 × Int32 × Int32 × Int32 × Int32 × Int32 × Int32 × Int32 × Int32 × Int32 × Int32 × Int32 × Int32
def m_k_X10_addAtom_26 (cu : Int32) (ic : Int32) (kp : Int32) (y_cc : Int32) : r_k_X10_addAtom :=
  (1, 0, 0, 0, 0, 0, 0, 0, 0, 0, 0, ic, kp, cu, y_cc)
def m_k_X10_addAtom_77 (cu : Int32) (ic : Int32) (kp : Int32) (y_cc : Int32) : r_k_X10_addAtom :=
  (2, 0, 0, 0, 0, 0, 0, 0, 0, 0, 0, ic, kp, cu, y_cc)
def m_k_X10_addAtom_110 (y_cc : Int32) (a3 : Int32) (a4 : Int32) (a5 : Int32) (t_41 : r_k_X6_placesOf) (t_94 : r_k_X10_forgetGrounding) (s0_110 : Int32) : r_k_X10_addAtom :=
  lE (m_k_X10_atomLiteral s0_110 a3 t_41 a4 a5) (fun t_117 =>
    lE (m_k_X8_tellCondition y_cc) (fun t_120 =>
      if t_120.1 = 0 then
        (0, 0, t_120.2.1, t_117.1, t_117.2.1, t_117.2.2.1, t_117.2.2.2.1, t_117.2.2.2.2.1, t_117.2.2.2.2.2.1, t_117.2.2.2.2.2.2.1, t_117.2.2.2.2.2.2.2, t_94.1, t_94.2.1, t_94.2.2, t_120.2.2)
      else
        (0, 1, t_120.2.1, t_117.1, t_117.2.1, t_117.2.2.1, t_117.2.2.2.1, t_117.2.2.2.2.1, t_117.2.2.2.2.2.1, t_117.2.2.2.2.2.2.1, t_117.2.2.2.2.2.2.2, t_94.1, t_94.2.1, t_94.2.2, t_120.2.2)))
def m_k_X10_addAtom_87 (cu : Int32) (ic : Int32) (kp : Int32) (y_cc : Int32) (a2 : Int32) (a3 : Int32) (a4 : Int32) (a5 : Int32) (t_41 : r_k_X6_placesOf) : r_k_X10_addAtom :=
  lE (m_k_X10_checkRoomForCondition y_cc) (fun t_90 =>
    if t_90 = 0 then
      lE (m_k_X10_forgetGrounding) (fun t_94 =>
        if a2 = 0 then
          m_k_X10_addAtom_110 y_cc a3 a4 a5 t_41 t_94 102
        else
          m_k_X10_addAtom_110 y_cc a3 a4 a5 t_41 t_94 116)
    else
      (3, 0, 0, 0, 0, 0, 0, 0, 0, 0, 0, ic, kp, cu, y_cc))
def m_k_X10_addAtom_61 (cu : Int32) (ic : Int32) (kp : Int32) (y_sp : Int32) (y_cc : Int32) (a2 : Int32) (a3 : Int32) (a4 : Int32) (a5 : Int32) (t_41 : r_k_X6_placesOf) : r_k_X10_addAtom :=
  if t_41 ≤ 1 then
    m_k_X10_addAtom_87 cu ic kp y_cc a2 a3 a4 a5 t_41
  else
    lE (m_k_X10_isBodyTerm y_sp a5) (fun t_71 =>
      if t_71 = 0 then
        m_k_X10_addAtom_77 cu ic kp y_cc
      else
        m_k_X10_addAtom_87 cu ic kp y_cc a2 a3 a4 a5 t_41)
def m_k_X10_addAtom (pn : Int32) (rn : Int32) (pl : Nat → Int32) (rf : Nat → Option Nat) (cu : Int32) (ic : Int32) (kp : Int32) (y_sp : Int32) (y_cc : Int32) (a1 : Int32) (a2 : Int32) (a3 : Int32) (a4 : Int32) (a5 : Int32) : r_k_X10_addAtom :=
  lE (m_k_X6_ruleAt_l rn rf a1) (fun t_5 =>
    oE (t_5) (
      m_k_X10_addAtom_26 cu ic kp y_cc) (fun o_5 =>
      lE (m_k_X6_hasPredicate pn a3) (fun t_20 =>
        if t_20 = 0 then
          m_k_X10_addAtom_26 cu ic kp y_cc
        else
          lE (m_k_X6_placesOf pn pl a3) (fun t_41 =>
            if t_41 ≤ 0 then
              m_k_X10_addAtom_61 cu ic kp y_sp y_cc a2 a3 a4 a5 t_41
            else
              lE (m_k_X10_isBodyTerm y_sp a4) (fun t_55 =>
                if t_55 = 0 then
                  m_k_X10_addAtom_77 cu ic kp y_cc
                else
                  m_k_X10_addAtom_61 cu ic kp y_sp y_cc a2 a3 a4 a5 t_41)))))
abbrev r_k_X10_addCount : Type := Int32 × Int32 × Int32 × Int32 × Int32 × Int32 × Int32 × Int32 × Int32 × Int32 × Int32 × Int32 × Int32 × Int32 × Int32
def m_k_X10_addCount_26 (cu : Int32) (ic : Int32) (kp : Int32) (y_cc : Int32) : r_k_X10_addCount :=
  (1, 0, 0, 0, 0, 0, 0, 0, 0, 0, 0, ic, kp, cu, y_cc)
def m_k_X10_addCount_70 (cu : Int32) (ic : Int32) (kp : Int32) (y_cc : Int32) : r_k_X10_addCount :=
  (2, 0, 0, 0, 0, 0, 0, 0, 0, 0, 0, ic, kp, cu, y_cc)
def m_k_X10_addCount_58 (cu : Int32) (ic : Int32) (kp : Int32) (y_cc : Int32) (a2 : Int32) (a3 : Int32) (a4 : Int32) : r_k_X10_addCount :=
  if a4 < 0 then
    m_k_X10_addCount_70 cu ic kp y_cc
  else
    if a4 ≤ 20 then
      lE (m_k_X10_checkRoomForCondition y_cc) (fun t_83 =>
        if t_83 = 0 then
          lE (m_k_X10_forgetGrounding) (fun t_87 =>
            lE (m_k_X4_init a2 a3 a4 0 0) (fun t_102 =>
              lE (m_k_X8_tellCondition y_cc) (fun t_105 =>
                if t_105.1 = 0 then
                  (0, 0, t_105.2.1, t_102.1, t_102.2.1, t_102.2.2.1, t_102.2.2.2.1, t_102.2.2.2.2.1, t_102.2.2.2.2.2.1, t_102.2.2.2.2.2.2.1, t_102.2.2.2.2.2.2.2, t_87.1, t_87.2.1, t_87.2.2, t_105.2.2)
                else
                  (0, 1, t_105.2.1, t_102.1, t_102.2.1, t_102.2.2.1, t_102.2.2.2.1, t_102.2.2.2.2.1, t_102.2.2.2.2.2.1, t_102.2.2.2.2.2.2.1, t_102.2.2.2.2.2.2.2, t_87.1, t_87.2.1, t_87.2.2, t_105.2.2))))
        else
          (3, 0, 0, 0, 0, 0, 0, 0, 0, 0, 0, ic, kp, cu, y_cc))
    else
      m_k_X10_addCount_70 cu ic kp y_cc
def m_k_X10_addCount (pn : Int32) (rn : Int32) (rf : Nat → Option Nat) (cu : Int32) (ic : Int32) (kp : Int32) (y_cc : Int32) (a1 : Int32) (a2 : Int32) (a3 : Int32) (a4 : Int32) : r_k_X10_addCount :=
  lE (m_k_X6_ruleAt_l rn rf a1) (fun t_5 =>
    oE (t_5) (
      m_k_X10_addCount_26 cu ic kp y_cc) (fun o_5 =>
      lE (m_k_X6_hasPredicate pn a3) (fun t_20 =>
        if t_20 = 0 then
          m_k_X10_addCount_26 cu ic kp y_cc
        else
          if a2 = 103 then
            m_k_X10_addCount_58 cu ic kp y_cc a2 a3 a4
          else
            if a2 = 108 then
              m_k_X10_addCount_58 cu ic kp y_cc a2 a3 a4
            else
              (2, 0, 0, 0, 0, 0, 0, 0, 0, 0, 0, ic, kp, cu, y_cc))))
abbrev r_k_X10_share : Type := Int32 × UInt32
def m_k_X10_share (pn : Int32) (pl : Nat → Int32) (on : Int32) (su : Nat → Int64) (ob : Nat → Int32) (nn : Int32) (kp : Int32) (se : Nat → Int32) (a1 : Int32) (a2 : Int32) (a3 : Int32) : r_k_X10_share :=
  lE (m_k_X10_checkWalk kp) (fun t_1 =>
    if t_1 = 0 then
      lE (m_k_X10_checkedAtom pn pl a1 a2 a3) (fun t_8 =>
        if t_8.1 = 0 then
          if 0 < nn then
            lE (m_k_X10_answersWith on su ob nn se t_8.2) (fun t_37 =>
              (0, (FP.fdiv (FP.i2f t_37) (FP.i2f nn))))
          else
            (6, 0)
        else
          if t_8.1 = 1 then
            (1, 0)
          else
            (2, 0))
    else
      (3, 0))
abbrev r_k_X10_meanSize : Type := Int32 × UInt64
def m_k_X10_meanSize_29s (su : Nat → Int64) (nn : Int32) (se : Nat → Int32) (rec_29 : Int32 → Int32 → r_k_X10_meanSize) (v1_29 : Int32) (v2_29 : Int32) : r_k_X10_meanSize :=
  if nn ≤ v2_29 then
    (0, (FP.ddiv (FP.i2d v1_29) (FP.i2d nn)))
  else
    lE (m_k_X0_setAt se v2_29) (fun t_50 =>
      lE (m_k_X9_sizeOf su t_50) (fun t_53 =>
        rec_29 (v1_29 + t_53) (v2_29 + 1)))
def m_k_X10_meanSize_29 (su : Nat → Int64) (nn : Int32) (se : Nat → Int32) : Nat → Int32 → Int32 → r_k_X10_meanSize
  | 0, _, _ => (0, 0)
  | n + 1, v1_29, v2_29 => m_k_X10_meanSize_29s su nn se (fun v1_29 v2_29 => m_k_X10_meanSize_29 su nn se n v1_29 v2_29) v1_29 v2_29
theorem m_k_X10_meanSize_29_succ (su : Nat → Int64) (nn : Int32) (se : Nat → Int32) (n : Nat) (v1_29 : Int32) (v2_29 : Int32) : m_k_X10_meanSize_29 su nn se (n + 1) v1_29 v2_29 = m_k_X10_meanSize_29s su nn se (m_k_X10_meanSize_29 su nn se n) v1_29 v2_29 := rfl
def m_k_X10_meanSize (su : Nat → Int64) (nn : Int32) (kp : Int32) (se : Nat → Int32) : r_k_X10_meanSize :=
  lE (m_k_X10_checkWalk kp) (fun t_1 =>
    if t_1 = 0 then
      if 0 < nn then
        m_k_X10_meanSize_29 su nn se wF 0 0
      else
        (6, 0)
    else
      (3, 0))
abbrev r_k_L_told : Type := Int32
def m_k_L_told (a1 : Int32) : r_k_L_told :=
  if a1 = 0 then
    0
  else
    1
abbrev r_k_L_isHeld : Type := Int32
def m_k_L_isHeld_57 (pp : pT) (a0 : Nat) (a1 : Int32) (s0_57 : Int32) : r_k_L_isHeld :=
  if s0_57 = 0 then
    0
  else
    if ((a1 &&& ((pI pp a0) (9 : Int32).toNatClampNeg)) &&& (((pI pp a0) (7 : Int32).toNatClampNeg) ^^^ (-1))) = 0 then
      1
    else
      0
def m_k_L_isHeld_56 (pp : pT) (a0 : Nat) (a1 : Int32) : r_k_L_isHeld :=
  m_k_L_isHeld_57 pp a0 a1 0
def m_k_L_isHeld_24 (pp : pT) (a0 : Nat) (a1 : Int32) (s0_24 : Int32) : r_k_L_isHeld :=
  if s0_24 = 0 then
    m_k_L_isHeld_56 pp a0 a1
  else
    if ((a1 &&& ((pI pp a0) (8 : Int32).toNatClampNeg)) &&& ((pI pp a0) (6 : Int32).toNatClampNeg)) = (((pI pp a0) (8 : Int32).toNatClampNeg) &&& ((pI pp a0) (6 : Int32).toNatClampNeg)) then
      m_k_L_isHeld_57 pp a0 a1 1
    else
      m_k_L_isHeld_56 pp a0 a1
def m_k_L_isHeld_23 (pp : pT) (a0 : Nat) (a1 : Int32) : r_k_L_isHeld :=
  m_k_L_isHeld_24 pp a0 a1 0
def m_k_L_isHeld (pp : pT) (a0 : Nat) (a1 : Int32) : r_k_L_isHeld :=
  if (a1 &&& ((pI pp a0) (4 : Int32).toNatClampNeg)) = ((pI pp a0) (4 : Int32).toNatClampNeg) then
    if (a1 &&& ((pI pp a0) (5 : Int32).toNatClampNeg)) = 0 then
      m_k_L_isHeld_24 pp a0 a1 1
    else
      m_k_L_isHeld_23 pp a0 a1
  else
    m_k_L_isHeld_23 pp a0 a1
abbrev r_k_L_isClosed : Type := Int32
def m_k_L_isClosed_90 (rec_5 : Int32 → Int32 → r_k_L_isClosed) (v4_5 : Int32) (s0_90 : Int32) : r_k_L_isClosed :=
  rec_5 s0_90 (v4_5 + 1)
def m_k_L_isClosed_85 (rec_5 : Int32 → Int32 → r_k_L_isClosed) (v4_5 : Int32) : r_k_L_isClosed :=
  m_k_L_isClosed_90 rec_5 v4_5 1
def m_k_L_isClosed_89 (rec_5 : Int32 → Int32 → r_k_L_isClosed) (v4_5 : Int32) : r_k_L_isClosed :=
  m_k_L_isClosed_90 rec_5 v4_5 0
def m_k_L_isClosed_5s (pp : pT) (gf : Nat → Option Nat) (a1 : Int32) (a2 : Int32) (rec_5 : Int32 → Int32 → r_k_L_isClosed) (v3_5 : Int32) (v4_5 : Int32) : r_k_L_isClosed :=
  if a1 ≤ v4_5 then
    v3_5
  else
    oE (gf v4_5.toNatClampNeg) (
      0) (fun o_14 =>
      lE (m_k_J6_bitCount_0f7a4 (((pI pp o_14) (1 : Int32).toNatClampNeg) &&& a2)) (fun t_23 =>
        if v3_5 = 0 then
          m_k_L_isClosed_89 rec_5 v4_5
        else
          if ((pI pp o_14) (0 : Int32).toNatClampNeg) = 119 then
            m_k_L_isClosed_85 rec_5 v4_5
          else
            lE (m_k_L_isHeld pp o_14 a2) (fun t_44 =>
              if t_44 = 0 then
                m_k_L_isClosed_85 rec_5 v4_5
              else
                if ((pI pp o_14) (0 : Int32).toNatClampNeg) = 100 then
                  if t_23 ≤ 0 then
                    m_k_L_isClosed_89 rec_5 v4_5
                  else
                    m_k_L_isClosed_85 rec_5 v4_5
                else
                  if t_23 < ((pI pp o_14) (2 : Int32).toNatClampNeg) then
                    m_k_L_isClosed_89 rec_5 v4_5
                  else
                    if ((pI pp o_14) (3 : Int32).toNatClampNeg) < t_23 then
                      m_k_L_isClosed_89 rec_5 v4_5
                    else
                      m_k_L_isClosed_85 rec_5 v4_5)))
def m_k_L_isClosed_5 (pp : pT) (gf : Nat → Option Nat) (a1 : Int32) (a2 : Int32) : Nat → Int32 → Int32 → r_k_L_isClosed
  | 0, _, _ => (0)
  | n + 1, v3_5, v4_5 => m_k_L_isClosed_5s pp gf a1 a2 (fun v3_5 v4_5 => m_k_L_isClosed_5 pp gf a1 a2 n v3_5 v4_5) v3_5 v4_5
theorem m_k_L_isClosed_5_succ (pp : pT) (gf : Nat → Option Nat) (a1 : Int32) (a2 : Int32) (n : Nat) (v3_5 : Int32) (v4_5 : Int32) : m_k_L_isClosed_5 pp gf a1 a2 (n + 1) v3_5 v4_5 = m_k_L_isClosed_5s pp gf a1 a2 (m_k_L_isClosed_5 pp gf a1 a2 n) v3_5 v4_5 := rfl
def m_k_L_isClosed (pp : pT) (gf : Nat → Option Nat) (a1 : Int32) (a2 : Int32) : r_k_L_isClosed :=
  m_k_L_isClosed_5 pp gf a1 a2 wF 1 0
abbrev r_k_L_isEnough : Type := Int32
def m_k_L_isEnough_101 (rec_6 : Int32 → Int32 → r_k_L_isEnough) (v5_6 : Int32) (s0_101 : Int32) : r_k_L_isEnough :=
  rec_6 s0_101 (v5_6 + 1)
def m_k_L_isEnough_96 (rec_6 : Int32 → Int32 → r_k_L_isEnough) (v5_6 : Int32) : r_k_L_isEnough :=
  m_k_L_isEnough_101 rec_6 v5_6 1
def m_k_L_isEnough_100 (rec_6 : Int32 → Int32 → r_k_L_isEnough) (v5_6 : Int32) : r_k_L_isEnough :=
  m_k_L_isEnough_101 rec_6 v5_6 0
def m_k_L_isEnough_50 (pp : pT) (a2 : Int32) (a3 : Int32) (o_15 : Nat) (rec_6 : Int32 → Int32 → r_k_L_isEnough) (v4_6 : Int32) (v5_6 : Int32) (s0_50 : Int32) : r_k_L_isEnough :=
  if v4_6 = 0 then
    m_k_L_isEnough_100 rec_6 v5_6
  else
    if s0_50 = 0 then
      m_k_L_isEnough_96 rec_6 v5_6
    else
      if ((pI pp o_15) (0 : Int32).toNatClampNeg) = 100 then
        if (((pI pp o_15) (1 : Int32).toNatClampNeg) &&& a3) = 0 then
          m_k_L_isEnough_100 rec_6 v5_6
        else
          m_k_L_isEnough_96 rec_6 v5_6
      else
        if ((((pI pp o_15) (1 : Int32).toNatClampNeg) &&& a2) &&& (a3 ^^^ (-1))) = 0 then
          m_k_L_isEnough_96 rec_6 v5_6
        else
          m_k_L_isEnough_100 rec_6 v5_6
def m_k_L_isEnough_49 (pp : pT) (a2 : Int32) (a3 : Int32) (o_15 : Nat) (rec_6 : Int32 → Int32 → r_k_L_isEnough) (v4_6 : Int32) (v5_6 : Int32) : r_k_L_isEnough :=
  m_k_L_isEnough_50 pp a2 a3 o_15 rec_6 v4_6 v5_6 0
def m_k_L_isEnough_6s (pp : pT) (gf : Nat → Option Nat) (a1 : Int32) (a2 : Int32) (a3 : Int32) (rec_6 : Int32 → Int32 → r_k_L_isEnough) (v4_6 : Int32) (v5_6 : Int32) : r_k_L_isEnough :=
  if a1 ≤ v5_6 then
    v4_6
  else
    oE (gf v5_6.toNatClampNeg) (
      0) (fun o_15 =>
      if ((pI pp o_15) (0 : Int32).toNatClampNeg) = 119 then
        m_k_L_isEnough_49 pp a2 a3 o_15 rec_6 v4_6 v5_6
      else
        lE (m_k_L_isHeld pp o_15 a2) (fun t_30 =>
          if t_30 = 0 then
            m_k_L_isEnough_49 pp a2 a3 o_15 rec_6 v4_6 v5_6
          else
            lE (m_k_L_isHeld pp o_15 a3) (fun t_39 =>
              if t_39 = 0 then
                m_k_L_isEnough_49 pp a2 a3 o_15 rec_6 v4_6 v5_6
              else
                m_k_L_isEnough_50 pp a2 a3 o_15 rec_6 v4_6 v5_6 1)))
def m_k_L_isEnough_6 (pp : pT) (gf : Nat → Option Nat) (a1 : Int32) (a2 : Int32) (a3 : Int32) : Nat → Int32 → Int32 → r_k_L_isEnough
  | 0, _, _ => (0)
  | n + 1, v4_6, v5_6 => m_k_L_isEnough_6s pp gf a1 a2 a3 (fun v4_6 v5_6 => m_k_L_isEnough_6 pp gf a1 a2 a3 n v4_6 v5_6) v4_6 v5_6
theorem m_k_L_isEnough_6_succ (pp : pT) (gf : Nat → Option Nat) (a1 : Int32) (a2 : Int32) (a3 : Int32) (n : Nat) (v4_6 : Int32) (v5_6 : Int32) : m_k_L_isEnough_6 pp gf a1 a2 a3 (n + 1) v4_6 v5_6 = m_k_L_isEnough_6s pp gf a1 a2 a3 (m_k_L_isEnough_6 pp gf a1 a2 a3 n) v4_6 v5_6 := rfl
def m_k_L_isEnough (pp : pT) (gf : Nat → Option Nat) (a1 : Int32) (a2 : Int32) (a3 : Int32) : r_k_L_isEnough :=
  m_k_L_isEnough_6 pp gf a1 a2 a3 wF 1 0
abbrev r_k_L_isAnswer : Type := Int32
def m_k_L_isAnswer_97 (rec_26 : Int32 → Int32 → r_k_L_isAnswer) (v6_26 : Int32) (s0_97 : Int32) : r_k_L_isAnswer :=
  rec_26 s0_97 (v6_26 + 1)
def m_k_L_isAnswer_92 (rec_26 : Int32 → Int32 → r_k_L_isAnswer) (v6_26 : Int32) : r_k_L_isAnswer :=
  m_k_L_isAnswer_97 rec_26 v6_26 1
def m_k_L_isAnswer_73 (pp : pT) (gf : Nat → Option Nat) (a1 : Int32) (a4 : Int32) (rec_26 : Int32 → Int32 → r_k_L_isAnswer) (v6_26 : Int32) (s0_73 : Int32) : r_k_L_isAnswer :=
  if s0_73 = 0 then
    m_k_L_isAnswer_92 rec_26 v6_26
  else
    lE (m_k_L_isEnough pp gf a1 a4 v6_26) (fun t_86 =>
      if t_86 = 0 then
        m_k_L_isAnswer_92 rec_26 v6_26
      else
        m_k_L_isAnswer_97 rec_26 v6_26 0)
def m_k_L_isAnswer_72 (pp : pT) (gf : Nat → Option Nat) (a1 : Int32) (a4 : Int32) (rec_26 : Int32 → Int32 → r_k_L_isAnswer) (v6_26 : Int32) : r_k_L_isAnswer :=
  m_k_L_isAnswer_73 pp gf a1 a4 rec_26 v6_26 0
def m_k_L_isAnswer_26s (pp : pT) (gf : Nat → Option Nat) (a1 : Int32) (a2 : Int32) (a3 : Int32) (a4 : Int32) (rec_26 : Int32 → Int32 → r_k_L_isAnswer) (v5_26 : Int32) (v6_26 : Int32) : r_k_L_isAnswer :=
  if a4 ≤ v6_26 then
    v5_26
  else
    if v5_26 = 0 then
      v5_26
    else
      if (v6_26 &&& (a4 ^^^ (-1))) = 0 then
        if (v6_26 &&& a2) = a2 then
          if ((a4 &&& a3) &&& (v6_26 ^^^ (-1))) = 0 then
            m_k_L_isAnswer_73 pp gf a1 a4 rec_26 v6_26 1
          else
            m_k_L_isAnswer_72 pp gf a1 a4 rec_26 v6_26
        else
          m_k_L_isAnswer_72 pp gf a1 a4 rec_26 v6_26
      else
        m_k_L_isAnswer_72 pp gf a1 a4 rec_26 v6_26
def m_k_L_isAnswer_26 (pp : pT) (gf : Nat → Option Nat) (a1 : Int32) (a2 : Int32) (a3 : Int32) (a4 : Int32) : Nat → Int32 → Int32 → r_k_L_isAnswer
  | 0, _, _ => (0)
  | n + 1, v5_26, v6_26 => m_k_L_isAnswer_26s pp gf a1 a2 a3 a4 (fun v5_26 v6_26 => m_k_L_isAnswer_26 pp gf a1 a2 a3 a4 n v5_26 v6_26) v5_26 v6_26
theorem m_k_L_isAnswer_26_succ (pp : pT) (gf : Nat → Option Nat) (a1 : Int32) (a2 : Int32) (a3 : Int32) (a4 : Int32) (n : Nat) (v5_26 : Int32) (v6_26 : Int32) : m_k_L_isAnswer_26 pp gf a1 a2 a3 a4 (n + 1) v5_26 v6_26 = m_k_L_isAnswer_26s pp gf a1 a2 a3 a4 (m_k_L_isAnswer_26 pp gf a1 a2 a3 a4 n) v5_26 v6_26 := rfl
def m_k_L_isAnswer (pp : pT) (gf : Nat → Option Nat) (a1 : Int32) (a2 : Int32) (a3 : Int32) (a4 : Int32) : r_k_L_isAnswer :=
  if (a4 &&& a2) = a2 then
    lE (m_k_L_isClosed pp gf a1 a4) (fun t_12 =>
      if t_12 = 0 then
        0
      else
        m_k_L_isAnswer_26 pp gf a1 a2 a3 a4 wF 1 0)
  else
    0
abbrev r_k_L_costOf : Type := Int32
def m_k_L_costOf_56 (rec_6 : Int32 → Int32 → r_k_L_costOf) (v4_6 : Int32) (v5_6 : Int32) (s0_56 : Int32) : r_k_L_costOf :=
  rec_6 (v4_6 + s0_56) (v5_6 + 1)
def m_k_L_costOf_55 (rec_6 : Int32 → Int32 → r_k_L_costOf) (v4_6 : Int32) (v5_6 : Int32) : r_k_L_costOf :=
  m_k_L_costOf_56 rec_6 v4_6 v5_6 0
def m_k_L_costOf_6s (pp : pT) (gf : Nat → Option Nat) (a1 : Int32) (a2 : Int32) (a3 : Int32) (rec_6 : Int32 → Int32 → r_k_L_costOf) (v4_6 : Int32) (v5_6 : Int32) : r_k_L_costOf :=
  if a1 ≤ v5_6 then
    v4_6
  else
    oE (gf v5_6.toNatClampNeg) (
      0) (fun o_17 =>
      if ((pI pp o_17) (0 : Int32).toNatClampNeg) = 119 then
        if ((pI pp o_17) (3 : Int32).toNatClampNeg) = a3 then
          lE (m_k_L_isHeld pp o_17 a2) (fun t_40 =>
            if t_40 = 0 then
              m_k_L_costOf_55 rec_6 v4_6 v5_6
            else
              m_k_L_costOf_56 rec_6 v4_6 v5_6 ((pI pp o_17) (2 : Int32).toNatClampNeg))
        else
          m_k_L_costOf_55 rec_6 v4_6 v5_6
      else
        m_k_L_costOf_55 rec_6 v4_6 v5_6)
def m_k_L_costOf_6 (pp : pT) (gf : Nat → Option Nat) (a1 : Int32) (a2 : Int32) (a3 : Int32) : Nat → Int32 → Int32 → r_k_L_costOf
  | 0, _, _ => (0)
  | n + 1, v4_6, v5_6 => m_k_L_costOf_6s pp gf a1 a2 a3 (fun v4_6 v5_6 => m_k_L_costOf_6 pp gf a1 a2 a3 n v4_6 v5_6) v4_6 v5_6
theorem m_k_L_costOf_6_succ (pp : pT) (gf : Nat → Option Nat) (a1 : Int32) (a2 : Int32) (a3 : Int32) (n : Nat) (v4_6 : Int32) (v5_6 : Int32) : m_k_L_costOf_6 pp gf a1 a2 a3 (n + 1) v4_6 v5_6 = m_k_L_costOf_6s pp gf a1 a2 a3 (m_k_L_costOf_6 pp gf a1 a2 a3 n) v4_6 v5_6 := rfl
def m_k_L_costOf (pp : pT) (gf : Nat → Option Nat) (a1 : Int32) (a2 : Int32) (a3 : Int32) : r_k_L_costOf :=
  m_k_L_costOf_6 pp gf a1 a2 a3 wF 0 0
abbrev r_k_J6_lowestOneBit_0f7a4 : Type := Int32
def m_k_J6_lowestOneBit_0f7a4 (a1 : Int32) : r_k_J6_lowestOneBit_0f7a4 :=
  (a1 &&& (-a1))
abbrev r_k_L_isAhead : Type := Int32
def m_k_L_isAhead_3s (pp : pT) (gf : Nat → Option Nat) (a1 : Int32) (a2 : Int32) (a3 : Int32) (rec_3 : Int32 → r_k_L_isAhead) (v4_3 : Int32) : r_k_L_isAhead :=
  if v4_3 ≤ 0 then
    lE (m_k_J6_lowestOneBit_0f7a4 (a2 ^^^ a3)) (fun t_53 =>
      if (a2 &&& t_53) = 0 then
        0
      else
        1)
  else
    lE (m_k_L_costOf pp gf a1 a2 v4_3) (fun t_13 =>
      lE (m_k_L_costOf pp gf a1 a3 v4_3) (fun t_21 =>
        if (t_13 - t_21) = 0 then
          rec_3 (v4_3 + (-1))
        else
          if 0 ≤ (t_13 - t_21) then
            0
          else
            1))
def m_k_L_isAhead_3 (pp : pT) (gf : Nat → Option Nat) (a1 : Int32) (a2 : Int32) (a3 : Int32) : Nat → Int32 → r_k_L_isAhead
  | 0, _ => (0)
  | n + 1, v4_3 => m_k_L_isAhead_3s pp gf a1 a2 a3 (fun v4_3 => m_k_L_isAhead_3 pp gf a1 a2 a3 n v4_3) v4_3
theorem m_k_L_isAhead_3_succ (pp : pT) (gf : Nat → Option Nat) (a1 : Int32) (a2 : Int32) (a3 : Int32) (n : Nat) (v4_3 : Int32) : m_k_L_isAhead_3 pp gf a1 a2 a3 (n + 1) v4_3 = m_k_L_isAhead_3s pp gf a1 a2 a3 (m_k_L_isAhead_3 pp gf a1 a2 a3 n) v4_3 := rfl
def m_k_L_isAhead (pp : pT) (gf : Nat → Option Nat) (a1 : Int32) (a2 : Int32) (a3 : Int32) : r_k_L_isAhead :=
  m_k_L_isAhead_3 pp gf a1 a2 a3 wF 3
abbrev r_k_L_isReason : Type := Int32
def m_k_L_isReason_77 (a4 : Int32) (rec_3 : Int32 → r_k_L_isReason) (v6_3 : Int32) (s0_77 : Int32) : r_k_L_isReason :=
  if s0_77 = 0 then
    rec_3 (v6_3 + 1)
  else
    if a4 = v6_3 then
      1
    else
      0
def m_k_L_isReason_72 (a4 : Int32) (rec_3 : Int32 → r_k_L_isReason) (v6_3 : Int32) : r_k_L_isReason :=
  m_k_L_isReason_77 a4 rec_3 v6_3 1
def m_k_L_isReason_76 (a4 : Int32) (rec_3 : Int32 → r_k_L_isReason) (v6_3 : Int32) : r_k_L_isReason :=
  m_k_L_isReason_77 a4 rec_3 v6_3 0
def m_k_L_isReason_3s (pp : pT) (gf : Nat → Option Nat) (ef : Nat → Int32) (a1 : Int32) (a2 : Int32) (a3 : Int32) (a4 : Int32) (rec_3 : Int32 → r_k_L_isReason) (v6_3 : Int32) : r_k_L_isReason :=
  if a1 ≤ v6_3 then
    if a4 < 100 then
      0
    else
      if (ef (a4 - 100).toNatClampNeg) = a3 then
        1
      else
        0
  else
    oE (gf v6_3.toNatClampNeg) (
      0) (fun o_12 =>
      if ((pI pp o_12) (0 : Int32).toNatClampNeg) = 119 then
        m_k_L_isReason_76 a4 rec_3 v6_3
      else
        lE (m_k_L_isHeld pp o_12 a2) (fun t_35 =>
          if t_35 = 0 then
            m_k_L_isReason_76 a4 rec_3 v6_3
          else
            if (((((pI pp o_12) (1 : Int32).toNatClampNeg) &&& a2) >>> (a3 &&& 31)) &&& 1) = 1 then
              if ((pI pp o_12) (0 : Int32).toNatClampNeg) = 99 then
                m_k_L_isReason_72 a4 rec_3 v6_3
              else
                if (((pI pp o_12) (1 : Int32).toNatClampNeg) &&& a2) = ((1 : Int32) <<< (a3 &&& 31)) then
                  m_k_L_isReason_72 a4 rec_3 v6_3
                else
                  m_k_L_isReason_76 a4 rec_3 v6_3
            else
              m_k_L_isReason_76 a4 rec_3 v6_3))
def m_k_L_isReason_3 (pp : pT) (gf : Nat → Option Nat) (ef : Nat → Int32) (a1 : Int32) (a2 : Int32) (a3 : Int32) (a4 : Int32) : Nat → Int32 → r_k_L_isReason
  | 0, _ => (0)
  | n + 1, v6_3 => m_k_L_isReason_3s pp gf ef a1 a2 a3 a4 (fun v6_3 => m_k_L_isReason_3 pp gf ef a1 a2 a3 a4 n v6_3) v6_3
theorem m_k_L_isReason_3_succ (pp : pT) (gf : Nat → Option Nat) (ef : Nat → Int32) (a1 : Int32) (a2 : Int32) (a3 : Int32) (a4 : Int32) (n : Nat) (v6_3 : Int32) : m_k_L_isReason_3 pp gf ef a1 a2 a3 a4 (n + 1) v6_3 = m_k_L_isReason_3s pp gf ef a1 a2 a3 a4 (m_k_L_isReason_3 pp gf ef a1 a2 a3 a4 n) v6_3 := rfl
def m_k_L_isReason (pp : pT) (gf : Nat → Option Nat) (ef : Nat → Int32) (a1 : Int32) (a2 : Int32) (a3 : Int32) (a4 : Int32) : r_k_L_isReason :=
  m_k_L_isReason_3 pp gf ef a1 a2 a3 a4 wF 0
abbrev r_k_L_cell : Type := Int32
def m_k_L_cell_15 (a1 : Int32) (s0_15 : Int32) : r_k_L_cell :=
  (((((69069 * (s0_15 + (1009 * a1))) + 12345) ^^^ ((((69069 * (s0_15 + (1009 * a1))) + 12345).toUInt32 >>> ((13 : Int32).toUInt32 &&& Int32.toUInt32 31)).toInt32)) * 1103515245) ^^^ ((((((69069 * (s0_15 + (1009 * a1))) + 12345) ^^^ ((((69069 * (s0_15 + (1009 * a1))) + 12345).toUInt32 >>> ((13 : Int32).toUInt32 &&& Int32.toUInt32 31)).toInt32)) * 1103515245).toUInt32 >>> ((16 : Int32).toUInt32 &&& Int32.toUInt32 31)).toInt32))
def m_k_L_cell (L : Nat) (xs : Nat → Int32) (a1 : Int32) : r_k_L_cell :=
  if (Int32.ofNat L) ≤ a1 then
    m_k_L_cell_15 a1 0
  else
    m_k_L_cell_15 a1 (xs a1.toNatClampNeg)
abbrev r_k_L_pick : Type := Int32
def m_k_L_pick (L : Nat) (xs : Nat → Int32) (a1 : Int32) (a2 : Int32) : r_k_L_pick :=
  lE (m_k_L_cell L xs a1) (fun t_2 =>
    (((t_2.toUInt32 >>> ((8 : Int32).toUInt32 &&& Int32.toUInt32 31)).toInt32) - ((t_2.toUInt32 >>> ((8 : Int32).toUInt32 &&& Int32.toUInt32 31)).toInt32) / a2 * a2))
abbrev r_k_L_plain_0 : Type := Int32 × Int32 × Int32 × (Nat → Int32) × Int32 × Int32 × Int32
def m_k_L_plain_0 (pn : Int32) (pl : Nat → Int32) (cu : Int32) (ic : Int32) (kp : Int32) (a1 : Int32) : r_k_L_plain_0 :=
  lE (m_k_X10_addPredicate pn pl cu ic kp a1) (fun t_70 =>
    if t_70.1 = 0 then
      (0, t_70.2.1, t_70.2.2.1, t_70.2.2.2.1, t_70.2.2.2.2.1, t_70.2.2.2.2.2.1, t_70.2.2.2.2.2.2)
    else
      if t_70.1 = 2 then
        (2, 0, t_70.2.2.1, t_70.2.2.2.1, t_70.2.2.2.2.1, t_70.2.2.2.2.2.1, t_70.2.2.2.2.2.2)
      else
        (3, 0, t_70.2.2.1, t_70.2.2.2.1, t_70.2.2.2.2.1, t_70.2.2.2.2.2.1, t_70.2.2.2.2.2.2))
abbrev r_k_L_deed_0 : Type := Int32 × Int32 × (Nat → Int32) × Int32 × Int32 × Int32
def m_k_L_deed_0 (pn : Int32) (pl : Nat → Int32) (cu : Int32) (ic : Int32) (kp : Int32) (a1 : Int32) : r_k_L_deed_0 :=
  lE (m_k_L_plain_0 pn pl cu ic kp a1) (fun t_10 =>
    if t_10.1 = 0 then
      (t_10.2.1, t_10.2.2.1, t_10.2.2.2.1, t_10.2.2.2.2.1, t_10.2.2.2.2.2.1, t_10.2.2.2.2.2.2)
    else
      if t_10.1 = 2 then
        ((-2002), t_10.2.2.1, t_10.2.2.2.1, t_10.2.2.2.2.1, t_10.2.2.2.2.2.1, t_10.2.2.2.2.2.2)
      else
        ((-2003), t_10.2.2.1, t_10.2.2.2.1, t_10.2.2.2.2.1, t_10.2.2.2.2.2.1, t_10.2.2.2.2.2.2))
abbrev r_k_L_plain_1 : Type := Int32 × Int32 × Int32 × Int32 × Int32 × Int32 × Int32 × Int32 × Int32 × Int32 × Int32 × Int32 × Int32 × Int32 × Int32 × Int32
def m_k_L_plain_1 (rn : Int32) (cu : Int32) (ic : Int32) (kp : Int32) (a1 : Int32) : r_k_L_plain_1 :=
  lE (m_k_X10_addDisjunction rn cu ic kp a1) (fun t_76 =>
    if t_76.1 = 0 then
      if t_76.2.1 = 0 then
        (0, 0, t_76.2.2.1, t_76.2.2.2.1, t_76.2.2.2.2.1, t_76.2.2.2.2.2.1, t_76.2.2.2.2.2.2.1, t_76.2.2.2.2.2.2.2.1, t_76.2.2.2.2.2.2.2.2.1, t_76.2.2.2.2.2.2.2.2.2.1, t_76.2.2.2.2.2.2.2.2.2.2.1, t_76.2.2.2.2.2.2.2.2.2.2.2.1, t_76.2.2.2.2.2.2.2.2.2.2.2.2.1, t_76.2.2.2.2.2.2.2.2.2.2.2.2.2.1, t_76.2.2.2.2.2.2.2.2.2.2.2.2.2.2.1, t_76.2.2.2.2.2.2.2.2.2.2.2.2.2.2.2)
      else
        (0, 1, t_76.2.2.1, t_76.2.2.2.1, t_76.2.2.2.2.1, t_76.2.2.2.2.2.1, t_76.2.2.2.2.2.2.1, t_76.2.2.2.2.2.2.2.1, t_76.2.2.2.2.2.2.2.2.1, t_76.2.2.2.2.2.2.2.2.2.1, t_76.2.2.2.2.2.2.2.2.2.2.1, t_76.2.2.2.2.2.2.2.2.2.2.2.1, t_76.2.2.2.2.2.2.2.2.2.2.2.2.1, t_76.2.2.2.2.2.2.2.2.2.2.2.2.2.1, t_76.2.2.2.2.2.2.2.2.2.2.2.2.2.2.1, t_76.2.2.2.2.2.2.2.2.2.2.2.2.2.2.2)
    else
      if t_76.1 = 2 then
        (2, 0, 0, 0, 0, 0, 0, 0, 0, 0, 0, 0, t_76.2.2.2.2.2.2.2.2.2.2.2.2.1, t_76.2.2.2.2.2.2.2.2.2.2.2.2.2.1, t_76.2.2.2.2.2.2.2.2.2.2.2.2.2.2.1, t_76.2.2.2.2.2.2.2.2.2.2.2.2.2.2.2)
      else
        (3, 0, 0, 0, 0, 0, 0, 0, 0, 0, 0, 0, t_76.2.2.2.2.2.2.2.2.2.2.2.2.1, t_76.2.2.2.2.2.2.2.2.2.2.2.2.2.1, t_76.2.2.2.2.2.2.2.2.2.2.2.2.2.2.1, t_76.2.2.2.2.2.2.2.2.2.2.2.2.2.2.2))
abbrev r_k_L_deed_1 : Type := Int32 × Int32 × Int32 × Int32 × Int32 × Int32 × Int32 × Int32 × Int32 × Int32 × Int32 × Int32 × Int32 × Int32 × Int32
def m_k_L_deed_1 (rn : Int32) (cu : Int32) (ic : Int32) (kp : Int32) (a1 : Int32) : r_k_L_deed_1 :=
  lE (m_k_L_plain_1 rn cu ic kp a1) (fun t_10 =>
    if t_10.1 = 0 then
      if t_10.2.1 = 0 then
        (1, t_10.2.2.1, t_10.2.2.2.1, t_10.2.2.2.2.1, t_10.2.2.2.2.2.1, t_10.2.2.2.2.2.2.1, t_10.2.2.2.2.2.2.2.1, t_10.2.2.2.2.2.2.2.2.1, t_10.2.2.2.2.2.2.2.2.2.1, t_10.2.2.2.2.2.2.2.2.2.2.1, t_10.2.2.2.2.2.2.2.2.2.2.2.1, t_10.2.2.2.2.2.2.2.2.2.2.2.2.1, t_10.2.2.2.2.2.2.2.2.2.2.2.2.2.1, t_10.2.2.2.2.2.2.2.2.2.2.2.2.2.2.1, t_10.2.2.2.2.2.2.2.2.2.2.2.2.2.2.2)
      else
        (2, t_10.2.2.1, t_10.2.2.2.1, t_10.2.2.2.2.1, t_10.2.2.2.2.2.1, t_10.2.2.2.2.2.2.1, t_10.2.2.2.2.2.2.2.1, t_10.2.2.2.2.2.2.2.2.1, t_10.2.2.2.2.2.2.2.2.2.1, t_10.2.2.2.2.2.2.2.2.2.2.1, t_10.2.2.2.2.2.2.2.2.2.2.2.1, t_10.2.2.2.2.2.2.2.2.2.2.2.2.1, t_10.2.2.2.2.2.2.2.2.2.2.2.2.2.1, t_10.2.2.2.2.2.2.2.2.2.2.2.2.2.2.1, t_10.2.2.2.2.2.2.2.2.2.2.2.2.2.2.2)
    else
      if t_10.1 = 2 then
        (0, (-2002), 0, 0, 0, 0, 0, 0, 0, 0, 0, t_10.2.2.2.2.2.2.2.2.2.2.2.2.1, t_10.2.2.2.2.2.2.2.2.2.2.2.2.2.1, t_10.2.2.2.2.2.2.2.2.2.2.2.2.2.2.1, t_10.2.2.2.2.2.2.2.2.2.2.2.2.2.2.2)
      else
        (0, (-2003), 0, 0, 0, 0, 0, 0, 0, 0, 0, t_10.2.2.2.2.2.2.2.2.2.2.2.2.1, t_10.2.2.2.2.2.2.2.2.2.2.2.2.2.1, t_10.2.2.2.2.2.2.2.2.2.2.2.2.2.2.1, t_10.2.2.2.2.2.2.2.2.2.2.2.2.2.2.2))
abbrev r_k_L_plain_2 : Type := Int32 × Int32 × Int32 × Int32 × Int32 × Int32 × Int32 × Int32 × Int32 × Int32 × Int32 × Int32 × Int32 × Int32 × Int32 × Int32
def m_k_L_plain_2 (pn : Int32) (rn : Int32) (pl : Nat → Int32) (cu : Int32) (ic : Int32) (kp : Int32) (a1 : Int32) (a2 : Int32) (a3 : Int32) (a4 : Int32) : r_k_L_plain_2 :=
  lE (m_k_X10_addChoice pn rn pl cu ic kp a1 a2 a3 a4) (fun t_87 =>
    if t_87.1 = 0 then
      if t_87.2.1 = 0 then
        (0, 0, t_87.2.2.1, t_87.2.2.2.1, t_87.2.2.2.2.1, t_87.2.2.2.2.2.1, t_87.2.2.2.2.2.2.1, t_87.2.2.2.2.2.2.2.1, t_87.2.2.2.2.2.2.2.2.1, t_87.2.2.2.2.2.2.2.2.2.1, t_87.2.2.2.2.2.2.2.2.2.2.1, t_87.2.2.2.2.2.2.2.2.2.2.2.1, t_87.2.2.2.2.2.2.2.2.2.2.2.2.1, t_87.2.2.2.2.2.2.2.2.2.2.2.2.2.1, t_87.2.2.2.2.2.2.2.2.2.2.2.2.2.2.1, t_87.2.2.2.2.2.2.2.2.2.2.2.2.2.2.2)
      else
        (0, 1, t_87.2.2.1, t_87.2.2.2.1, t_87.2.2.2.2.1, t_87.2.2.2.2.2.1, t_87.2.2.2.2.2.2.1, t_87.2.2.2.2.2.2.2.1, t_87.2.2.2.2.2.2.2.2.1, t_87.2.2.2.2.2.2.2.2.2.1, t_87.2.2.2.2.2.2.2.2.2.2.1, t_87.2.2.2.2.2.2.2.2.2.2.2.1, t_87.2.2.2.2.2.2.2.2.2.2.2.2.1, t_87.2.2.2.2.2.2.2.2.2.2.2.2.2.1, t_87.2.2.2.2.2.2.2.2.2.2.2.2.2.2.1, t_87.2.2.2.2.2.2.2.2.2.2.2.2.2.2.2)
    else
      if t_87.1 = 2 then
        (2, 0, 0, 0, 0, 0, 0, 0, 0, 0, 0, 0, t_87.2.2.2.2.2.2.2.2.2.2.2.2.1, t_87.2.2.2.2.2.2.2.2.2.2.2.2.2.1, t_87.2.2.2.2.2.2.2.2.2.2.2.2.2.2.1, t_87.2.2.2.2.2.2.2.2.2.2.2.2.2.2.2)
      else
        (3, 0, 0, 0, 0, 0, 0, 0, 0, 0, 0, 0, t_87.2.2.2.2.2.2.2.2.2.2.2.2.1, t_87.2.2.2.2.2.2.2.2.2.2.2.2.2.1, t_87.2.2.2.2.2.2.2.2.2.2.2.2.2.2.1, t_87.2.2.2.2.2.2.2.2.2.2.2.2.2.2.2))
abbrev r_k_L_deed_2 : Type := Int32 × Int32 × Int32 × Int32 × Int32 × Int32 × Int32 × Int32 × Int32 × Int32 × Int32 × Int32 × Int32 × Int32 × Int32
def m_k_L_deed_2 (pn : Int32) (rn : Int32) (pl : Nat → Int32) (cu : Int32) (ic : Int32) (kp : Int32) (a1 : Int32) (a2 : Int32) (a3 : Int32) (a4 : Int32) : r_k_L_deed_2 :=
  lE (m_k_L_plain_2 pn rn pl cu ic kp a1 a2 a3 a4) (fun t_10 =>
    if t_10.1 = 0 then
      if t_10.2.1 = 0 then
        (1, t_10.2.2.1, t_10.2.2.2.1, t_10.2.2.2.2.1, t_10.2.2.2.2.2.1, t_10.2.2.2.2.2.2.1, t_10.2.2.2.2.2.2.2.1, t_10.2.2.2.2.2.2.2.2.1, t_10.2.2.2.2.2.2.2.2.2.1, t_10.2.2.2.2.2.2.2.2.2.2.1, t_10.2.2.2.2.2.2.2.2.2.2.2.1, t_10.2.2.2.2.2.2.2.2.2.2.2.2.1, t_10.2.2.2.2.2.2.2.2.2.2.2.2.2.1, t_10.2.2.2.2.2.2.2.2.2.2.2.2.2.2.1, t_10.2.2.2.2.2.2.2.2.2.2.2.2.2.2.2)
      else
        (2, t_10.2.2.1, t_10.2.2.2.1, t_10.2.2.2.2.1, t_10.2.2.2.2.2.1, t_10.2.2.2.2.2.2.1, t_10.2.2.2.2.2.2.2.1, t_10.2.2.2.2.2.2.2.2.1, t_10.2.2.2.2.2.2.2.2.2.1, t_10.2.2.2.2.2.2.2.2.2.2.1, t_10.2.2.2.2.2.2.2.2.2.2.2.1, t_10.2.2.2.2.2.2.2.2.2.2.2.2.1, t_10.2.2.2.2.2.2.2.2.2.2.2.2.2.1, t_10.2.2.2.2.2.2.2.2.2.2.2.2.2.2.1, t_10.2.2.2.2.2.2.2.2.2.2.2.2.2.2.2)
    else
      if t_10.1 = 2 then
        (0, (-2002), 0, 0, 0, 0, 0, 0, 0, 0, 0, t_10.2.2.2.2.2.2.2.2.2.2.2.2.1, t_10.2.2.2.2.2.2.2.2.2.2.2.2.2.1, t_10.2.2.2.2.2.2.2.2.2.2.2.2.2.2.1, t_10.2.2.2.2.2.2.2.2.2.2.2.2.2.2.2)
      else
        (0, (-2003), 0, 0, 0, 0, 0, 0, 0, 0, 0, t_10.2.2.2.2.2.2.2.2.2.2.2.2.1, t_10.2.2.2.2.2.2.2.2.2.2.2.2.2.1, t_10.2.2.2.2.2.2.2.2.2.2.2.2.2.2.1, t_10.2.2.2.2.2.2.2.2.2.2.2.2.2.2.2))
abbrev r_k_L_plain_3 : Type := Int32 × Int32 × Int32 × Int32 × Int32 × Int32 × Int32 × Int32 × Int32 × Int32 × Int32 × Int32 × Int32 × Int32 × Int32 × Int32
def m_k_L_plain_3 (rn : Int32) (cu : Int32) (ic : Int32) (kp : Int32) (a1 : Int32) (a2 : Int32) (a3 : Int32) : r_k_L_plain_3 :=
  lE (m_k_X10_addWeak rn cu ic kp a1 a2 a3) (fun t_96 =>
    if t_96.1 = 0 then
      if t_96.2.1 = 0 then
        (0, 0, t_96.2.2.1, t_96.2.2.2.1, t_96.2.2.2.2.1, t_96.2.2.2.2.2.1, t_96.2.2.2.2.2.2.1, t_96.2.2.2.2.2.2.2.1, t_96.2.2.2.2.2.2.2.2.1, t_96.2.2.2.2.2.2.2.2.2.1, t_96.2.2.2.2.2.2.2.2.2.2.1, t_96.2.2.2.2.2.2.2.2.2.2.2.1, t_96.2.2.2.2.2.2.2.2.2.2.2.2.1, t_96.2.2.2.2.2.2.2.2.2.2.2.2.2.1, t_96.2.2.2.2.2.2.2.2.2.2.2.2.2.2.1, t_96.2.2.2.2.2.2.2.2.2.2.2.2.2.2.2)
      else
        (0, 1, t_96.2.2.1, t_96.2.2.2.1, t_96.2.2.2.2.1, t_96.2.2.2.2.2.1, t_96.2.2.2.2.2.2.1, t_96.2.2.2.2.2.2.2.1, t_96.2.2.2.2.2.2.2.2.1, t_96.2.2.2.2.2.2.2.2.2.1, t_96.2.2.2.2.2.2.2.2.2.2.1, t_96.2.2.2.2.2.2.2.2.2.2.2.1, t_96.2.2.2.2.2.2.2.2.2.2.2.2.1, t_96.2.2.2.2.2.2.2.2.2.2.2.2.2.1, t_96.2.2.2.2.2.2.2.2.2.2.2.2.2.2.1, t_96.2.2.2.2.2.2.2.2.2.2.2.2.2.2.2)
    else
      if t_96.1 = 2 then
        (2, 0, 0, 0, 0, 0, 0, 0, 0, 0, 0, 0, t_96.2.2.2.2.2.2.2.2.2.2.2.2.1, t_96.2.2.2.2.2.2.2.2.2.2.2.2.2.1, t_96.2.2.2.2.2.2.2.2.2.2.2.2.2.2.1, t_96.2.2.2.2.2.2.2.2.2.2.2.2.2.2.2)
      else
        (3, 0, 0, 0, 0, 0, 0, 0, 0, 0, 0, 0, t_96.2.2.2.2.2.2.2.2.2.2.2.2.1, t_96.2.2.2.2.2.2.2.2.2.2.2.2.2.1, t_96.2.2.2.2.2.2.2.2.2.2.2.2.2.2.1, t_96.2.2.2.2.2.2.2.2.2.2.2.2.2.2.2))
abbrev r_k_L_deed_3 : Type := Int32 × Int32 × Int32 × Int32 × Int32 × Int32 × Int32 × Int32 × Int32 × Int32 × Int32 × Int32 × Int32 × Int32 × Int32
def m_k_L_deed_3 (rn : Int32) (cu : Int32) (ic : Int32) (kp : Int32) (a1 : Int32) (a2 : Int32) (a3 : Int32) : r_k_L_deed_3 :=
  lE (m_k_L_plain_3 rn cu ic kp a1 a2 a3) (fun t_10 =>
    if t_10.1 = 0 then
      if t_10.2.1 = 0 then
        (1, t_10.2.2.1, t_10.2.2.2.1, t_10.2.2.2.2.1, t_10.2.2.2.2.2.1, t_10.2.2.2.2.2.2.1, t_10.2.2.2.2.2.2.2.1, t_10.2.2.2.2.2.2.2.2.1, t_10.2.2.2.2.2.2.2.2.2.1, t_10.2.2.2.2.2.2.2.2.2.2.1, t_10.2.2.2.2.2.2.2.2.2.2.2.1, t_10.2.2.2.2.2.2.2.2.2.2.2.2.1, t_10.2.2.2.2.2.2.2.2.2.2.2.2.2.1, t_10.2.2.2.2.2.2.2.2.2.2.2.2.2.2.1, t_10.2.2.2.2.2.2.2.2.2.2.2.2.2.2.2)
      else
        (2, t_10.2.2.1, t_10.2.2.2.1, t_10.2.2.2.2.1, t_10.2.2.2.2.2.1, t_10.2.2.2.2.2.2.1, t_10.2.2.2.2.2.2.2.1, t_10.2.2.2.2.2.2.2.2.1, t_10.2.2.2.2.2.2.2.2.2.1, t_10.2.2.2.2.2.2.2.2.2.2.1, t_10.2.2.2.2.2.2.2.2.2.2.2.1, t_10.2.2.2.2.2.2.2.2.2.2.2.2.1, t_10.2.2.2.2.2.2.2.2.2.2.2.2.2.1, t_10.2.2.2.2.2.2.2.2.2.2.2.2.2.2.1, t_10.2.2.2.2.2.2.2.2.2.2.2.2.2.2.2)
    else
      if t_10.1 = 2 then
        (0, (-2002), 0, 0, 0, 0, 0, 0, 0, 0, 0, t_10.2.2.2.2.2.2.2.2.2.2.2.2.1, t_10.2.2.2.2.2.2.2.2.2.2.2.2.2.1, t_10.2.2.2.2.2.2.2.2.2.2.2.2.2.2.1, t_10.2.2.2.2.2.2.2.2.2.2.2.2.2.2.2)
      else
        (0, (-2003), 0, 0, 0, 0, 0, 0, 0, 0, 0, t_10.2.2.2.2.2.2.2.2.2.2.2.2.1, t_10.2.2.2.2.2.2.2.2.2.2.2.2.2.1, t_10.2.2.2.2.2.2.2.2.2.2.2.2.2.2.1, t_10.2.2.2.2.2.2.2.2.2.2.2.2.2.2.2))
abbrev r_k_L_plain_9 : Type := Int32 × Int32 × Int32 × Int32 × Int32 × (Nat → Int32) × (Nat → Int32) × Int32
def m_k_L_plain_9 (pn : Int32) (en : Int32) (pl : Nat → Int32) (ea : Nat → Int32) (es : Nat → Int32) (cu : Int32) (ic : Int32) (kp : Int32) (a1 : Int32) (a2 : Int32) (a3 : Int32) : r_k_L_plain_9 :=
  lE (m_k_X10_addExternal pn en pl ea es cu ic kp a1 a2 a3) (fun t_169 =>
    if t_169.1 = 0 then
      (0, t_169.2.1, t_169.2.2.1, t_169.2.2.2.1, t_169.2.2.2.2.1, t_169.2.2.2.2.2.1, t_169.2.2.2.2.2.2.1, t_169.2.2.2.2.2.2.2)
    else
      if t_169.1 = 1 then
        (1, 0, t_169.2.2.1, t_169.2.2.2.1, t_169.2.2.2.2.1, t_169.2.2.2.2.2.1, t_169.2.2.2.2.2.2.1, t_169.2.2.2.2.2.2.2)
      else
        if t_169.1 = 2 then
          (2, 0, t_169.2.2.1, t_169.2.2.2.1, t_169.2.2.2.2.1, t_169.2.2.2.2.2.1, t_169.2.2.2.2.2.2.1, t_169.2.2.2.2.2.2.2)
        else
          (3, 0, t_169.2.2.1, t_169.2.2.2.1, t_169.2.2.2.2.1, t_169.2.2.2.2.2.1, t_169.2.2.2.2.2.2.1, t_169.2.2.2.2.2.2.2))
abbrev r_k_L_deed_9 : Type := Int32 × Int32 × Int32 × Int32 × (Nat → Int32) × (Nat → Int32) × Int32
def m_k_L_deed_9 (pn : Int32) (en : Int32) (pl : Nat → Int32) (ea : Nat → Int32) (es : Nat → Int32) (cu : Int32) (ic : Int32) (kp : Int32) (a1 : Int32) (a2 : Int32) (a3 : Int32) : r_k_L_deed_9 :=
  lE (m_k_L_plain_9 pn en pl ea es cu ic kp a1 a2 a3) (fun t_10 =>
    if t_10.1 = 0 then
      (t_10.2.1, t_10.2.2.1, t_10.2.2.2.1, t_10.2.2.2.2.1, t_10.2.2.2.2.2.1, t_10.2.2.2.2.2.2.1, t_10.2.2.2.2.2.2.2)
    else
      if t_10.1 = 1 then
        ((-2001), t_10.2.2.1, t_10.2.2.2.1, t_10.2.2.2.2.1, t_10.2.2.2.2.2.1, t_10.2.2.2.2.2.2.1, t_10.2.2.2.2.2.2.2)
      else
        if t_10.1 = 2 then
          ((-2002), t_10.2.2.1, t_10.2.2.2.1, t_10.2.2.2.2.1, t_10.2.2.2.2.2.1, t_10.2.2.2.2.2.2.1, t_10.2.2.2.2.2.2.2)
        else
          ((-2003), t_10.2.2.1, t_10.2.2.2.1, t_10.2.2.2.2.1, t_10.2.2.2.2.2.1, t_10.2.2.2.2.2.2.1, t_10.2.2.2.2.2.2.2))
abbrev r_k_L_plain_11 : Type := Int32 × Int32 × (Nat → Int64) × (Nat → Int64) × Int32
def m_k_L_plain_11_197 (pn : Int32) (pl : Nat → Int32) (ai : Nat → Int64) (ao : Nat → Int64) (kp : Int32) (a1 : Int32) (a2 : Int32) (a3 : Int32) (s0_197 : Int32) : r_k_L_plain_11 :=
  lE (m_k_X10_assume pn pl ai ao kp a1 a2 a3 s0_197) (fun t_197 =>
    if t_197.1 = 0 then
      (0, t_197.2.1, t_197.2.2.1, t_197.2.2.2.1, t_197.2.2.2.2)
    else
      if t_197.1 = 1 then
        (1, 0, t_197.2.2.1, t_197.2.2.2.1, t_197.2.2.2.2)
      else
        (2, 0, t_197.2.2.1, t_197.2.2.2.1, t_197.2.2.2.2))
def m_k_L_plain_11 (pn : Int32) (pl : Nat → Int32) (ai : Nat → Int64) (ao : Nat → Int64) (kp : Int32) (a1 : Int32) (a2 : Int32) (a3 : Int32) (a4 : Int32) : r_k_L_plain_11 :=
  if a4 = 1 then
    m_k_L_plain_11_197 pn pl ai ao kp a1 a2 a3 1
  else
    m_k_L_plain_11_197 pn pl ai ao kp a1 a2 a3 0
abbrev r_k_L_deed_11 : Type := Int32 × (Nat → Int64) × (Nat → Int64) × Int32
def m_k_L_deed_11 (pn : Int32) (pl : Nat → Int32) (ai : Nat → Int64) (ao : Nat → Int64) (kp : Int32) (a1 : Int32) (a2 : Int32) (a3 : Int32) (a4 : Int32) : r_k_L_deed_11 :=
  lE (m_k_L_plain_11 pn pl ai ao kp a1 a2 a3 a4) (fun t_10 =>
    if t_10.1 = 0 then
      (t_10.2.1, t_10.2.2.1, t_10.2.2.2.1, t_10.2.2.2.2)
    else
      if t_10.1 = 1 then
        ((-2001), t_10.2.2.1, t_10.2.2.2.1, t_10.2.2.2.2)
      else
        ((-2002), t_10.2.2.1, t_10.2.2.2.1, t_10.2.2.2.2))
abbrev r_k_L_plain_12 : Type := Int32 × (Nat → Int64) × (Nat → Int64) × Int32
def m_k_L_plain_12 (ai : Nat → Int64) (ao : Nat → Int64) : r_k_L_plain_12 :=
  lE (m_k_X10_dropAssumptions ai ao) (fun t_202 =>
    (t_202.1, t_202.2.1, t_202.2.2.1, t_202.2.2.2))
abbrev r_k_L_deed_12 : Type := Int32 × (Nat → Int64) × (Nat → Int64) × Int32
def m_k_L_deed_12 (ai : Nat → Int64) (ao : Nat → Int64) : r_k_L_deed_12 :=
  lE (m_k_L_plain_12 ai ao) (fun t_10 =>
    (t_10.1, t_10.2.1, t_10.2.2.1, t_10.2.2.2))
abbrev r_k_L_plain_13 : Type := Int32 × Int32 × (Nat → Int64) × (Nat → Int64) × (Nat → Int32) × (Nat → Int32) × (Nat → Int32) × (Nat → Int32) × (Nat → Int32) × (Nat → Int32) × Int32 × Int32 × Int32 × Int32 × Int32 × Int32 × Int32 × Int32 × Int32 × Int32 × (Nat → Int32) × (Nat → Int32) × (Nat → Int32) × (Nat → Int32) × (Nat → Int32) × (Nat → Int32) × Int32 × (Nat → Int32) × (Nat → Int32) × (Nat → Int32) × (Nat → Int32) × (Nat → Int32) × (Nat → Int32) × (Nat → Int32) × (Nat → Int32) × (Nat → Int32) × (Nat → Int32) × Int32 × Int32 × (Nat → Int32) × (Nat → Int64) × Int32 × Int32 × Int32 × Int32 × Int32 × Int32 × Int32 × Int32 × Int32 × Int32
def m_k_L_plain_13 (pp : pT) (rn : Int32) (tn : Int32) (en : Int32) (rf : Nat → Option Nat) (tp : Nat → Int32) (tq : Nat → Int32) (ea : Nat → Int32) (es : Nat → Int32) (hn : Int32) (kn : Int32) (on : Int32) (cu : Int32) (pu : Int32) (gw : Int32) (b_1 : Int32) (b_2 : Int32) (b_3 : Int32) (b_p : Int32) (su : Nat → Int64) (po : Nat → Int64) (hds : Nat → Int32) (kr : Nat → Int32) (kv : Nat → Int32) (kb : Nat → Int32) (oa : Nat → Int32) (ob : Nat → Int32) (an : Int32) (ch : Int32) (cg : Int32) (fb : Int32) (mh : Int32) (ml : Int32) (ih : Int32) (lb : Int32) (ic : Int32) (cn : Int32) (c1 : Nat → Int32) (c2 : Nat → Int32) (c3 : Nat → Int32) (c4 : Nat → Int32) (c5 : Nat → Int32) (c6 : Nat → Int32) (wn : Int32) (w1 : Nat → Int32) (w2 : Nat → Int32) (w3 : Nat → Int32) (w4 : Nat → Int32) (w5 : Nat → Int32) (w6 : Nat → Int32) (ac : Nat → Int32) (obi : Nat → Int32) (sc : Nat → Int32) (br : Nat → Int32) (ai : Nat → Int64) (ao : Nat → Int64) (nn : Int32) (kp : Int32) (se : Nat → Int32) (co : Nat → Int64) : r_k_L_plain_13 :=
  lE (m_k_X10_walk pp rn tn en rf tp tq ea es hn kn on cu pu gw b_1 b_2 b_3 b_p su po hds kr kv kb oa ob an ch cg fb mh ml ih lb ic cn c1 c2 c3 c4 c5 c6 wn w1 w2 w3 w4 w5 w6 ac obi sc br ai ao nn kp se co) (fun t_207 =>
    if t_207.1 = 0 then
      (0, t_207.2.1, t_207.2.2.1, t_207.2.2.2.1, t_207.2.2.2.2.1, t_207.2.2.2.2.2.1, t_207.2.2.2.2.2.2.1, t_207.2.2.2.2.2.2.2.1, t_207.2.2.2.2.2.2.2.2.1, t_207.2.2.2.2.2.2.2.2.2.1, t_207.2.2.2.2.2.2.2.2.2.2.1, t_207.2.2.2.2.2.2.2.2.2.2.2.1, t_207.2.2.2.2.2.2.2.2.2.2.2.2.1, t_207.2.2.2.2.2.2.2.2.2.2.2.2.2.1, t_207.2.2.2.2.2.2.2.2.2.2.2.2.2.2.1, t_207.2.2.2.2.2.2.2.2.2.2.2.2.2.2.2.1, t_207.2.2.2.2.2.2.2.2.2.2.2.2.2.2.2.2.1, t_207.2.2.2.2.2.2.2.2.2.2.2.2.2.2.2.2.2.1, t_207.2.2.2.2.2.2.2.2.2.2.2.2.2.2.2.2.2.2.1, t_207.2.2.2.2.2.2.2.2.2.2.2.2.2.2.2.2.2.2.2.1, t_207.2.2.2.2.2.2.2.2.2.2.2.2.2.2.2.2.2.2.2.2.1, t_207.2.2.2.2.2.2.2.2.2.2.2.2.2.2.2.2.2.2.2.2.2.1, t_207.2.2.2.2.2.2.2.2.2.2.2.2.2.2.2.2.2.2.2.2.2.2.1, t_207.2.2.2.2.2.2.2.2.2.2.2.2.2.2.2.2.2.2.2.2.2.2.2.1, t_207.2.2.2.2.2.2.2.2.2.2.2.2.2.2.2.2.2.2.2.2.2.2.2.2.1, t_207.2.2.2.2.2.2.2.2.2.2.2.2.2.2.2.2.2.2.2.2.2.2.2.2.2.1, t_207.2.2.2.2.2.2.2.2.2.2.2.2.2.2.2.2.2.2.2.2.2.2.2.2.2.2.1, t_207.2.2.2.2.2.2.2.2.2.2.2.2.2.2.2.2.2.2.2.2.2.2.2.2.2.2.2.1, t_207.2.2.2.2.2.2.2.2.2.2.2.2.2.2.2.2.2.2.2.2.2.2.2.2.2.2.2.2.1, t_207.2.2.2.2.2.2.2.2.2.2.2.2.2.2.2.2.2.2.2.2.2.2.2.2.2.2.2.2.2.1, t_207.2.2.2.2.2.2.2.2.2.2.2.2.2.2.2.2.2.2.2.2.2.2.2.2.2.2.2.2.2.2.1, t_207.2.2.2.2.2.2.2.2.2.2.2.2.2.2.2.2.2.2.2.2.2.2.2.2.2.2.2.2.2.2.2.1, t_207.2.2.2.2.2.2.2.2.2.2.2.2.2.2.2.2.2.2.2.2.2.2.2.2.2.2.2.2.2.2.2.2.1, t_207.2.2.2.2.2.2.2.2.2.2.2.2.2.2.2.2.2.2.2.2.2.2.2.2.2.2.2.2.2.2.2.2.2.1, t_207.2.2.2.2.2.2.2.2.2.2.2.2.2.2.2.2.2.2.2.2.2.2.2.2.2.2.2.2.2.2.2.2.2.2.1, t_207.2.2.2.2.2.2.2.2.2.2.2.2.2.2.2.2.2.2.2.2.2.2.2.2.2.2.2.2.2.2.2.2.2.2.2.1, t_207.2.2.2.2.2.2.2.2.2.2.2.2.2.2.2.2.2.2.2.2.2.2.2.2.2.2.2.2.2.2.2.2.2.2.2.2.1, t_207.2.2.2.2.2.2.2.2.2.2.2.2.2.2.2.2.2.2.2.2.2.2.2.2.2.2.2.2.2.2.2.2.2.2.2.2.2.1, t_207.2.2.2.2.2.2.2.2.2.2.2.2.2.2.2.2.2.2.2.2.2.2.2.2.2.2.2.2.2.2.2.2.2.2.2.2.2.2.1, t_207.2.2.2.2.2.2.2.2.2.2.2.2.2.2.2.2.2.2.2.2.2.2.2.2.2.2.2.2.2.2.2.2.2.2.2.2.2.2.2.1, t_207.2.2.2.2.2.2.2.2.2.2.2.2.2.2.2.2.2.2.2.2.2.2.2.2.2.2.2.2.2.2.2.2.2.2.2.2.2.2.2.2.1, t_207.2.2.2.2.2.2.2.2.2.2.2.2.2.2.2.2.2.2.2.2.2.2.2.2.2.2.2.2.2.2.2.2.2.2.2.2.2.2.2.2.2.1, t_207.2.2.2.2.2.2.2.2.2.2.2.2.2.2.2.2.2.2.2.2.2.2.2.2.2.2.2.2.2.2.2.2.2.2.2.2.2.2.2.2.2.2.1, t_207.2.2.2.2.2.2.2.2.2.2.2.2.2.2.2.2.2.2.2.2.2.2.2.2.2.2.2.2.2.2.2.2.2.2.2.2.2.2.2.2.2.2.2.1, t_207.2.2.2.2.2.2.2.2.2.2.2.2.2.2.2.2.2.2.2.2.2.2.2.2.2.2.2.2.2.2.2.2.2.2.2.2.2.2.2.2.2.2.2.2.1, t_207.2.2.2.2.2.2.2.2.2.2.2.2.2.2.2.2.2.2.2.2.2.2.2.2.2.2.2.2.2.2.2.2.2.2.2.2.2.2.2.2.2.2.2.2.2.1, t_207.2.2.2.2.2.2.2.2.2.2.2.2.2.2.2.2.2.2.2.2.2.2.2.2.2.2.2.2.2.2.2.2.2.2.2.2.2.2.2.2.2.2.2.2.2.2.1, t_207.2.2.2.2.2.2.2.2.2.2.2.2.2.2.2.2.2.2.2.2.2.2.2.2.2.2.2.2.2.2.2.2.2.2.2.2.2.2.2.2.2.2.2.2.2.2.2.1, t_207.2.2.2.2.2.2.2.2.2.2.2.2.2.2.2.2.2.2.2.2.2.2.2.2.2.2.2.2.2.2.2.2.2.2.2.2.2.2.2.2.2.2.2.2.2.2.2.2.1, t_207.2.2.2.2.2.2.2.2.2.2.2.2.2.2.2.2.2.2.2.2.2.2.2.2.2.2.2.2.2.2.2.2.2.2.2.2.2.2.2.2.2.2.2.2.2.2.2.2.2.1, t_207.2.2.2.2.2.2.2.2.2.2.2.2.2.2.2.2.2.2.2.2.2.2.2.2.2.2.2.2.2.2.2.2.2.2.2.2.2.2.2.2.2.2.2.2.2.2.2.2.2.2)
    else
      (4, 0, t_207.2.2.1, t_207.2.2.2.1, t_207.2.2.2.2.1, t_207.2.2.2.2.2.1, t_207.2.2.2.2.2.2.1, t_207.2.2.2.2.2.2.2.1, t_207.2.2.2.2.2.2.2.2.1, t_207.2.2.2.2.2.2.2.2.2.1, t_207.2.2.2.2.2.2.2.2.2.2.1, t_207.2.2.2.2.2.2.2.2.2.2.2.1, t_207.2.2.2.2.2.2.2.2.2.2.2.2.1, t_207.2.2.2.2.2.2.2.2.2.2.2.2.2.1, t_207.2.2.2.2.2.2.2.2.2.2.2.2.2.2.1, t_207.2.2.2.2.2.2.2.2.2.2.2.2.2.2.2.1, t_207.2.2.2.2.2.2.2.2.2.2.2.2.2.2.2.2.1, t_207.2.2.2.2.2.2.2.2.2.2.2.2.2.2.2.2.2.1, t_207.2.2.2.2.2.2.2.2.2.2.2.2.2.2.2.2.2.2.1, t_207.2.2.2.2.2.2.2.2.2.2.2.2.2.2.2.2.2.2.2.1, t_207.2.2.2.2.2.2.2.2.2.2.2.2.2.2.2.2.2.2.2.2.1, t_207.2.2.2.2.2.2.2.2.2.2.2.2.2.2.2.2.2.2.2.2.2.1, t_207.2.2.2.2.2.2.2.2.2.2.2.2.2.2.2.2.2.2.2.2.2.2.1, t_207.2.2.2.2.2.2.2.2.2.2.2.2.2.2.2.2.2.2.2.2.2.2.2.1, t_207.2.2.2.2.2.2.2.2.2.2.2.2.2.2.2.2.2.2.2.2.2.2.2.2.1, t_207.2.2.2.2.2.2.2.2.2.2.2.2.2.2.2.2.2.2.2.2.2.2.2.2.2.1, t_207.2.2.2.2.2.2.2.2.2.2.2.2.2.2.2.2.2.2.2.2.2.2.2.2.2.2.1, t_207.2.2.2.2.2.2.2.2.2.2.2.2.2.2.2.2.2.2.2.2.2.2.2.2.2.2.2.1, t_207.2.2.2.2.2.2.2.2.2.2.2.2.2.2.2.2.2.2.2.2.2.2.2.2.2.2.2.2.1, t_207.2.2.2.2.2.2.2.2.2.2.2.2.2.2.2.2.2.2.2.2.2.2.2.2.2.2.2.2.2.1, t_207.2.2.2.2.2.2.2.2.2.2.2.2.2.2.2.2.2.2.2.2.2.2.2.2.2.2.2.2.2.2.1, t_207.2.2.2.2.2.2.2.2.2.2.2.2.2.2.2.2.2.2.2.2.2.2.2.2.2.2.2.2.2.2.2.1, t_207.2.2.2.2.2.2.2.2.2.2.2.2.2.2.2.2.2.2.2.2.2.2.2.2.2.2.2.2.2.2.2.2.1, t_207.2.2.2.2.2.2.2.2.2.2.2.2.2.2.2.2.2.2.2.2.2.2.2.2.2.2.2.2.2.2.2.2.2.1, t_207.2.2.2.2.2.2.2.2.2.2.2.2.2.2.2.2.2.2.2.2.2.2.2.2.2.2.2.2.2.2.2.2.2.2.1, t_207.2.2.2.2.2.2.2.2.2.2.2.2.2.2.2.2.2.2.2.2.2.2.2.2.2.2.2.2.2.2.2.2.2.2.2.1, t_207.2.2.2.2.2.2.2.2.2.2.2.2.2.2.2.2.2.2.2.2.2.2.2.2.2.2.2.2.2.2.2.2.2.2.2.2.1, t_207.2.2.2.2.2.2.2.2.2.2.2.2.2.2.2.2.2.2.2.2.2.2.2.2.2.2.2.2.2.2.2.2.2.2.2.2.2.1, t_207.2.2.2.2.2.2.2.2.2.2.2.2.2.2.2.2.2.2.2.2.2.2.2.2.2.2.2.2.2.2.2.2.2.2.2.2.2.2.1, t_207.2.2.2.2.2.2.2.2.2.2.2.2.2.2.2.2.2.2.2.2.2.2.2.2.2.2.2.2.2.2.2.2.2.2.2.2.2.2.2.1, t_207.2.2.2.2.2.2.2.2.2.2.2.2.2.2.2.2.2.2.2.2.2.2.2.2.2.2.2.2.2.2.2.2.2.2.2.2.2.2.2.2.1, t_207.2.2.2.2.2.2.2.2.2.2.2.2.2.2.2.2.2.2.2.2.2.2.2.2.2.2.2.2.2.2.2.2.2.2.2.2.2.2.2.2.2.1, t_207.2.2.2.2.2.2.2.2.2.2.2.2.2.2.2.2.2.2.2.2.2.2.2.2.2.2.2.2.2.2.2.2.2.2.2.2.2.2.2.2.2.2.1, t_207.2.2.2.2.2.2.2.2.2.2.2.2.2.2.2.2.2.2.2.2.2.2.2.2.2.2.2.2.2.2.2.2.2.2.2.2.2.2.2.2.2.2.2.1, t_207.2.2.2.2.2.2.2.2.2.2.2.2.2.2.2.2.2.2.2.2.2.2.2.2.2.2.2.2.2.2.2.2.2.2.2.2.2.2.2.2.2.2.2.2.1, t_207.2.2.2.2.2.2.2.2.2.2.2.2.2.2.2.2.2.2.2.2.2.2.2.2.2.2.2.2.2.2.2.2.2.2.2.2.2.2.2.2.2.2.2.2.2.1, t_207.2.2.2.2.2.2.2.2.2.2.2.2.2.2.2.2.2.2.2.2.2.2.2.2.2.2.2.2.2.2.2.2.2.2.2.2.2.2.2.2.2.2.2.2.2.2.1, t_207.2.2.2.2.2.2.2.2.2.2.2.2.2.2.2.2.2.2.2.2.2.2.2.2.2.2.2.2.2.2.2.2.2.2.2.2.2.2.2.2.2.2.2.2.2.2.2.1, t_207.2.2.2.2.2.2.2.2.2.2.2.2.2.2.2.2.2.2.2.2.2.2.2.2.2.2.2.2.2.2.2.2.2.2.2.2.2.2.2.2.2.2.2.2.2.2.2.2.1, t_207.2.2.2.2.2.2.2.2.2.2.2.2.2.2.2.2.2.2.2.2.2.2.2.2.2.2.2.2.2.2.2.2.2.2.2.2.2.2.2.2.2.2.2.2.2.2.2.2.2.1, t_207.2.2.2.2.2.2.2.2.2.2.2.2.2.2.2.2.2.2.2.2.2.2.2.2.2.2.2.2.2.2.2.2.2.2.2.2.2.2.2.2.2.2.2.2.2.2.2.2.2.2))
abbrev r_k_L_deed_13 : Type := Int32 × (Nat → Int64) × (Nat → Int64) × (Nat → Int32) × (Nat → Int32) × (Nat → Int32) × (Nat → Int32) × (Nat → Int32) × (Nat → Int32) × Int32 × Int32 × Int32 × Int32 × Int32 × Int32 × Int32 × Int32 × Int32 × Int32 × (Nat → Int32) × (Nat → Int32) × (Nat → Int32) × (Nat → Int32) × (Nat → Int32) × (Nat → Int32) × Int32 × (Nat → Int32) × (Nat → Int32) × (Nat → Int32) × (Nat → Int32) × (Nat → Int32) × (Nat → Int32) × (Nat → Int32) × (Nat → Int32) × (Nat → Int32) × (Nat → Int32) × Int32 × Int32 × (Nat → Int32) × (Nat → Int64) × Int32 × Int32 × Int32 × Int32 × Int32 × Int32 × Int32 × Int32 × Int32 × Int32
def m_k_L_deed_13 (pp : pT) (rn : Int32) (tn : Int32) (en : Int32) (rf : Nat → Option Nat) (tp : Nat → Int32) (tq : Nat → Int32) (ea : Nat → Int32) (es : Nat → Int32) (hn : Int32) (kn : Int32) (on : Int32) (cu : Int32) (pu : Int32) (gw : Int32) (b_1 : Int32) (b_2 : Int32) (b_3 : Int32) (b_p : Int32) (su : Nat → Int64) (po : Nat → Int64) (hds : Nat → Int32) (kr : Nat → Int32) (kv : Nat → Int32) (kb : Nat → Int32) (oa : Nat → Int32) (ob : Nat → Int32) (an : Int32) (ch : Int32) (cg : Int32) (fb : Int32) (mh : Int32) (ml : Int32) (ih : Int32) (lb : Int32) (ic : Int32) (cn : Int32) (c1 : Nat → Int32) (c2 : Nat → Int32) (c3 : Nat → Int32) (c4 : Nat → Int32) (c5 : Nat → Int32) (c6 : Nat → Int32) (wn : Int32) (w1 : Nat → Int32) (w2 : Nat → Int32) (w3 : Nat → Int32) (w4 : Nat → Int32) (w5 : Nat → Int32) (w6 : Nat → Int32) (ac : Nat → Int32) (obi : Nat → Int32) (sc : Nat → Int32) (br : Nat → Int32) (ai : Nat → Int64) (ao : Nat → Int64) (nn : Int32) (kp : Int32) (se : Nat → Int32) (co : Nat → Int64) : r_k_L_deed_13 :=
  lE (m_k_L_plain_13 pp rn tn en rf tp tq ea es hn kn on cu pu gw b_1 b_2 b_3 b_p su po hds kr kv kb oa ob an ch cg fb mh ml ih lb ic cn c1 c2 c3 c4 c5 c6 wn w1 w2 w3 w4 w5 w6 ac obi sc br ai ao nn kp se co) (fun t_10 =>
    if t_10.1 = 0 then
      (t_10.2.1, t_10.2.2.1, t_10.2.2.2.1, t_10.2.2.2.2.1, t_10.2.2.2.2.2.1, t_10.2.2.2.2.2.2.1, t_10.2.2.2.2.2.2.2.1, t_10.2.2.2.2.2.2.2.2.1, t_10.2.2.2.2.2.2.2.2.2.1, t_10.2.2.2.2.2.2.2.2.2.2.1, t_10.2.2.2.2.2.2.2.2.2.2.2.1, t_10.2.2.2.2.2.2.2.2.2.2.2.2.1, t_10.2.2.2.2.2.2.2.2.2.2.2.2.2.1, t_10.2.2.2.2.2.2.2.2.2.2.2.2.2.2.1, t_10.2.2.2.2.2.2.2.2.2.2.2.2.2.2.2.1, t_10.2.2.2.2.2.2.2.2.2.2.2.2.2.2.2.2.1, t_10.2.2.2.2.2.2.2.2.2.2.2.2.2.2.2.2.2.1, t_10.2.2.2.2.2.2.2.2.2.2.2.2.2.2.2.2.2.2.1, t_10.2.2.2.2.2.2.2.2.2.2.2.2.2.2.2.2.2.2.2.1, t_10.2.2.2.2.2.2.2.2.2.2.2.2.2.2.2.2.2.2.2.2.1, t_10.2.2.2.2.2.2.2.2.2.2.2.2.2.2.2.2.2.2.2.2.2.1, t_10.2.2.2.2.2.2.2.2.2.2.2.2.2.2.2.2.2.2.2.2.2.2.1, t_10.2.2.2.2.2.2.2.2.2.2.2.2.2.2.2.2.2.2.2.2.2.2.2.1, t_10.2.2.2.2.2.2.2.2.2.2.2.2.2.2.2.2.2.2.2.2.2.2.2.2.1, t_10.2.2.2.2.2.2.2.2.2.2.2.2.2.2.2.2.2.2.2.2.2.2.2.2.2.1, t_10.2.2.2.2.2.2.2.2.2.2.2.2.2.2.2.2.2.2.2.2.2.2.2.2.2.2.1, t_10.2.2.2.2.2.2.2.2.2.2.2.2.2.2.2.2.2.2.2.2.2.2.2.2.2.2.2.1, t_10.2.2.2.2.2.2.2.2.2.2.2.2.2.2.2.2.2.2.2.2.2.2.2.2.2.2.2.2.1, t_10.2.2.2.2.2.2.2.2.2.2.2.2.2.2.2.2.2.2.2.2.2.2.2.2.2.2.2.2.2.1, t_10.2.2.2.2.2.2.2.2.2.2.2.2.2.2.2.2.2.2.2.2.2.2.2.2.2.2.2.2.2.2.1, t_10.2.2.2.2.2.2.2.2.2.2.2.2.2.2.2.2.2.2.2.2.2.2.2.2.2.2.2.2.2.2.2.1, t_10.2.2.2.2.2.2.2.2.2.2.2.2.2.2.2.2.2.2.2.2.2.2.2.2.2.2.2.2.2.2.2.2.1, t_10.2.2.2.2.2.2.2.2.2.2.2.2.2.2.2.2.2.2.2.2.2.2.2.2.2.2.2.2.2.2.2.2.2.1, t_10.2.2.2.2.2.2.2.2.2.2.2.2.2.2.2.2.2.2.2.2.2.2.2.2.2.2.2.2.2.2.2.2.2.2.1, t_10.2.2.2.2.2.2.2.2.2.2.2.2.2.2.2.2.2.2.2.2.2.2.2.2.2.2.2.2.2.2.2.2.2.2.2.1, t_10.2.2.2.2.2.2.2.2.2.2.2.2.2.2.2.2.2.2.2.2.2.2.2.2.2.2.2.2.2.2.2.2.2.2.2.2.1, t_10.2.2.2.2.2.2.2.2.2.2.2.2.2.2.2.2.2.2.2.2.2.2.2.2.2.2.2.2.2.2.2.2.2.2.2.2.2.1, t_10.2.2.2.2.2.2.2.2.2.2.2.2.2.2.2.2.2.2.2.2.2.2.2.2.2.2.2.2.2.2.2.2.2.2.2.2.2.2.1, t_10.2.2.2.2.2.2.2.2.2.2.2.2.2.2.2.2.2.2.2.2.2.2.2.2.2.2.2.2.2.2.2.2.2.2.2.2.2.2.2.1, t_10.2.2.2.2.2.2.2.2.2.2.2.2.2.2.2.2.2.2.2.2.2.2.2.2.2.2.2.2.2.2.2.2.2.2.2.2.2.2.2.2.1, t_10.2.2.2.2.2.2.2.2.2.2.2.2.2.2.2.2.2.2.2.2.2.2.2.2.2.2.2.2.2.2.2.2.2.2.2.2.2.2.2.2.2.1, t_10.2.2.2.2.2.2.2.2.2.2.2.2.2.2.2.2.2.2.2.2.2.2.2.2.2.2.2.2.2.2.2.2.2.2.2.2.2.2.2.2.2.2.1, t_10.2.2.2.2.2.2.2.2.2.2.2.2.2.2.2.2.2.2.2.2.2.2.2.2.2.2.2.2.2.2.2.2.2.2.2.2.2.2.2.2.2.2.2.1, t_10.2.2.2.2.2.2.2.2.2.2.2.2.2.2.2.2.2.2.2.2.2.2.2.2.2.2.2.2.2.2.2.2.2.2.2.2.2.2.2.2.2.2.2.2.1, t_10.2.2.2.2.2.2.2.2.2.2.2.2.2.2.2.2.2.2.2.2.2.2.2.2.2.2.2.2.2.2.2.2.2.2.2.2.2.2.2.2.2.2.2.2.2.1, t_10.2.2.2.2.2.2.2.2.2.2.2.2.2.2.2.2.2.2.2.2.2.2.2.2.2.2.2.2.2.2.2.2.2.2.2.2.2.2.2.2.2.2.2.2.2.2.1, t_10.2.2.2.2.2.2.2.2.2.2.2.2.2.2.2.2.2.2.2.2.2.2.2.2.2.2.2.2.2.2.2.2.2.2.2.2.2.2.2.2.2.2.2.2.2.2.2.1, t_10.2.2.2.2.2.2.2.2.2.2.2.2.2.2.2.2.2.2.2.2.2.2.2.2.2.2.2.2.2.2.2.2.2.2.2.2.2.2.2.2.2.2.2.2.2.2.2.2.1, t_10.2.2.2.2.2.2.2.2.2.2.2.2.2.2.2.2.2.2.2.2.2.2.2.2.2.2.2.2.2.2.2.2.2.2.2.2.2.2.2.2.2.2.2.2.2.2.2.2.2.1, t_10.2.2.2.2.2.2.2.2.2.2.2.2.2.2.2.2.2.2.2.2.2.2.2.2.2.2.2.2.2.2.2.2.2.2.2.2.2.2.2.2.2.2.2.2.2.2.2.2.2.2)
    else
      ((-2004), t_10.2.2.1, t_10.2.2.2.1, t_10.2.2.2.2.1, t_10.2.2.2.2.2.1, t_10.2.2.2.2.2.2.1, t_10.2.2.2.2.2.2.2.1, t_10.2.2.2.2.2.2.2.2.1, t_10.2.2.2.2.2.2.2.2.2.1, t_10.2.2.2.2.2.2.2.2.2.2.1, t_10.2.2.2.2.2.2.2.2.2.2.2.1, t_10.2.2.2.2.2.2.2.2.2.2.2.2.1, t_10.2.2.2.2.2.2.2.2.2.2.2.2.2.1, t_10.2.2.2.2.2.2.2.2.2.2.2.2.2.2.1, t_10.2.2.2.2.2.2.2.2.2.2.2.2.2.2.2.1, t_10.2.2.2.2.2.2.2.2.2.2.2.2.2.2.2.2.1, t_10.2.2.2.2.2.2.2.2.2.2.2.2.2.2.2.2.2.1, t_10.2.2.2.2.2.2.2.2.2.2.2.2.2.2.2.2.2.2.1, t_10.2.2.2.2.2.2.2.2.2.2.2.2.2.2.2.2.2.2.2.1, t_10.2.2.2.2.2.2.2.2.2.2.2.2.2.2.2.2.2.2.2.2.1, t_10.2.2.2.2.2.2.2.2.2.2.2.2.2.2.2.2.2.2.2.2.2.1, t_10.2.2.2.2.2.2.2.2.2.2.2.2.2.2.2.2.2.2.2.2.2.2.1, t_10.2.2.2.2.2.2.2.2.2.2.2.2.2.2.2.2.2.2.2.2.2.2.2.1, t_10.2.2.2.2.2.2.2.2.2.2.2.2.2.2.2.2.2.2.2.2.2.2.2.2.1, t_10.2.2.2.2.2.2.2.2.2.2.2.2.2.2.2.2.2.2.2.2.2.2.2.2.2.1, t_10.2.2.2.2.2.2.2.2.2.2.2.2.2.2.2.2.2.2.2.2.2.2.2.2.2.2.1, t_10.2.2.2.2.2.2.2.2.2.2.2.2.2.2.2.2.2.2.2.2.2.2.2.2.2.2.2.1, t_10.2.2.2.2.2.2.2.2.2.2.2.2.2.2.2.2.2.2.2.2.2.2.2.2.2.2.2.2.1, t_10.2.2.2.2.2.2.2.2.2.2.2.2.2.2.2.2.2.2.2.2.2.2.2.2.2.2.2.2.2.1, t_10.2.2.2.2.2.2.2.2.2.2.2.2.2.2.2.2.2.2.2.2.2.2.2.2.2.2.2.2.2.2.1, t_10.2.2.2.2.2.2.2.2.2.2.2.2.2.2.2.2.2.2.2.2.2.2.2.2.2.2.2.2.2.2.2.1, t_10.2.2.2.2.2.2.2.2.2.2.2.2.2.2.2.2.2.2.2.2.2.2.2.2.2.2.2.2.2.2.2.2.1, t_10.2.2.2.2.2.2.2.2.2.2.2.2.2.2.2.2.2.2.2.2.2.2.2.2.2.2.2.2.2.2.2.2.2.1, t_10.2.2.2.2.2.2.2.2.2.2.2.2.2.2.2.2.2.2.2.2.2.2.2.2.2.2.2.2.2.2.2.2.2.2.1, t_10.2.2.2.2.2.2.2.2.2.2.2.2.2.2.2.2.2.2.2.2.2.2.2.2.2.2.2.2.2.2.2.2.2.2.2.1, t_10.2.2.2.2.2.2.2.2.2.2.2.2.2.2.2.2.2.2.2.2.2.2.2.2.2.2.2.2.2.2.2.2.2.2.2.2.1, t_10.2.2.2.2.2.2.2.2.2.2.2.2.2.2.2.2.2.2.2.2.2.2.2.2.2.2.2.2.2.2.2.2.2.2.2.2.2.1, t_10.2.2.2.2.2.2.2.2.2.2.2.2.2.2.2.2.2.2.2.2.2.2.2.2.2.2.2.2.2.2.2.2.2.2.2.2.2.2.1, t_10.2.2.2.2.2.2.2.2.2.2.2.2.2.2.2.2.2.2.2.2.2.2.2.2.2.2.2.2.2.2.2.2.2.2.2.2.2.2.2.1, t_10.2.2.2.2.2.2.2.2.2.2.2.2.2.2.2.2.2.2.2.2.2.2.2.2.2.2.2.2.2.2.2.2.2.2.2.2.2.2.2.2.1, t_10.2.2.2.2.2.2.2.2.2.2.2.2.2.2.2.2.2.2.2.2.2.2.2.2.2.2.2.2.2.2.2.2.2.2.2.2.2.2.2.2.2.1, t_10.2.2.2.2.2.2.2.2.2.2.2.2.2.2.2.2.2.2.2.2.2.2.2.2.2.2.2.2.2.2.2.2.2.2.2.2.2.2.2.2.2.2.1, t_10.2.2.2.2.2.2.2.2.2.2.2.2.2.2.2.2.2.2.2.2.2.2.2.2.2.2.2.2.2.2.2.2.2.2.2.2.2.2.2.2.2.2.2.1, t_10.2.2.2.2.2.2.2.2.2.2.2.2.2.2.2.2.2.2.2.2.2.2.2.2.2.2.2.2.2.2.2.2.2.2.2.2.2.2.2.2.2.2.2.2.1, t_10.2.2.2.2.2.2.2.2.2.2.2.2.2.2.2.2.2.2.2.2.2.2.2.2.2.2.2.2.2.2.2.2.2.2.2.2.2.2.2.2.2.2.2.2.2.1, t_10.2.2.2.2.2.2.2.2.2.2.2.2.2.2.2.2.2.2.2.2.2.2.2.2.2.2.2.2.2.2.2.2.2.2.2.2.2.2.2.2.2.2.2.2.2.2.1, t_10.2.2.2.2.2.2.2.2.2.2.2.2.2.2.2.2.2.2.2.2.2.2.2.2.2.2.2.2.2.2.2.2.2.2.2.2.2.2.2.2.2.2.2.2.2.2.2.1, t_10.2.2.2.2.2.2.2.2.2.2.2.2.2.2.2.2.2.2.2.2.2.2.2.2.2.2.2.2.2.2.2.2.2.2.2.2.2.2.2.2.2.2.2.2.2.2.2.2.1, t_10.2.2.2.2.2.2.2.2.2.2.2.2.2.2.2.2.2.2.2.2.2.2.2.2.2.2.2.2.2.2.2.2.2.2.2.2.2.2.2.2.2.2.2.2.2.2.2.2.2.1, t_10.2.2.2.2.2.2.2.2.2.2.2.2.2.2.2.2.2.2.2.2.2.2.2.2.2.2.2.2.2.2.2.2.2.2.2.2.2.2.2.2.2.2.2.2.2.2.2.2.2.2))
abbrev r_k_L_asked_0 : Type := Int32 × Int32 × (Nat → Int64) × (Nat → Int64) × (Nat → Int32) × (Nat → Int32) × (Nat → Int32) × (Nat → Int32) × (Nat → Int32) × (Nat → Int32) × Int32 × Int32 × Int32 × Int32 × Int32 × Int32 × Int32 × Int32 × Int32 × Int32
def m_k_L_asked_0 (pp : pT) (pn : Int32) (rn : Int32) (tn : Int32) (en : Int32) (pl : Nat → Int32) (rf : Nat → Option Nat) (tp : Nat → Int32) (tq : Nat → Int32) (ea : Nat → Int32) (es : Nat → Int32) (hn : Int32) (kn : Int32) (on : Int32) (cu : Int32) (pu : Int32) (gw : Int32) (b_1 : Int32) (b_2 : Int32) (b_3 : Int32) (b_p : Int32) (su : Nat → Int64) (po : Nat → Int64) (hds : Nat → Int32) (kr : Nat → Int32) (kv : Nat → Int32) (kb : Nat → Int32) (oa : Nat → Int32) (ob : Nat → Int32) (a1 : Int32) (a2 : Int32) (a3 : Int32) : r_k_L_asked_0 :=
  lE (m_k_X10_state pp pn rn tn en pl rf tp tq ea es hn kn on cu pu gw b_1 b_2 b_3 b_p su po hds kr kv kb oa ob a1 a2 a3) (fun t_69 =>
    if t_69.1 = 0 then
      (0, t_69.2.1, t_69.2.2.1, t_69.2.2.2.1, t_69.2.2.2.2.1, t_69.2.2.2.2.2.1, t_69.2.2.2.2.2.2.1, t_69.2.2.2.2.2.2.2.1, t_69.2.2.2.2.2.2.2.2.1, t_69.2.2.2.2.2.2.2.2.2.1, t_69.2.2.2.2.2.2.2.2.2.2.1, t_69.2.2.2.2.2.2.2.2.2.2.2.1, t_69.2.2.2.2.2.2.2.2.2.2.2.2.1, t_69.2.2.2.2.2.2.2.2.2.2.2.2.2.1, t_69.2.2.2.2.2.2.2.2.2.2.2.2.2.2.1, t_69.2.2.2.2.2.2.2.2.2.2.2.2.2.2.2.1, t_69.2.2.2.2.2.2.2.2.2.2.2.2.2.2.2.2.1, t_69.2.2.2.2.2.2.2.2.2.2.2.2.2.2.2.2.2.1, t_69.2.2.2.2.2.2.2.2.2.2.2.2.2.2.2.2.2.2.1, t_69.2.2.2.2.2.2.2.2.2.2.2.2.2.2.2.2.2.2.2)
    else
      if t_69.1 = 1 then
        (1, 0, t_69.2.2.1, t_69.2.2.2.1, t_69.2.2.2.2.1, t_69.2.2.2.2.2.1, t_69.2.2.2.2.2.2.1, t_69.2.2.2.2.2.2.2.1, t_69.2.2.2.2.2.2.2.2.1, t_69.2.2.2.2.2.2.2.2.2.1, t_69.2.2.2.2.2.2.2.2.2.2.1, t_69.2.2.2.2.2.2.2.2.2.2.2.1, t_69.2.2.2.2.2.2.2.2.2.2.2.2.1, t_69.2.2.2.2.2.2.2.2.2.2.2.2.2.1, t_69.2.2.2.2.2.2.2.2.2.2.2.2.2.2.1, t_69.2.2.2.2.2.2.2.2.2.2.2.2.2.2.2.1, t_69.2.2.2.2.2.2.2.2.2.2.2.2.2.2.2.2.1, t_69.2.2.2.2.2.2.2.2.2.2.2.2.2.2.2.2.2.1, t_69.2.2.2.2.2.2.2.2.2.2.2.2.2.2.2.2.2.2.1, t_69.2.2.2.2.2.2.2.2.2.2.2.2.2.2.2.2.2.2.2)
      else
        (2, 0, t_69.2.2.1, t_69.2.2.2.1, t_69.2.2.2.2.1, t_69.2.2.2.2.2.1, t_69.2.2.2.2.2.2.1, t_69.2.2.2.2.2.2.2.1, t_69.2.2.2.2.2.2.2.2.1, t_69.2.2.2.2.2.2.2.2.2.1, t_69.2.2.2.2.2.2.2.2.2.2.1, t_69.2.2.2.2.2.2.2.2.2.2.2.1, t_69.2.2.2.2.2.2.2.2.2.2.2.2.1, t_69.2.2.2.2.2.2.2.2.2.2.2.2.2.1, t_69.2.2.2.2.2.2.2.2.2.2.2.2.2.2.1, t_69.2.2.2.2.2.2.2.2.2.2.2.2.2.2.2.1, t_69.2.2.2.2.2.2.2.2.2.2.2.2.2.2.2.2.1, t_69.2.2.2.2.2.2.2.2.2.2.2.2.2.2.2.2.2.1, t_69.2.2.2.2.2.2.2.2.2.2.2.2.2.2.2.2.2.2.1, t_69.2.2.2.2.2.2.2.2.2.2.2.2.2.2.2.2.2.2.2))
abbrev r_k_L_ask_0 : Type := Int32 × (Nat → Int64) × (Nat → Int64) × (Nat → Int32) × (Nat → Int32) × (Nat → Int32) × (Nat → Int32) × (Nat → Int32) × (Nat → Int32) × Int32 × Int32 × Int32 × Int32 × Int32 × Int32 × Int32 × Int32 × Int32 × Int32
def m_k_L_ask_0 (pp : pT) (pn : Int32) (rn : Int32) (tn : Int32) (en : Int32) (pl : Nat → Int32) (rf : Nat → Option Nat) (tp : Nat → Int32) (tq : Nat → Int32) (ea : Nat → Int32) (es : Nat → Int32) (hn : Int32) (kn : Int32) (on : Int32) (cu : Int32) (pu : Int32) (gw : Int32) (b_1 : Int32) (b_2 : Int32) (b_3 : Int32) (b_p : Int32) (su : Nat → Int64) (po : Nat → Int64) (hds : Nat → Int32) (kr : Nat → Int32) (kv : Nat → Int32) (kb : Nat → Int32) (oa : Nat → Int32) (ob : Nat → Int32) (a1 : Int32) (a2 : Int32) (a3 : Int32) : r_k_L_ask_0 :=
  lE (m_k_L_asked_0 pp pn rn tn en pl rf tp tq ea es hn kn on cu pu gw b_1 b_2 b_3 b_p su po hds kr kv kb oa ob a1 a2 a3) (fun t_8 =>
    if t_8.1 = 0 then
      (t_8.2.1, t_8.2.2.1, t_8.2.2.2.1, t_8.2.2.2.2.1, t_8.2.2.2.2.2.1, t_8.2.2.2.2.2.2.1, t_8.2.2.2.2.2.2.2.1, t_8.2.2.2.2.2.2.2.2.1, t_8.2.2.2.2.2.2.2.2.2.1, t_8.2.2.2.2.2.2.2.2.2.2.1, t_8.2.2.2.2.2.2.2.2.2.2.2.1, t_8.2.2.2.2.2.2.2.2.2.2.2.2.1, t_8.2.2.2.2.2.2.2.2.2.2.2.2.2.1, t_8.2.2.2.2.2.2.2.2.2.2.2.2.2.2.1, t_8.2.2.2.2.2.2.2.2.2.2.2.2.2.2.2.1, t_8.2.2.2.2.2.2.2.2.2.2.2.2.2.2.2.2.1, t_8.2.2.2.2.2.2.2.2.2.2.2.2.2.2.2.2.2.1, t_8.2.2.2.2.2.2.2.2.2.2.2.2.2.2.2.2.2.2.1, t_8.2.2.2.2.2.2.2.2.2.2.2.2.2.2.2.2.2.2.2)
    else
      if t_8.1 = 1 then
        ((-2001), t_8.2.2.1, t_8.2.2.2.1, t_8.2.2.2.2.1, t_8.2.2.2.2.2.1, t_8.2.2.2.2.2.2.1, t_8.2.2.2.2.2.2.2.1, t_8.2.2.2.2.2.2.2.2.1, t_8.2.2.2.2.2.2.2.2.2.1, t_8.2.2.2.2.2.2.2.2.2.2.1, t_8.2.2.2.2.2.2.2.2.2.2.2.1, t_8.2.2.2.2.2.2.2.2.2.2.2.2.1, t_8.2.2.2.2.2.2.2.2.2.2.2.2.2.1, t_8.2.2.2.2.2.2.2.2.2.2.2.2.2.2.1, t_8.2.2.2.2.2.2.2.2.2.2.2.2.2.2.2.1, t_8.2.2.2.2.2.2.2.2.2.2.2.2.2.2.2.2.1, t_8.2.2.2.2.2.2.2.2.2.2.2.2.2.2.2.2.2.1, t_8.2.2.2.2.2.2.2.2.2.2.2.2.2.2.2.2.2.2.1, t_8.2.2.2.2.2.2.2.2.2.2.2.2.2.2.2.2.2.2.2)
      else
        ((-2002), t_8.2.2.1, t_8.2.2.2.1, t_8.2.2.2.2.1, t_8.2.2.2.2.2.1, t_8.2.2.2.2.2.2.1, t_8.2.2.2.2.2.2.2.1, t_8.2.2.2.2.2.2.2.2.1, t_8.2.2.2.2.2.2.2.2.2.1, t_8.2.2.2.2.2.2.2.2.2.2.1, t_8.2.2.2.2.2.2.2.2.2.2.2.1, t_8.2.2.2.2.2.2.2.2.2.2.2.2.1, t_8.2.2.2.2.2.2.2.2.2.2.2.2.2.1, t_8.2.2.2.2.2.2.2.2.2.2.2.2.2.2.1, t_8.2.2.2.2.2.2.2.2.2.2.2.2.2.2.2.1, t_8.2.2.2.2.2.2.2.2.2.2.2.2.2.2.2.2.1, t_8.2.2.2.2.2.2.2.2.2.2.2.2.2.2.2.2.2.1, t_8.2.2.2.2.2.2.2.2.2.2.2.2.2.2.2.2.2.2.1, t_8.2.2.2.2.2.2.2.2.2.2.2.2.2.2.2.2.2.2.2))
abbrev r_k_L_asked_1 : Type := Int32 × (Nat → Int64) × (Nat → Int64) × (Nat → Int32) × (Nat → Int32) × (Nat → Int32) × (Nat → Int32) × (Nat → Int32) × (Nat → Int32) × Int32 × Int32 × Int32 × Int32 × Int32 × Int32 × Int32 × Int32 × Int32 × Int32
def m_k_L_asked_1 (pp : pT) (rn : Int32) (tn : Int32) (en : Int32) (rf : Nat → Option Nat) (tp : Nat → Int32) (tq : Nat → Int32) (ea : Nat → Int32) (es : Nat → Int32) (hn : Int32) (kn : Int32) (on : Int32) (cu : Int32) (pu : Int32) (gw : Int32) (b_1 : Int32) (b_2 : Int32) (b_3 : Int32) (b_p : Int32) (su : Nat → Int64) (po : Nat → Int64) (hds : Nat → Int32) (kr : Nat → Int32) (kv : Nat → Int32) (kb : Nat → Int32) (oa : Nat → Int32) (ob : Nat → Int32) : r_k_L_asked_1 :=
  lE (m_k_X10_open pp rn tn en rf tp tq ea es hn kn on cu pu gw b_1 b_2 b_3 b_p su po hds kr kv kb oa ob) (fun t_74 =>
    (t_74.1, t_74.2.1, t_74.2.2.1, t_74.2.2.2.1, t_74.2.2.2.2.1, t_74.2.2.2.2.2.1, t_74.2.2.2.2.2.2.1, t_74.2.2.2.2.2.2.2.1, t_74.2.2.2.2.2.2.2.2.1, t_74.2.2.2.2.2.2.2.2.2.1, t_74.2.2.2.2.2.2.2.2.2.2.1, t_74.2.2.2.2.2.2.2.2.2.2.2.1, t_74.2.2.2.2.2.2.2.2.2.2.2.2.1, t_74.2.2.2.2.2.2.2.2.2.2.2.2.2.1, t_74.2.2.2.2.2.2.2.2.2.2.2.2.2.2.1, t_74.2.2.2.2.2.2.2.2.2.2.2.2.2.2.2.1, t_74.2.2.2.2.2.2.2.2.2.2.2.2.2.2.2.2.1, t_74.2.2.2.2.2.2.2.2.2.2.2.2.2.2.2.2.2.1, t_74.2.2.2.2.2.2.2.2.2.2.2.2.2.2.2.2.2.2))
abbrev r_k_L_ask_1 : Type := Int32 × (Nat → Int64) × (Nat → Int64) × (Nat → Int32) × (Nat → Int32) × (Nat → Int32) × (Nat → Int32) × (Nat → Int32) × (Nat → Int32) × Int32 × Int32 × Int32 × Int32 × Int32 × Int32 × Int32 × Int32 × Int32 × Int32
def m_k_L_ask_1 (pp : pT) (rn : Int32) (tn : Int32) (en : Int32) (rf : Nat → Option Nat) (tp : Nat → Int32) (tq : Nat → Int32) (ea : Nat → Int32) (es : Nat → Int32) (hn : Int32) (kn : Int32) (on : Int32) (cu : Int32) (pu : Int32) (gw : Int32) (b_1 : Int32) (b_2 : Int32) (b_3 : Int32) (b_p : Int32) (su : Nat → Int64) (po : Nat → Int64) (hds : Nat → Int32) (kr : Nat → Int32) (kv : Nat → Int32) (kb : Nat → Int32) (oa : Nat → Int32) (ob : Nat → Int32) : r_k_L_ask_1 :=
  lE (m_k_L_asked_1 pp rn tn en rf tp tq ea es hn kn on cu pu gw b_1 b_2 b_3 b_p su po hds kr kv kb oa ob) (fun t_8 =>
    (t_8.1, t_8.2.1, t_8.2.2.1, t_8.2.2.2.1, t_8.2.2.2.2.1, t_8.2.2.2.2.2.1, t_8.2.2.2.2.2.2.1, t_8.2.2.2.2.2.2.2.1, t_8.2.2.2.2.2.2.2.2.1, t_8.2.2.2.2.2.2.2.2.2.1, t_8.2.2.2.2.2.2.2.2.2.2.1, t_8.2.2.2.2.2.2.2.2.2.2.2.1, t_8.2.2.2.2.2.2.2.2.2.2.2.2.1, t_8.2.2.2.2.2.2.2.2.2.2.2.2.2.1, t_8.2.2.2.2.2.2.2.2.2.2.2.2.2.2.1, t_8.2.2.2.2.2.2.2.2.2.2.2.2.2.2.2.1, t_8.2.2.2.2.2.2.2.2.2.2.2.2.2.2.2.2.1, t_8.2.2.2.2.2.2.2.2.2.2.2.2.2.2.2.2.2.1, t_8.2.2.2.2.2.2.2.2.2.2.2.2.2.2.2.2.2.2))
abbrev r_k_L_asked_4 : Type := Int32 × Int32 × (Nat → Int64) × (Nat → Int64) × (Nat → Int32) × (Nat → Int32) × (Nat → Int32) × (Nat → Int32) × (Nat → Int32) × (Nat → Int32) × Int32 × Int32 × Int32 × Int32 × Int32 × Int32 × Int32 × Int32 × Int32 × Int32 × (Nat → Int32) × (Nat → Int32) × (Nat → Int32) × (Nat → Int32) × (Nat → Int32) × (Nat → Int32) × Int32 × (Nat → Int32) × (Nat → Int32) × (Nat → Int32) × (Nat → Int32) × (Nat → Int32) × (Nat → Int32) × (Nat → Int32) × (Nat → Int32) × (Nat → Int32) × Int32 × Int32 × Int32 × Int32 × Int32 × Int32 × Int32 × Int32 × Int32 × Int32
def m_k_L_asked_4 (pp : pT) (rn : Int32) (tn : Int32) (en : Int32) (rf : Nat → Option Nat) (tp : Nat → Int32) (tq : Nat → Int32) (ea : Nat → Int32) (es : Nat → Int32) (hn : Int32) (kn : Int32) (on : Int32) (cu : Int32) (pu : Int32) (gw : Int32) (b_1 : Int32) (b_2 : Int32) (b_3 : Int32) (b_p : Int32) (su : Nat → Int64) (po : Nat → Int64) (hds : Nat → Int32) (kr : Nat → Int32) (kv : Nat → Int32) (kb : Nat → Int32) (oa : Nat → Int32) (ob : Nat → Int32) (an : Int32) (ch : Int32) (cg : Int32) (fb : Int32) (mh : Int32) (ml : Int32) (ih : Int32) (lb : Int32) (ic : Int32) (cn : Int32) (c1 : Nat → Int32) (c2 : Nat → Int32) (c3 : Nat → Int32) (c4 : Nat → Int32) (c5 : Nat → Int32) (c6 : Nat → Int32) (wn : Int32) (w1 : Nat → Int32) (w2 : Nat → Int32) (w3 : Nat → Int32) (w4 : Nat → Int32) (w5 : Nat → Int32) (w6 : Nat → Int32) (ac : Nat → Int32) (obi : Nat → Int32) (sc : Nat → Int32) (ai : Nat → Int64) (ao : Nat → Int64) : r_k_L_asked_4 :=
  lE (m_k_X10_walkByAll pp rn tn en rf tp tq ea es hn kn on cu pu gw b_1 b_2 b_3 b_p su po hds kr kv kb oa ob an ch cg fb mh ml ih lb ic cn c1 c2 c3 c4 c5 c6 wn w1 w2 w3 w4 w5 w6 ac obi sc ai ao) (fun t_90 =>
    if t_90.1 = 0 then
      (0, t_90.2.1, t_90.2.2.1, t_90.2.2.2.1, t_90.2.2.2.2.1, t_90.2.2.2.2.2.1, t_90.2.2.2.2.2.2.1, t_90.2.2.2.2.2.2.2.1, t_90.2.2.2.2.2.2.2.2.1, t_90.2.2.2.2.2.2.2.2.2.1, t_90.2.2.2.2.2.2.2.2.2.2.1, t_90.2.2.2.2.2.2.2.2.2.2.2.1, t_90.2.2.2.2.2.2.2.2.2.2.2.2.1, t_90.2.2.2.2.2.2.2.2.2.2.2.2.2.1, t_90.2.2.2.2.2.2.2.2.2.2.2.2.2.2.1, t_90.2.2.2.2.2.2.2.2.2.2.2.2.2.2.2.1, t_90.2.2.2.2.2.2.2.2.2.2.2.2.2.2.2.2.1, t_90.2.2.2.2.2.2.2.2.2.2.2.2.2.2.2.2.2.1, t_90.2.2.2.2.2.2.2.2.2.2.2.2.2.2.2.2.2.2.1, t_90.2.2.2.2.2.2.2.2.2.2.2.2.2.2.2.2.2.2.2.1, t_90.2.2.2.2.2.2.2.2.2.2.2.2.2.2.2.2.2.2.2.2.1, t_90.2.2.2.2.2.2.2.2.2.2.2.2.2.2.2.2.2.2.2.2.2.1, t_90.2.2.2.2.2.2.2.2.2.2.2.2.2.2.2.2.2.2.2.2.2.2.1, t_90.2.2.2.2.2.2.2.2.2.2.2.2.2.2.2.2.2.2.2.2.2.2.2.1, t_90.2.2.2.2.2.2.2.2.2.2.2.2.2.2.2.2.2.2.2.2.2.2.2.2.1, t_90.2.2.2.2.2.2.2.2.2.2.2.2.2.2.2.2.2.2.2.2.2.2.2.2.2.1, t_90.2.2.2.2.2.2.2.2.2.2.2.2.2.2.2.2.2.2.2.2.2.2.2.2.2.2.1, t_90.2.2.2.2.2.2.2.2.2.2.2.2.2.2.2.2.2.2.2.2.2.2.2.2.2.2.2.1, t_90.2.2.2.2.2.2.2.2.2.2.2.2.2.2.2.2.2.2.2.2.2.2.2.2.2.2.2.2.1, t_90.2.2.2.2.2.2.2.2.2.2.2.2.2.2.2.2.2.2.2.2.2.2.2.2.2.2.2.2.2.1, t_90.2.2.2.2.2.2.2.2.2.2.2.2.2.2.2.2.2.2.2.2.2.2.2.2.2.2.2.2.2.2.1, t_90.2.2.2.2.2.2.2.2.2.2.2.2.2.2.2.2.2.2.2.2.2.2.2.2.2.2.2.2.2.2.2.1, t_90.2.2.2.2.2.2.2.2.2.2.2.2.2.2.2.2.2.2.2.2.2.2.2.2.2.2.2.2.2.2.2.2.1, t_90.2.2.2.2.2.2.2.2.2.2.2.2.2.2.2.2.2.2.2.2.2.2.2.2.2.2.2.2.2.2.2.2.2.1, t_90.2.2.2.2.2.2.2.2.2.2.2.2.2.2.2.2.2.2.2.2.2.2.2.2.2.2.2.2.2.2.2.2.2.2.1, t_90.2.2.2.2.2.2.2.2.2.2.2.2.2.2.2.2.2.2.2.2.2.2.2.2.2.2.2.2.2.2.2.2.2.2.2.1, t_90.2.2.2.2.2.2.2.2.2.2.2.2.2.2.2.2.2.2.2.2.2.2.2.2.2.2.2.2.2.2.2.2.2.2.2.2.1, t_90.2.2.2.2.2.2.2.2.2.2.2.2.2.2.2.2.2.2.2.2.2.2.2.2.2.2.2.2.2.2.2.2.2.2.2.2.2.1, t_90.2.2.2.2.2.2.2.2.2.2.2.2.2.2.2.2.2.2.2.2.2.2.2.2.2.2.2.2.2.2.2.2.2.2.2.2.2.2.1, t_90.2.2.2.2.2.2.2.2.2.2.2.2.2.2.2.2.2.2.2.2.2.2.2.2.2.2.2.2.2.2.2.2.2.2.2.2.2.2.2.1, t_90.2.2.2.2.2.2.2.2.2.2.2.2.2.2.2.2.2.2.2.2.2.2.2.2.2.2.2.2.2.2.2.2.2.2.2.2.2.2.2.2.1, t_90.2.2.2.2.2.2.2.2.2.2.2.2.2.2.2.2.2.2.2.2.2.2.2.2.2.2.2.2.2.2.2.2.2.2.2.2.2.2.2.2.2.1, t_90.2.2.2.2.2.2.2.2.2.2.2.2.2.2.2.2.2.2.2.2.2.2.2.2.2.2.2.2.2.2.2.2.2.2.2.2.2.2.2.2.2.2.1, t_90.2.2.2.2.2.2.2.2.2.2.2.2.2.2.2.2.2.2.2.2.2.2.2.2.2.2.2.2.2.2.2.2.2.2.2.2.2.2.2.2.2.2.2.1, t_90.2.2.2.2.2.2.2.2.2.2.2.2.2.2.2.2.2.2.2.2.2.2.2.2.2.2.2.2.2.2.2.2.2.2.2.2.2.2.2.2.2.2.2.2.1, t_90.2.2.2.2.2.2.2.2.2.2.2.2.2.2.2.2.2.2.2.2.2.2.2.2.2.2.2.2.2.2.2.2.2.2.2.2.2.2.2.2.2.2.2.2.2)
    else
      (4, 0, t_90.2.2.1, t_90.2.2.2.1, t_90.2.2.2.2.1, t_90.2.2.2.2.2.1, t_90.2.2.2.2.2.2.1, t_90.2.2.2.2.2.2.2.1, t_90.2.2.2.2.2.2.2.2.1, t_90.2.2.2.2.2.2.2.2.2.1, t_90.2.2.2.2.2.2.2.2.2.2.1, t_90.2.2.2.2.2.2.2.2.2.2.2.1, t_90.2.2.2.2.2.2.2.2.2.2.2.2.1, t_90.2.2.2.2.2.2.2.2.2.2.2.2.2.1, t_90.2.2.2.2.2.2.2.2.2.2.2.2.2.2.1, t_90.2.2.2.2.2.2.2.2.2.2.2.2.2.2.2.1, t_90.2.2.2.2.2.2.2.2.2.2.2.2.2.2.2.2.1, t_90.2.2.2.2.2.2.2.2.2.2.2.2.2.2.2.2.2.1, t_90.2.2.2.2.2.2.2.2.2.2.2.2.2.2.2.2.2.2.1, t_90.2.2.2.2.2.2.2.2.2.2.2.2.2.2.2.2.2.2.2.1, t_90.2.2.2.2.2.2.2.2.2.2.2.2.2.2.2.2.2.2.2.2.1, t_90.2.2.2.2.2.2.2.2.2.2.2.2.2.2.2.2.2.2.2.2.2.1, t_90.2.2.2.2.2.2.2.2.2.2.2.2.2.2.2.2.2.2.2.2.2.2.1, t_90.2.2.2.2.2.2.2.2.2.2.2.2.2.2.2.2.2.2.2.2.2.2.2.1, t_90.2.2.2.2.2.2.2.2.2.2.2.2.2.2.2.2.2.2.2.2.2.2.2.2.1, t_90.2.2.2.2.2.2.2.2.2.2.2.2.2.2.2.2.2.2.2.2.2.2.2.2.2.1, t_90.2.2.2.2.2.2.2.2.2.2.2.2.2.2.2.2.2.2.2.2.2.2.2.2.2.2.1, t_90.2.2.2.2.2.2.2.2.2.2.2.2.2.2.2.2.2.2.2.2.2.2.2.2.2.2.2.1, t_90.2.2.2.2.2.2.2.2.2.2.2.2.2.2.2.2.2.2.2.2.2.2.2.2.2.2.2.2.1, t_90.2.2.2.2.2.2.2.2.2.2.2.2.2.2.2.2.2.2.2.2.2.2.2.2.2.2.2.2.2.1, t_90.2.2.2.2.2.2.2.2.2.2.2.2.2.2.2.2.2.2.2.2.2.2.2.2.2.2.2.2.2.2.1, t_90.2.2.2.2.2.2.2.2.2.2.2.2.2.2.2.2.2.2.2.2.2.2.2.2.2.2.2.2.2.2.2.1, t_90.2.2.2.2.2.2.2.2.2.2.2.2.2.2.2.2.2.2.2.2.2.2.2.2.2.2.2.2.2.2.2.2.1, t_90.2.2.2.2.2.2.2.2.2.2.2.2.2.2.2.2.2.2.2.2.2.2.2.2.2.2.2.2.2.2.2.2.2.1, t_90.2.2.2.2.2.2.2.2.2.2.2.2.2.2.2.2.2.2.2.2.2.2.2.2.2.2.2.2.2.2.2.2.2.2.1, t_90.2.2.2.2.2.2.2.2.2.2.2.2.2.2.2.2.2.2.2.2.2.2.2.2.2.2.2.2.2.2.2.2.2.2.2.1, t_90.2.2.2.2.2.2.2.2.2.2.2.2.2.2.2.2.2.2.2.2.2.2.2.2.2.2.2.2.2.2.2.2.2.2.2.2.1, t_90.2.2.2.2.2.2.2.2.2.2.2.2.2.2.2.2.2.2.2.2.2.2.2.2.2.2.2.2.2.2.2.2.2.2.2.2.2.1, t_90.2.2.2.2.2.2.2.2.2.2.2.2.2.2.2.2.2.2.2.2.2.2.2.2.2.2.2.2.2.2.2.2.2.2.2.2.2.2.1, t_90.2.2.2.2.2.2.2.2.2.2.2.2.2.2.2.2.2.2.2.2.2.2.2.2.2.2.2.2.2.2.2.2.2.2.2.2.2.2.2.1, t_90.2.2.2.2.2.2.2.2.2.2.2.2.2.2.2.2.2.2.2.2.2.2.2.2.2.2.2.2.2.2.2.2.2.2.2.2.2.2.2.2.1, t_90.2.2.2.2.2.2.2.2.2.2.2.2.2.2.2.2.2.2.2.2.2.2.2.2.2.2.2.2.2.2.2.2.2.2.2.2.2.2.2.2.2.1, t_90.2.2.2.2.2.2.2.2.2.2.2.2.2.2.2.2.2.2.2.2.2.2.2.2.2.2.2.2.2.2.2.2.2.2.2.2.2.2.2.2.2.2.1, t_90.2.2.2.2.2.2.2.2.2.2.2.2.2.2.2.2.2.2.2.2.2.2.2.2.2.2.2.2.2.2.2.2.2.2.2.2.2.2.2.2.2.2.2.1, t_90.2.2.2.2.2.2.2.2.2.2.2.2.2.2.2.2.2.2.2.2.2.2.2.2.2.2.2.2.2.2.2.2.2.2.2.2.2.2.2.2.2.2.2.2.1, t_90.2.2.2.2.2.2.2.2.2.2.2.2.2.2.2.2.2.2.2.2.2.2.2.2.2.2.2.2.2.2.2.2.2.2.2.2.2.2.2.2.2.2.2.2.2))
abbrev r_k_L_ask_4 : Type := Int32 × (Nat → Int64) × (Nat → Int64) × (Nat → Int32) × (Nat → Int32) × (Nat → Int32) × (Nat → Int32) × (Nat → Int32) × (Nat → Int32) × Int32 × Int32 × Int32 × Int32 × Int32 × Int32 × Int32 × Int32 × Int32 × Int32 × (Nat → Int32) × (Nat → Int32) × (Nat → Int32) × (Nat → Int32) × (Nat → Int32) × (Nat → Int32) × Int32 × (Nat → Int32) × (Nat → Int32) × (Nat → Int32) × (Nat → Int32) × (Nat → Int32) × (Nat → Int32) × (Nat → Int32) × (Nat → Int32) × (Nat → Int32) × Int32 × Int32 × Int32 × Int32 × Int32 × Int32 × Int32 × Int32 × Int32 × Int32
def m_k_L_ask_4 (pp : pT) (rn : Int32) (tn : Int32) (en : Int32) (rf : Nat → Option Nat) (tp : Nat → Int32) (tq : Nat → Int32) (ea : Nat → Int32) (es : Nat → Int32) (hn : Int32) (kn : Int32) (on : Int32) (cu : Int32) (pu : Int32) (gw : Int32) (b_1 : Int32) (b_2 : Int32) (b_3 : Int32) (b_p : Int32) (su : Nat → Int64) (po : Nat → Int64) (hds : Nat → Int32) (kr : Nat → Int32) (kv : Nat → Int32) (kb : Nat → Int32) (oa : Nat → Int32) (ob : Nat → Int32) (an : Int32) (ch : Int32) (cg : Int32) (fb : Int32) (mh : Int32) (ml : Int32) (ih : Int32) (lb : Int32) (ic : Int32) (cn : Int32) (c1 : Nat → Int32) (c2 : Nat → Int32) (c3 : Nat → Int32) (c4 : Nat → Int32) (c5 : Nat → Int32) (c6 : Nat → Int32) (wn : Int32) (w1 : Nat → Int32) (w2 : Nat → Int32) (w3 : Nat → Int32) (w4 : Nat → Int32) (w5 : Nat → Int32) (w6 : Nat → Int32) (ac : Nat → Int32) (obi : Nat → Int32) (sc : Nat → Int32) (ai : Nat → Int64) (ao : Nat → Int64) : r_k_L_ask_4 :=
  lE (m_k_L_asked_4 pp rn tn en rf tp tq ea es hn kn on cu pu gw b_1 b_2 b_3 b_p su po hds kr kv kb oa ob an ch cg fb mh ml ih lb ic cn c1 c2 c3 c4 c5 c6 wn w1 w2 w3 w4 w5 w6 ac obi sc ai ao) (fun t_8 =>
    if t_8.1 = 0 then
      (t_8.2.1, t_8.2.2.1, t_8.2.2.2.1, t_8.2.2.2.2.1, t_8.2.2.2.2.2.1, t_8.2.2.2.2.2.2.1, t_8.2.2.2.2.2.2.2.1, t_8.2.2.2.2.2.2.2.2.1, t_8.2.2.2.2.2.2.2.2.2.1, t_8.2.2.2.2.2.2.2.2.2.2.1, t_8.2.2.2.2.2.2.2.2.2.2.2.1, t_8.2.2.2.2.2.2.2.2.2.2.2.2.1, t_8.2.2.2.2.2.2.2.2.2.2.2.2.2.1, t_8.2.2.2.2.2.2.2.2.2.2.2.2.2.2.1, t_8.2.2.2.2.2.2.2.2.2.2.2.2.2.2.2.1, t_8.2.2.2.2.2.2.2.2.2.2.2.2.2.2.2.2.1, t_8.2.2.2.2.2.2.2.2.2.2.2.2.2.2.2.2.2.1, t_8.2.2.2.2.2.2.2.2.2.2.2.2.2.2.2.2.2.2.1, t_8.2.2.2.2.2.2.2.2.2.2.2.2.2.2.2.2.2.2.2.1, t_8.2.2.2.2.2.2.2.2.2.2.2.2.2.2.2.2.2.2.2.2.1, t_8.2.2.2.2.2.2.2.2.2.2.2.2.2.2.2.2.2.2.2.2.2.1, t_8.2.2.2.2.2.2.2.2.2.2.2.2.2.2.2.2.2.2.2.2.2.2.1, t_8.2.2.2.2.2.2.2.2.2.2.2.2.2.2.2.2.2.2.2.2.2.2.2.1, t_8.2.2.2.2.2.2.2.2.2.2.2.2.2.2.2.2.2.2.2.2.2.2.2.2.1, t_8.2.2.2.2.2.2.2.2.2.2.2.2.2.2.2.2.2.2.2.2.2.2.2.2.2.1, t_8.2.2.2.2.2.2.2.2.2.2.2.2.2.2.2.2.2.2.2.2.2.2.2.2.2.2.1, t_8.2.2.2.2.2.2.2.2.2.2.2.2.2.2.2.2.2.2.2.2.2.2.2.2.2.2.2.1, t_8.2.2.2.2.2.2.2.2.2.2.2.2.2.2.2.2.2.2.2.2.2.2.2.2.2.2.2.2.1, t_8.2.2.2.2.2.2.2.2.2.2.2.2.2.2.2.2.2.2.2.2.2.2.2.2.2.2.2.2.2.1, t_8.2.2.2.2.2.2.2.2.2.2.2.2.2.2.2.2.2.2.2.2.2.2.2.2.2.2.2.2.2.2.1, t_8.2.2.2.2.2.2.2.2.2.2.2.2.2.2.2.2.2.2.2.2.2.2.2.2.2.2.2.2.2.2.2.1, t_8.2.2.2.2.2.2.2.2.2.2.2.2.2.2.2.2.2.2.2.2.2.2.2.2.2.2.2.2.2.2.2.2.1, t_8.2.2.2.2.2.2.2.2.2.2.2.2.2.2.2.2.2.2.2.2.2.2.2.2.2.2.2.2.2.2.2.2.2.1, t_8.2.2.2.2.2.2.2.2.2.2.2.2.2.2.2.2.2.2.2.2.2.2.2.2.2.2.2.2.2.2.2.2.2.2.1, t_8.2.2.2.2.2.2.2.2.2.2.2.2.2.2.2.2.2.2.2.2.2.2.2.2.2.2.2.2.2.2.2.2.2.2.2.1, t_8.2.2.2.2.2.2.2.2.2.2.2.2.2.2.2.2.2.2.2.2.2.2.2.2.2.2.2.2.2.2.2.2.2.2.2.2.1, t_8.2.2.2.2.2.2.2.2.2.2.2.2.2.2.2.2.2.2.2.2.2.2.2.2.2.2.2.2.2.2.2.2.2.2.2.2.2.1, t_8.2.2.2.2.2.2.2.2.2.2.2.2.2.2.2.2.2.2.2.2.2.2.2.2.2.2.2.2.2.2.2.2.2.2.2.2.2.2.1, t_8.2.2.2.2.2.2.2.2.2.2.2.2.2.2.2.2.2.2.2.2.2.2.2.2.2.2.2.2.2.2.2.2.2.2.2.2.2.2.2.1, t_8.2.2.2.2.2.2.2.2.2.2.2.2.2.2.2.2.2.2.2.2.2.2.2.2.2.2.2.2.2.2.2.2.2.2.2.2.2.2.2.2.1, t_8.2.2.2.2.2.2.2.2.2.2.2.2.2.2.2.2.2.2.2.2.2.2.2.2.2.2.2.2.2.2.2.2.2.2.2.2.2.2.2.2.2.1, t_8.2.2.2.2.2.2.2.2.2.2.2.2.2.2.2.2.2.2.2.2.2.2.2.2.2.2.2.2.2.2.2.2.2.2.2.2.2.2.2.2.2.2.1, t_8.2.2.2.2.2.2.2.2.2.2.2.2.2.2.2.2.2.2.2.2.2.2.2.2.2.2.2.2.2.2.2.2.2.2.2.2.2.2.2.2.2.2.2.1, t_8.2.2.2.2.2.2.2.2.2.2.2.2.2.2.2.2.2.2.2.2.2.2.2.2.2.2.2.2.2.2.2.2.2.2.2.2.2.2.2.2.2.2.2.2.1, t_8.2.2.2.2.2.2.2.2.2.2.2.2.2.2.2.2.2.2.2.2.2.2.2.2.2.2.2.2.2.2.2.2.2.2.2.2.2.2.2.2.2.2.2.2.2)
    else
      ((-2004), t_8.2.2.1, t_8.2.2.2.1, t_8.2.2.2.2.1, t_8.2.2.2.2.2.1, t_8.2.2.2.2.2.2.1, t_8.2.2.2.2.2.2.2.1, t_8.2.2.2.2.2.2.2.2.1, t_8.2.2.2.2.2.2.2.2.2.1, t_8.2.2.2.2.2.2.2.2.2.2.1, t_8.2.2.2.2.2.2.2.2.2.2.2.1, t_8.2.2.2.2.2.2.2.2.2.2.2.2.1, t_8.2.2.2.2.2.2.2.2.2.2.2.2.2.1, t_8.2.2.2.2.2.2.2.2.2.2.2.2.2.2.1, t_8.2.2.2.2.2.2.2.2.2.2.2.2.2.2.2.1, t_8.2.2.2.2.2.2.2.2.2.2.2.2.2.2.2.2.1, t_8.2.2.2.2.2.2.2.2.2.2.2.2.2.2.2.2.2.1, t_8.2.2.2.2.2.2.2.2.2.2.2.2.2.2.2.2.2.2.1, t_8.2.2.2.2.2.2.2.2.2.2.2.2.2.2.2.2.2.2.2.1, t_8.2.2.2.2.2.2.2.2.2.2.2.2.2.2.2.2.2.2.2.2.1, t_8.2.2.2.2.2.2.2.2.2.2.2.2.2.2.2.2.2.2.2.2.2.1, t_8.2.2.2.2.2.2.2.2.2.2.2.2.2.2.2.2.2.2.2.2.2.2.1, t_8.2.2.2.2.2.2.2.2.2.2.2.2.2.2.2.2.2.2.2.2.2.2.2.1, t_8.2.2.2.2.2.2.2.2.2.2.2.2.2.2.2.2.2.2.2.2.2.2.2.2.1, t_8.2.2.2.2.2.2.2.2.2.2.2.2.2.2.2.2.2.2.2.2.2.2.2.2.2.1, t_8.2.2.2.2.2.2.2.2.2.2.2.2.2.2.2.2.2.2.2.2.2.2.2.2.2.2.1, t_8.2.2.2.2.2.2.2.2.2.2.2.2.2.2.2.2.2.2.2.2.2.2.2.2.2.2.2.1, t_8.2.2.2.2.2.2.2.2.2.2.2.2.2.2.2.2.2.2.2.2.2.2.2.2.2.2.2.2.1, t_8.2.2.2.2.2.2.2.2.2.2.2.2.2.2.2.2.2.2.2.2.2.2.2.2.2.2.2.2.2.1, t_8.2.2.2.2.2.2.2.2.2.2.2.2.2.2.2.2.2.2.2.2.2.2.2.2.2.2.2.2.2.2.1, t_8.2.2.2.2.2.2.2.2.2.2.2.2.2.2.2.2.2.2.2.2.2.2.2.2.2.2.2.2.2.2.2.1, t_8.2.2.2.2.2.2.2.2.2.2.2.2.2.2.2.2.2.2.2.2.2.2.2.2.2.2.2.2.2.2.2.2.1, t_8.2.2.2.2.2.2.2.2.2.2.2.2.2.2.2.2.2.2.2.2.2.2.2.2.2.2.2.2.2.2.2.2.2.1, t_8.2.2.2.2.2.2.2.2.2.2.2.2.2.2.2.2.2.2.2.2.2.2.2.2.2.2.2.2.2.2.2.2.2.2.1, t_8.2.2.2.2.2.2.2.2.2.2.2.2.2.2.2.2.2.2.2.2.2.2.2.2.2.2.2.2.2.2.2.2.2.2.2.1, t_8.2.2.2.2.2.2.2.2.2.2.2.2.2.2.2.2.2.2.2.2.2.2.2.2.2.2.2.2.2.2.2.2.2.2.2.2.1, t_8.2.2.2.2.2.2.2.2.2.2.2.2.2.2.2.2.2.2.2.2.2.2.2.2.2.2.2.2.2.2.2.2.2.2.2.2.2.1, t_8.2.2.2.2.2.2.2.2.2.2.2.2.2.2.2.2.2.2.2.2.2.2.2.2.2.2.2.2.2.2.2.2.2.2.2.2.2.2.1, t_8.2.2.2.2.2.2.2.2.2.2.2.2.2.2.2.2.2.2.2.2.2.2.2.2.2.2.2.2.2.2.2.2.2.2.2.2.2.2.2.1, t_8.2.2.2.2.2.2.2.2.2.2.2.2.2.2.2.2.2.2.2.2.2.2.2.2.2.2.2.2.2.2.2.2.2.2.2.2.2.2.2.2.1, t_8.2.2.2.2.2.2.2.2.2.2.2.2.2.2.2.2.2.2.2.2.2.2.2.2.2.2.2.2.2.2.2.2.2.2.2.2.2.2.2.2.2.1, t_8.2.2.2.2.2.2.2.2.2.2.2.2.2.2.2.2.2.2.2.2.2.2.2.2.2.2.2.2.2.2.2.2.2.2.2.2.2.2.2.2.2.2.1, t_8.2.2.2.2.2.2.2.2.2.2.2.2.2.2.2.2.2.2.2.2.2.2.2.2.2.2.2.2.2.2.2.2.2.2.2.2.2.2.2.2.2.2.2.1, t_8.2.2.2.2.2.2.2.2.2.2.2.2.2.2.2.2.2.2.2.2.2.2.2.2.2.2.2.2.2.2.2.2.2.2.2.2.2.2.2.2.2.2.2.2.1, t_8.2.2.2.2.2.2.2.2.2.2.2.2.2.2.2.2.2.2.2.2.2.2.2.2.2.2.2.2.2.2.2.2.2.2.2.2.2.2.2.2.2.2.2.2.2))
abbrev r_k_L_asked_5 : Type := Int32 × Int32
def m_k_L_asked_5 (pn : Int32) (pl : Nat → Int32) (on : Int32) (su : Nat → Int64) (ob : Nat → Int32) (nn : Int32) (kp : Int32) (se : Nat → Int32) (a1 : Int32) (a2 : Int32) (a3 : Int32) (a4 : Int32) : r_k_L_asked_5 :=
  lE (m_k_X10_has pn pl on su ob nn kp se a1 a2 a3 a4) (fun t_101 =>
    if t_101.1 = 0 then
      lE (m_k_L_told t_101.2) (fun t_104 =>
        (0, t_104))
    else
      if t_101.1 = 1 then
        (1, 0)
      else
        if t_101.1 = 2 then
          (2, 0)
        else
          (3, 0))
abbrev r_k_L_ask_5 : Type := Int32
def m_k_L_ask_5 (pn : Int32) (pl : Nat → Int32) (on : Int32) (su : Nat → Int64) (ob : Nat → Int32) (nn : Int32) (kp : Int32) (se : Nat → Int32) (a1 : Int32) (a2 : Int32) (a3 : Int32) (a4 : Int32) : r_k_L_ask_5 :=
  lE (m_k_L_asked_5 pn pl on su ob nn kp se a1 a2 a3 a4) (fun t_8 =>
    if t_8.1 = 0 then
      t_8.2
    else
      if t_8.1 = 1 then
        (-2001)
      else
        if t_8.1 = 2 then
          (-2002)
        else
          (-2003))
abbrev r_k_L_asked_6 : Type := Int32 × Int32
def m_k_L_asked_6 (su : Nat → Int64) (nn : Int32) (kp : Int32) (se : Nat → Int32) (a1 : Int32) : r_k_L_asked_6 :=
  lE (m_k_X10_size su nn kp se a1) (fun t_110 =>
    if t_110.1 = 0 then
      (0, t_110.2)
    else
      if t_110.1 = 1 then
        (1, 0)
      else
        (3, 0))
abbrev r_k_L_ask_6 : Type := Int32
def m_k_L_ask_6 (su : Nat → Int64) (nn : Int32) (kp : Int32) (se : Nat → Int32) (a1 : Int32) : r_k_L_ask_6 :=
  lE (m_k_L_asked_6 su nn kp se a1) (fun t_8 =>
    if t_8.1 = 0 then
      t_8.2
    else
      if t_8.1 = 1 then
        (-2001)
      else
        (-2003))
abbrev r_k_L_asked_7 : Type := Int32 × Int32
def m_k_L_asked_7 (nn : Int32) (kp : Int32) (se : Nat → Int32) (co : Nat → Int64) (a1 : Int32) (a2 : Int32) : r_k_L_asked_7 :=
  lE (m_k_X10_cost nn kp se co a1 a2) (fun t_117 =>
    if t_117.1 = 0 then
      (0, t_117.2.toInt32)
    else
      if t_117.1 = 1 then
        (1, 0)
      else
        if t_117.1 = 2 then
          (2, 0)
        else
          (3, 0))
abbrev r_k_L_ask_7 : Type := Int32
def m_k_L_ask_7 (nn : Int32) (kp : Int32) (se : Nat → Int32) (co : Nat → Int64) (a1 : Int32) (a2 : Int32) : r_k_L_ask_7 :=
  lE (m_k_L_asked_7 nn kp se co a1 a2) (fun t_8 =>
    if t_8.1 = 0 then
      t_8.2
    else
      if t_8.1 = 1 then
        (-2001)
      else
        if t_8.1 = 2 then
          (-2002)
        else
          (-2003))
abbrev r_k_L_asked_8 : Type := Int32 × Int32
def m_k_L_asked_8 (nn : Int32) (kp : Int32) (co : Nat → Int64) : r_k_L_asked_8 :=
  lE (m_k_X10_best nn kp co) (fun t_123 =>
    if t_123.1 = 0 then
      (0, t_123.2)
    else
      (3, 0))
abbrev r_k_L_ask_8 : Type := Int32
def m_k_L_ask_8 (nn : Int32) (kp : Int32) (co : Nat → Int64) : r_k_L_ask_8 :=
  lE (m_k_L_asked_8 nn kp co) (fun t_8 =>
    if t_8.1 = 0 then
      t_8.2
    else
      (-2003))
abbrev r_k_L_asked_9 : Type := Int32 × Int32
def m_k_L_asked_9 (pn : Int32) (obi : Nat → Int32) (nn : Int32) (kp : Int32) (se : Nat → Int32) (a1 : Int32) : r_k_L_asked_9 :=
  lE (m_k_X10_projected pn obi nn kp se a1) (fun t_129 =>
    if t_129.1 = 0 then
      (0, t_129.2)
    else
      if t_129.1 = 1 then
        (1, 0)
      else
        (3, 0))
abbrev r_k_L_ask_9 : Type := Int32
def m_k_L_ask_9 (pn : Int32) (obi : Nat → Int32) (nn : Int32) (kp : Int32) (se : Nat → Int32) (a1 : Int32) : r_k_L_ask_9 :=
  lE (m_k_L_asked_9 pn obi nn kp se a1) (fun t_8 =>
    if t_8.1 = 0 then
      t_8.2
    else
      if t_8.1 = 1 then
        (-2001)
      else
        (-2003))
abbrev r_k_L_asked_10 : Type := Int32 × Int32
def m_k_L_asked_10 (pn : Int32) (pl : Nat → Int32) (on : Int32) (su : Nat → Int64) (ob : Nat → Int32) (nn : Int32) (kp : Int32) (se : Nat → Int32) (a1 : Int32) (a2 : Int32) (a3 : Int32) : r_k_L_asked_10 :=
  lE (m_k_X10_holds pn pl on su ob nn kp se a1 a2 a3) (fun t_138 =>
    if t_138.1 = 0 then
      (0, t_138.2)
    else
      if t_138.1 = 1 then
        (1, 0)
      else
        if t_138.1 = 2 then
          (2, 0)
        else
          (3, 0))
abbrev r_k_L_ask_10 : Type := Int32
def m_k_L_ask_10 (pn : Int32) (pl : Nat → Int32) (on : Int32) (su : Nat → Int64) (ob : Nat → Int32) (nn : Int32) (kp : Int32) (se : Nat → Int32) (a1 : Int32) (a2 : Int32) (a3 : Int32) : r_k_L_ask_10 :=
  lE (m_k_L_asked_10 pn pl on su ob nn kp se a1 a2 a3) (fun t_8 =>
    if t_8.1 = 0 then
      t_8.2
    else
      if t_8.1 = 1 then
        (-2001)
      else
        if t_8.1 = 2 then
          (-2002)
        else
          (-2003))
abbrev r_k_L_asked_11 : Type := Int32 × Int32 × (Nat → Int32) × Int32 × Int32 × Int32 × Int32 × Int32
def m_k_L_asked_11 (pp : pT) (pn : Int32) (rn : Int32) (en : Int32) (pl : Nat → Int32) (rf : Nat → Option Nat) (ea : Nat → Int32) (es : Nat → Int32) (hn : Int32) (kn : Int32) (on : Int32) (b_1 : Int32) (b_2 : Int32) (b_3 : Int32) (b_p : Int32) (su : Nat → Int64) (hds : Nat → Int32) (kr : Nat → Int32) (kv : Nat → Int32) (ob : Nat → Int32) (obi : Nat → Int32) (sc : Nat → Int32) (nn : Int32) (kp : Int32) (se : Nat → Int32) (a1 : Int32) (a2 : Int32) (a3 : Int32) (a4 : Int32) : r_k_L_asked_11 :=
  lE (m_k_X10_reason pp pn rn en pl rf ea es hn kn on b_1 b_2 b_3 b_p su hds kr kv ob obi sc nn kp se a1 a2 a3 a4) (fun t_149 =>
    if t_149.1 = 0 then
      (0, t_149.2.1, t_149.2.2.1, t_149.2.2.2.1, t_149.2.2.2.2.1, t_149.2.2.2.2.2.1, t_149.2.2.2.2.2.2.1, t_149.2.2.2.2.2.2.2)
    else
      if t_149.1 = 1 then
        (1, 0, t_149.2.2.1, t_149.2.2.2.1, t_149.2.2.2.2.1, t_149.2.2.2.2.2.1, t_149.2.2.2.2.2.2.1, t_149.2.2.2.2.2.2.2)
      else
        if t_149.1 = 2 then
          (2, 0, t_149.2.2.1, t_149.2.2.2.1, t_149.2.2.2.2.1, t_149.2.2.2.2.2.1, t_149.2.2.2.2.2.2.1, t_149.2.2.2.2.2.2.2)
        else
          if t_149.1 = 3 then
            (3, 0, t_149.2.2.1, t_149.2.2.2.1, t_149.2.2.2.2.1, t_149.2.2.2.2.2.1, t_149.2.2.2.2.2.2.1, t_149.2.2.2.2.2.2.2)
          else
            (5, 0, t_149.2.2.1, t_149.2.2.2.1, t_149.2.2.2.2.1, t_149.2.2.2.2.2.1, t_149.2.2.2.2.2.2.1, t_149.2.2.2.2.2.2.2))
abbrev r_k_L_ask_11 : Type := Int32 × (Nat → Int32) × Int32 × Int32 × Int32 × Int32 × Int32
def m_k_L_ask_11 (pp : pT) (pn : Int32) (rn : Int32) (en : Int32) (pl : Nat → Int32) (rf : Nat → Option Nat) (ea : Nat → Int32) (es : Nat → Int32) (hn : Int32) (kn : Int32) (on : Int32) (b_1 : Int32) (b_2 : Int32) (b_3 : Int32) (b_p : Int32) (su : Nat → Int64) (hds : Nat → Int32) (kr : Nat → Int32) (kv : Nat → Int32) (ob : Nat → Int32) (obi : Nat → Int32) (sc : Nat → Int32) (nn : Int32) (kp : Int32) (se : Nat → Int32) (a1 : Int32) (a2 : Int32) (a3 : Int32) (a4 : Int32) : r_k_L_ask_11 :=
  lE (m_k_L_asked_11 pp pn rn en pl rf ea es hn kn on b_1 b_2 b_3 b_p su hds kr kv ob obi sc nn kp se a1 a2 a3 a4) (fun t_8 =>
    if t_8.1 = 0 then
      (t_8.2.1, t_8.2.2.1, t_8.2.2.2.1, t_8.2.2.2.2.1, t_8.2.2.2.2.2.1, t_8.2.2.2.2.2.2.1, t_8.2.2.2.2.2.2.2)
    else
      if t_8.1 = 1 then
        ((-2001), t_8.2.2.1, t_8.2.2.2.1, t_8.2.2.2.2.1, t_8.2.2.2.2.2.1, t_8.2.2.2.2.2.2.1, t_8.2.2.2.2.2.2.2)
      else
        if t_8.1 = 2 then
          ((-2002), t_8.2.2.1, t_8.2.2.2.1, t_8.2.2.2.2.1, t_8.2.2.2.2.2.1, t_8.2.2.2.2.2.2.1, t_8.2.2.2.2.2.2.2)
        else
          if t_8.1 = 3 then
            ((-2003), t_8.2.2.1, t_8.2.2.2.1, t_8.2.2.2.2.1, t_8.2.2.2.2.2.1, t_8.2.2.2.2.2.2.1, t_8.2.2.2.2.2.2.2)
          else
            ((-2005), t_8.2.2.1, t_8.2.2.2.1, t_8.2.2.2.2.1, t_8.2.2.2.2.2.1, t_8.2.2.2.2.2.2.1, t_8.2.2.2.2.2.2.2))
abbrev r_k_L_asked_12 : Type := Int32 × Int32
def m_k_L_asked_12 (on : Int32) (su : Nat → Int64) (oa : Nat → Int32) (ob : Nat → Int32) (nn : Int32) (kp : Int32) (se : Nat → Int32) : r_k_L_asked_12 :=
  lE (m_k_X10_commonest on su oa ob nn kp se) (fun t_154 =>
    if t_154.1 = 0 then
      (0, t_154.2)
    else
      if t_154.1 = 3 then
        (3, 0)
      else
        (5, 0))
abbrev r_k_L_ask_12 : Type := Int32
def m_k_L_ask_12 (on : Int32) (su : Nat → Int64) (oa : Nat → Int32) (ob : Nat → Int32) (nn : Int32) (kp : Int32) (se : Nat → Int32) : r_k_L_ask_12 :=
  lE (m_k_L_asked_12 on su oa ob nn kp se) (fun t_8 =>
    if t_8.1 = 0 then
      t_8.2
    else
      if t_8.1 = 3 then
        (-2003)
      else
        (-2005))
abbrev r_k_L_plain_4 : Type := Int32 × Int32 × Int32 × Int32 × Int32 × Int32 × Int32 × Int32 × Int32 × Int32 × Int32 × Int32 × Int32 × Int32 × Int32
def m_k_L_plain_4 (pn : Int32) (rn : Int32) (pl : Nat → Int32) (rf : Nat → Option Nat) (cu : Int32) (ic : Int32) (kp : Int32) (y_k : Int32) (y_hc : Int32) (a1 : Int32) (a2 : Int32) (a3 : Int32) (a4 : Int32) : r_k_L_plain_4 :=
  lE (m_k_X10_addHead pn rn pl rf cu ic kp y_k y_hc a1 a2 a3 a4) (fun t_107 =>
    if t_107.1 = 0 then
      if t_107.2.1 = 0 then
        (0, 0, t_107.2.2.1, t_107.2.2.2.1, t_107.2.2.2.2.1, t_107.2.2.2.2.2.1, t_107.2.2.2.2.2.2.1, t_107.2.2.2.2.2.2.2.1, t_107.2.2.2.2.2.2.2.2.1, t_107.2.2.2.2.2.2.2.2.2.1, t_107.2.2.2.2.2.2.2.2.2.2.1, t_107.2.2.2.2.2.2.2.2.2.2.2.1, t_107.2.2.2.2.2.2.2.2.2.2.2.2.1, t_107.2.2.2.2.2.2.2.2.2.2.2.2.2.1, t_107.2.2.2.2.2.2.2.2.2.2.2.2.2.2)
      else
        (0, 1, t_107.2.2.1, t_107.2.2.2.1, t_107.2.2.2.2.1, t_107.2.2.2.2.2.1, t_107.2.2.2.2.2.2.1, t_107.2.2.2.2.2.2.2.1, t_107.2.2.2.2.2.2.2.2.1, t_107.2.2.2.2.2.2.2.2.2.1, t_107.2.2.2.2.2.2.2.2.2.2.1, t_107.2.2.2.2.2.2.2.2.2.2.2.1, t_107.2.2.2.2.2.2.2.2.2.2.2.2.1, t_107.2.2.2.2.2.2.2.2.2.2.2.2.2.1, t_107.2.2.2.2.2.2.2.2.2.2.2.2.2.2)
    else
      if t_107.1 = 1 then
        (1, 0, 0, 0, 0, 0, 0, 0, 0, 0, 0, t_107.2.2.2.2.2.2.2.2.2.2.2.1, t_107.2.2.2.2.2.2.2.2.2.2.2.2.1, t_107.2.2.2.2.2.2.2.2.2.2.2.2.2.1, t_107.2.2.2.2.2.2.2.2.2.2.2.2.2.2)
      else
        if t_107.1 = 2 then
          (2, 0, 0, 0, 0, 0, 0, 0, 0, 0, 0, t_107.2.2.2.2.2.2.2.2.2.2.2.1, t_107.2.2.2.2.2.2.2.2.2.2.2.2.1, t_107.2.2.2.2.2.2.2.2.2.2.2.2.2.1, t_107.2.2.2.2.2.2.2.2.2.2.2.2.2.2)
        else
          (3, 0, 0, 0, 0, 0, 0, 0, 0, 0, 0, t_107.2.2.2.2.2.2.2.2.2.2.2.1, t_107.2.2.2.2.2.2.2.2.2.2.2.2.1, t_107.2.2.2.2.2.2.2.2.2.2.2.2.2.1, t_107.2.2.2.2.2.2.2.2.2.2.2.2.2.2))
abbrev r_k_L_deed_4 : Type := Int32 × Int32 × Int32 × Int32 × Int32 × Int32 × Int32 × Int32 × Int32 × Int32 × Int32 × Int32 × Int32 × Int32
def m_k_L_deed_4 (pn : Int32) (rn : Int32) (pl : Nat → Int32) (rf : Nat → Option Nat) (cu : Int32) (ic : Int32) (kp : Int32) (y_k : Int32) (y_hc : Int32) (a1 : Int32) (a2 : Int32) (a3 : Int32) (a4 : Int32) : r_k_L_deed_4 :=
  lE (m_k_L_plain_4 pn rn pl rf cu ic kp y_k y_hc a1 a2 a3 a4) (fun t_10 =>
    if t_10.1 = 0 then
      if t_10.2.1 = 0 then
        (1, t_10.2.2.1, t_10.2.2.2.1, t_10.2.2.2.2.1, t_10.2.2.2.2.2.1, t_10.2.2.2.2.2.2.1, t_10.2.2.2.2.2.2.2.1, t_10.2.2.2.2.2.2.2.2.1, t_10.2.2.2.2.2.2.2.2.2.1, t_10.2.2.2.2.2.2.2.2.2.2.1, t_10.2.2.2.2.2.2.2.2.2.2.2.1, t_10.2.2.2.2.2.2.2.2.2.2.2.2.1, t_10.2.2.2.2.2.2.2.2.2.2.2.2.2.1, t_10.2.2.2.2.2.2.2.2.2.2.2.2.2.2)
      else
        (2, t_10.2.2.1, t_10.2.2.2.1, t_10.2.2.2.2.1, t_10.2.2.2.2.2.1, t_10.2.2.2.2.2.2.1, t_10.2.2.2.2.2.2.2.1, t_10.2.2.2.2.2.2.2.2.1, t_10.2.2.2.2.2.2.2.2.2.1, t_10.2.2.2.2.2.2.2.2.2.2.1, t_10.2.2.2.2.2.2.2.2.2.2.2.1, t_10.2.2.2.2.2.2.2.2.2.2.2.2.1, t_10.2.2.2.2.2.2.2.2.2.2.2.2.2.1, t_10.2.2.2.2.2.2.2.2.2.2.2.2.2.2)
    else
      if t_10.1 = 1 then
        (0, (-2001), 0, 0, 0, 0, 0, 0, 0, 0, t_10.2.2.2.2.2.2.2.2.2.2.2.1, t_10.2.2.2.2.2.2.2.2.2.2.2.2.1, t_10.2.2.2.2.2.2.2.2.2.2.2.2.2.1, t_10.2.2.2.2.2.2.2.2.2.2.2.2.2.2)
      else
        if t_10.1 = 2 then
          (0, (-2002), 0, 0, 0, 0, 0, 0, 0, 0, t_10.2.2.2.2.2.2.2.2.2.2.2.1, t_10.2.2.2.2.2.2.2.2.2.2.2.2.1, t_10.2.2.2.2.2.2.2.2.2.2.2.2.2.1, t_10.2.2.2.2.2.2.2.2.2.2.2.2.2.2)
        else
          (0, (-2003), 0, 0, 0, 0, 0, 0, 0, 0, t_10.2.2.2.2.2.2.2.2.2.2.2.1, t_10.2.2.2.2.2.2.2.2.2.2.2.2.1, t_10.2.2.2.2.2.2.2.2.2.2.2.2.2.1, t_10.2.2.2.2.2.2.2.2.2.2.2.2.2.2))
abbrev r_k_L_plain_5 : Type := Int32 × Int32 × Int32 × Int32 × Int32 × Int32 × Int32 × Int32 × Int32 × Int32 × Int32 × Int32 × Int32 × Int32 × Int32
def m_k_L_plain_5_123 (pn : Int32) (rn : Int32) (pl : Nat → Int32) (rf : Nat → Option Nat) (cu : Int32) (ic : Int32) (kp : Int32) (y_sp : Int32) (y_cc : Int32) (a1 : Int32) (a3 : Int32) (a4 : Int32) (a5 : Int32) (s0_123 : Int32) : r_k_L_plain_5 :=
  lE (m_k_X10_addAtom pn rn pl rf cu ic kp y_sp y_cc a1 s0_123 a3 a4 a5) (fun t_129 =>
    if t_129.1 = 0 then
      if t_129.2.1 = 0 then
        (0, 0, t_129.2.2.1, t_129.2.2.2.1, t_129.2.2.2.2.1, t_129.2.2.2.2.2.1, t_129.2.2.2.2.2.2.1, t_129.2.2.2.2.2.2.2.1, t_129.2.2.2.2.2.2.2.2.1, t_129.2.2.2.2.2.2.2.2.2.1, t_129.2.2.2.2.2.2.2.2.2.2.1, t_129.2.2.2.2.2.2.2.2.2.2.2.1, t_129.2.2.2.2.2.2.2.2.2.2.2.2.1, t_129.2.2.2.2.2.2.2.2.2.2.2.2.2.1, t_129.2.2.2.2.2.2.2.2.2.2.2.2.2.2)
      else
        (0, 1, t_129.2.2.1, t_129.2.2.2.1, t_129.2.2.2.2.1, t_129.2.2.2.2.2.1, t_129.2.2.2.2.2.2.1, t_129.2.2.2.2.2.2.2.1, t_129.2.2.2.2.2.2.2.2.1, t_129.2.2.2.2.2.2.2.2.2.1, t_129.2.2.2.2.2.2.2.2.2.2.1, t_129.2.2.2.2.2.2.2.2.2.2.2.1, t_129.2.2.2.2.2.2.2.2.2.2.2.2.1, t_129.2.2.2.2.2.2.2.2.2.2.2.2.2.1, t_129.2.2.2.2.2.2.2.2.2.2.2.2.2.2)
    else
      if t_129.1 = 1 then
        (1, 0, 0, 0, 0, 0, 0, 0, 0, 0, 0, t_129.2.2.2.2.2.2.2.2.2.2.2.1, t_129.2.2.2.2.2.2.2.2.2.2.2.2.1, t_129.2.2.2.2.2.2.2.2.2.2.2.2.2.1, t_129.2.2.2.2.2.2.2.2.2.2.2.2.2.2)
      else
        if t_129.1 = 2 then
          (2, 0, 0, 0, 0, 0, 0, 0, 0, 0, 0, t_129.2.2.2.2.2.2.2.2.2.2.2.1, t_129.2.2.2.2.2.2.2.2.2.2.2.2.1, t_129.2.2.2.2.2.2.2.2.2.2.2.2.2.1, t_129.2.2.2.2.2.2.2.2.2.2.2.2.2.2)
        else
          (3, 0, 0, 0, 0, 0, 0, 0, 0, 0, 0, t_129.2.2.2.2.2.2.2.2.2.2.2.1, t_129.2.2.2.2.2.2.2.2.2.2.2.2.1, t_129.2.2.2.2.2.2.2.2.2.2.2.2.2.1, t_129.2.2.2.2.2.2.2.2.2.2.2.2.2.2))
def m_k_L_plain_5 (pn : Int32) (rn : Int32) (pl : Nat → Int32) (rf : Nat → Option Nat) (cu : Int32) (ic : Int32) (kp : Int32) (y_sp : Int32) (y_cc : Int32) (a1 : Int32) (a2 : Int32) (a3 : Int32) (a4 : Int32) (a5 : Int32) : r_k_L_plain_5 :=
  if a2 = 1 then
    m_k_L_plain_5_123 pn rn pl rf cu ic kp y_sp y_cc a1 a3 a4 a5 1
  else
    m_k_L_plain_5_123 pn rn pl rf cu ic kp y_sp y_cc a1 a3 a4 a5 0
abbrev r_k_L_deed_5 : Type := Int32 × Int32 × Int32 × Int32 × Int32 × Int32 × Int32 × Int32 × Int32 × Int32 × Int32 × Int32 × Int32 × Int32
def m_k_L_deed_5 (pn : Int32) (rn : Int32) (pl : Nat → Int32) (rf : Nat → Option Nat) (cu : Int32) (ic : Int32) (kp : Int32) (y_sp : Int32) (y_cc : Int32) (a1 : Int32) (a2 : Int32) (a3 : Int32) (a4 : Int32) (a5 : Int32) : r_k_L_deed_5 :=
  lE (m_k_L_plain_5 pn rn pl rf cu ic kp y_sp y_cc a1 a2 a3 a4 a5) (fun t_10 =>
    if t_10.1 = 0 then
      if t_10.2.1 = 0 then
        (1, t_10.2.2.1, t_10.2.2.2.1, t_10.2.2.2.2.1, t_10.2.2.2.2.2.1, t_10.2.2.2.2.2.2.1, t_10.2.2.2.2.2.2.2.1, t_10.2.2.2.2.2.2.2.2.1, t_10.2.2.2.2.2.2.2.2.2.1, t_10.2.2.2.2.2.2.2.2.2.2.1, t_10.2.2.2.2.2.2.2.2.2.2.2.1, t_10.2.2.2.2.2.2.2.2.2.2.2.2.1, t_10.2.2.2.2.2.2.2.2.2.2.2.2.2.1, t_10.2.2.2.2.2.2.2.2.2.2.2.2.2.2)
      else
        (2, t_10.2.2.1, t_10.2.2.2.1, t_10.2.2.2.2.1, t_10.2.2.2.2.2.1, t_10.2.2.2.2.2.2.1, t_10.2.2.2.2.2.2.2.1, t_10.2.2.2.2.2.2.2.2.1, t_10.2.2.2.2.2.2.2.2.2.1, t_10.2.2.2.2.2.2.2.2.2.2.1, t_10.2.2.2.2.2.2.2.2.2.2.2.1, t_10.2.2.2.2.2.2.2.2.2.2.2.2.1, t_10.2.2.2.2.2.2.2.2.2.2.2.2.2.1, t_10.2.2.2.2.2.2.2.2.2.2.2.2.2.2)
    else
      if t_10.1 = 1 then
        (0, (-2001), 0, 0, 0, 0, 0, 0, 0, 0, t_10.2.2.2.2.2.2.2.2.2.2.2.1, t_10.2.2.2.2.2.2.2.2.2.2.2.2.1, t_10.2.2.2.2.2.2.2.2.2.2.2.2.2.1, t_10.2.2.2.2.2.2.2.2.2.2.2.2.2.2)
      else
        if t_10.1 = 2 then
          (0, (-2002), 0, 0, 0, 0, 0, 0, 0, 0, t_10.2.2.2.2.2.2.2.2.2.2.2.1, t_10.2.2.2.2.2.2.2.2.2.2.2.2.1, t_10.2.2.2.2.2.2.2.2.2.2.2.2.2.1, t_10.2.2.2.2.2.2.2.2.2.2.2.2.2.2)
        else
          (0, (-2003), 0, 0, 0, 0, 0, 0, 0, 0, t_10.2.2.2.2.2.2.2.2.2.2.2.1, t_10.2.2.2.2.2.2.2.2.2.2.2.2.1, t_10.2.2.2.2.2.2.2.2.2.2.2.2.2.1, t_10.2.2.2.2.2.2.2.2.2.2.2.2.2.2))
abbrev r_k_L_plain_7 : Type := Int32 × Int32 × Int32 × Int32 × Int32 × Int32 × Int32 × Int32 × Int32 × Int32 × Int32 × Int32 × Int32 × Int32 × Int32
def m_k_L_plain_7 (pn : Int32) (rn : Int32) (rf : Nat → Option Nat) (cu : Int32) (ic : Int32) (kp : Int32) (y_cc : Int32) (a1 : Int32) (a2 : Int32) (a3 : Int32) (a4 : Int32) : r_k_L_plain_7 :=
  lE (m_k_X10_addCount pn rn rf cu ic kp y_cc a1 ((a2.toUInt32 % 65536).toInt32) a3 a4) (fun t_153 =>
    if t_153.1 = 0 then
      if t_153.2.1 = 0 then
        (0, 0, t_153.2.2.1, t_153.2.2.2.1, t_153.2.2.2.2.1, t_153.2.2.2.2.2.1, t_153.2.2.2.2.2.2.1, t_153.2.2.2.2.2.2.2.1, t_153.2.2.2.2.2.2.2.2.1, t_153.2.2.2.2.2.2.2.2.2.1, t_153.2.2.2.2.2.2.2.2.2.2.1, t_153.2.2.2.2.2.2.2.2.2.2.2.1, t_153.2.2.2.2.2.2.2.2.2.2.2.2.1, t_153.2.2.2.2.2.2.2.2.2.2.2.2.2.1, t_153.2.2.2.2.2.2.2.2.2.2.2.2.2.2)
      else
        (0, 1, t_153.2.2.1, t_153.2.2.2.1, t_153.2.2.2.2.1, t_153.2.2.2.2.2.1, t_153.2.2.2.2.2.2.1, t_153.2.2.2.2.2.2.2.1, t_153.2.2.2.2.2.2.2.2.1, t_153.2.2.2.2.2.2.2.2.2.1, t_153.2.2.2.2.2.2.2.2.2.2.1, t_153.2.2.2.2.2.2.2.2.2.2.2.1, t_153.2.2.2.2.2.2.2.2.2.2.2.2.1, t_153.2.2.2.2.2.2.2.2.2.2.2.2.2.1, t_153.2.2.2.2.2.2.2.2.2.2.2.2.2.2)
    else
      if t_153.1 = 1 then
        (1, 0, 0, 0, 0, 0, 0, 0, 0, 0, 0, t_153.2.2.2.2.2.2.2.2.2.2.2.1, t_153.2.2.2.2.2.2.2.2.2.2.2.2.1, t_153.2.2.2.2.2.2.2.2.2.2.2.2.2.1, t_153.2.2.2.2.2.2.2.2.2.2.2.2.2.2)
      else
        if t_153.1 = 2 then
          (2, 0, 0, 0, 0, 0, 0, 0, 0, 0, 0, t_153.2.2.2.2.2.2.2.2.2.2.2.1, t_153.2.2.2.2.2.2.2.2.2.2.2.2.1, t_153.2.2.2.2.2.2.2.2.2.2.2.2.2.1, t_153.2.2.2.2.2.2.2.2.2.2.2.2.2.2)
        else
          (3, 0, 0, 0, 0, 0, 0, 0, 0, 0, 0, t_153.2.2.2.2.2.2.2.2.2.2.2.1, t_153.2.2.2.2.2.2.2.2.2.2.2.2.1, t_153.2.2.2.2.2.2.2.2.2.2.2.2.2.1, t_153.2.2.2.2.2.2.2.2.2.2.2.2.2.2))
abbrev r_k_L_deed_7 : Type := Int32 × Int32 × Int32 × Int32 × Int32 × Int32 × Int32 × Int32 × Int32 × Int32 × Int32 × Int32 × Int32 × Int32
def m_k_L_deed_7 (pn : Int32) (rn : Int32) (rf : Nat → Option Nat) (cu : Int32) (ic : Int32) (kp : Int32) (y_cc : Int32) (a1 : Int32) (a2 : Int32) (a3 : Int32) (a4 : Int32) : r_k_L_deed_7 :=
  lE (m_k_L_plain_7 pn rn rf cu ic kp y_cc a1 a2 a3 a4) (fun t_10 =>
    if t_10.1 = 0 then
      if t_10.2.1 = 0 then
        (1, t_10.2.2.1, t_10.2.2.2.1, t_10.2.2.2.2.1, t_10.2.2.2.2.2.1, t_10.2.2.2.2.2.2.1, t_10.2.2.2.2.2.2.2.1, t_10.2.2.2.2.2.2.2.2.1, t_10.2.2.2.2.2.2.2.2.2.1, t_10.2.2.2.2.2.2.2.2.2.2.1, t_10.2.2.2.2.2.2.2.2.2.2.2.1, t_10.2.2.2.2.2.2.2.2.2.2.2.2.1, t_10.2.2.2.2.2.2.2.2.2.2.2.2.2.1, t_10.2.2.2.2.2.2.2.2.2.2.2.2.2.2)
      else
        (2, t_10.2.2.1, t_10.2.2.2.1, t_10.2.2.2.2.1, t_10.2.2.2.2.2.1, t_10.2.2.2.2.2.2.1, t_10.2.2.2.2.2.2.2.1, t_10.2.2.2.2.2.2.2.2.1, t_10.2.2.2.2.2.2.2.2.2.1, t_10.2.2.2.2.2.2.2.2.2.2.1, t_10.2.2.2.2.2.2.2.2.2.2.2.1, t_10.2.2.2.2.2.2.2.2.2.2.2.2.1, t_10.2.2.2.2.2.2.2.2.2.2.2.2.2.1, t_10.2.2.2.2.2.2.2.2.2.2.2.2.2.2)
    else
      if t_10.1 = 1 then
        (0, (-2001), 0, 0, 0, 0, 0, 0, 0, 0, t_10.2.2.2.2.2.2.2.2.2.2.2.1, t_10.2.2.2.2.2.2.2.2.2.2.2.2.1, t_10.2.2.2.2.2.2.2.2.2.2.2.2.2.1, t_10.2.2.2.2.2.2.2.2.2.2.2.2.2.2)
      else
        if t_10.1 = 2 then
          (0, (-2002), 0, 0, 0, 0, 0, 0, 0, 0, t_10.2.2.2.2.2.2.2.2.2.2.2.1, t_10.2.2.2.2.2.2.2.2.2.2.2.2.1, t_10.2.2.2.2.2.2.2.2.2.2.2.2.2.1, t_10.2.2.2.2.2.2.2.2.2.2.2.2.2.2)
        else
          (0, (-2003), 0, 0, 0, 0, 0, 0, 0, 0, t_10.2.2.2.2.2.2.2.2.2.2.2.1, t_10.2.2.2.2.2.2.2.2.2.2.2.2.1, t_10.2.2.2.2.2.2.2.2.2.2.2.2.2.1, t_10.2.2.2.2.2.2.2.2.2.2.2.2.2.2))
abbrev r_k_L_atom_2 : Type := Int32 × Int32 × Int32 × Int32 × Int32 × Int32 × Int32 × Int32 × Int32 × Int32 × Int32 × Int32 × Int32 × Int32
def m_k_L_atom_2 (pn : Int32) (rn : Int32) (pl : Nat → Int32) (rf : Nat → Option Nat) (cu : Int32) (ic : Int32) (kp : Int32) (y_k : Int32) (y_hc : Int32) (a1 : Int32) (a3 : Int32) (a4 : Int32) (a5 : Int32) : r_k_L_atom_2 :=
  lE (m_k_L_deed_4 pn rn pl rf cu ic kp y_k y_hc a1 a3 a4 a5) (fun t_14 =>
    if t_14.1 = 0 then
      (0, t_14.2.1, 0, 0, 0, 0, 0, 0, 0, 0, t_14.2.2.2.2.2.2.2.2.2.2.1, t_14.2.2.2.2.2.2.2.2.2.2.2.1, t_14.2.2.2.2.2.2.2.2.2.2.2.2.1, t_14.2.2.2.2.2.2.2.2.2.2.2.2.2)
    else
      if t_14.1 = 1 then
        (1, t_14.2.1, t_14.2.2.1, t_14.2.2.2.1, t_14.2.2.2.2.1, t_14.2.2.2.2.2.1, t_14.2.2.2.2.2.2.1, t_14.2.2.2.2.2.2.2.1, t_14.2.2.2.2.2.2.2.2.1, t_14.2.2.2.2.2.2.2.2.2.1, t_14.2.2.2.2.2.2.2.2.2.2.1, t_14.2.2.2.2.2.2.2.2.2.2.2.1, t_14.2.2.2.2.2.2.2.2.2.2.2.2.1, t_14.2.2.2.2.2.2.2.2.2.2.2.2.2)
      else
        (2, t_14.2.1, t_14.2.2.1, t_14.2.2.2.1, t_14.2.2.2.2.1, t_14.2.2.2.2.2.1, t_14.2.2.2.2.2.2.1, t_14.2.2.2.2.2.2.2.1, t_14.2.2.2.2.2.2.2.2.1, t_14.2.2.2.2.2.2.2.2.2.1, t_14.2.2.2.2.2.2.2.2.2.2.1, t_14.2.2.2.2.2.2.2.2.2.2.2.1, t_14.2.2.2.2.2.2.2.2.2.2.2.2.1, t_14.2.2.2.2.2.2.2.2.2.2.2.2.2))
abbrev r_k_L_atom_0 : Type := Int32 × Int32 × Int32 × Int32 × Int32 × Int32 × Int32 × Int32 × Int32 × Int32 × Int32 × Int32 × Int32 × Int32
def m_k_L_atom_0 (pn : Int32) (rn : Int32) (pl : Nat → Int32) (rf : Nat → Option Nat) (cu : Int32) (ic : Int32) (kp : Int32) (y_sp : Int32) (y_cc : Int32) (a1 : Int32) (a3 : Int32) (a4 : Int32) (a5 : Int32) : r_k_L_atom_0 :=
  lE (m_k_L_deed_5 pn rn pl rf cu ic kp y_sp y_cc a1 0 a3 a4 a5) (fun t_29 =>
    if t_29.1 = 0 then
      (0, t_29.2.1, 0, 0, 0, 0, 0, 0, 0, 0, t_29.2.2.2.2.2.2.2.2.2.2.1, t_29.2.2.2.2.2.2.2.2.2.2.2.1, t_29.2.2.2.2.2.2.2.2.2.2.2.2.1, t_29.2.2.2.2.2.2.2.2.2.2.2.2.2)
    else
      if t_29.1 = 1 then
        (1, t_29.2.1, t_29.2.2.1, t_29.2.2.2.1, t_29.2.2.2.2.1, t_29.2.2.2.2.2.1, t_29.2.2.2.2.2.2.1, t_29.2.2.2.2.2.2.2.1, t_29.2.2.2.2.2.2.2.2.1, t_29.2.2.2.2.2.2.2.2.2.1, t_29.2.2.2.2.2.2.2.2.2.2.1, t_29.2.2.2.2.2.2.2.2.2.2.2.1, t_29.2.2.2.2.2.2.2.2.2.2.2.2.1, t_29.2.2.2.2.2.2.2.2.2.2.2.2.2)
      else
        (2, t_29.2.1, t_29.2.2.1, t_29.2.2.2.1, t_29.2.2.2.2.1, t_29.2.2.2.2.2.1, t_29.2.2.2.2.2.2.1, t_29.2.2.2.2.2.2.2.1, t_29.2.2.2.2.2.2.2.2.1, t_29.2.2.2.2.2.2.2.2.2.1, t_29.2.2.2.2.2.2.2.2.2.2.1, t_29.2.2.2.2.2.2.2.2.2.2.2.1, t_29.2.2.2.2.2.2.2.2.2.2.2.2.1, t_29.2.2.2.2.2.2.2.2.2.2.2.2.2))
abbrev r_k_L_atom_1 : Type := Int32 × Int32 × Int32 × Int32 × Int32 × Int32 × Int32 × Int32 × Int32 × Int32 × Int32 × Int32 × Int32 × Int32
def m_k_L_atom_1 (pn : Int32) (rn : Int32) (pl : Nat → Int32) (rf : Nat → Option Nat) (cu : Int32) (ic : Int32) (kp : Int32) (y_sp : Int32) (y_cc : Int32) (a1 : Int32) (a3 : Int32) (a4 : Int32) (a5 : Int32) : r_k_L_atom_1 :=
  lE (m_k_L_deed_5 pn rn pl rf cu ic kp y_sp y_cc a1 1 a3 a4 a5) (fun t_29 =>
    if t_29.1 = 0 then
      (0, t_29.2.1, 0, 0, 0, 0, 0, 0, 0, 0, t_29.2.2.2.2.2.2.2.2.2.2.1, t_29.2.2.2.2.2.2.2.2.2.2.2.1, t_29.2.2.2.2.2.2.2.2.2.2.2.2.1, t_29.2.2.2.2.2.2.2.2.2.2.2.2.2)
    else
      if t_29.1 = 1 then
        (1, t_29.2.1, t_29.2.2.1, t_29.2.2.2.1, t_29.2.2.2.2.1, t_29.2.2.2.2.2.1, t_29.2.2.2.2.2.2.1, t_29.2.2.2.2.2.2.2.1, t_29.2.2.2.2.2.2.2.2.1, t_29.2.2.2.2.2.2.2.2.2.1, t_29.2.2.2.2.2.2.2.2.2.2.1, t_29.2.2.2.2.2.2.2.2.2.2.2.1, t_29.2.2.2.2.2.2.2.2.2.2.2.2.1, t_29.2.2.2.2.2.2.2.2.2.2.2.2.2)
      else
        (2, t_29.2.1, t_29.2.2.1, t_29.2.2.2.1, t_29.2.2.2.2.1, t_29.2.2.2.2.2.1, t_29.2.2.2.2.2.2.1, t_29.2.2.2.2.2.2.2.1, t_29.2.2.2.2.2.2.2.2.1, t_29.2.2.2.2.2.2.2.2.2.1, t_29.2.2.2.2.2.2.2.2.2.2.1, t_29.2.2.2.2.2.2.2.2.2.2.2.1, t_29.2.2.2.2.2.2.2.2.2.2.2.2.1, t_29.2.2.2.2.2.2.2.2.2.2.2.2.2))
abbrev r_k_L_setOf : Type := Int32
def m_k_L_setOf_34 (rec_5 : Int32 → Int32 → r_k_L_setOf) (v3_5 : Int32) (v4_5 : Int32) (s0_34 : Int32) : r_k_L_setOf :=
  rec_5 (v3_5 ||| s0_34) (v4_5 + 1)
def m_k_L_setOf_5s (pn : Int32) (pl : Nat → Int32) (on : Int32) (su : Nat → Int64) (ob : Nat → Int32) (nn : Int32) (kp : Int32) (se : Nat → Int32) (a1 : Int32) (a2 : Int32) (rec_5 : Int32 → Int32 → r_k_L_setOf) (v3_5 : Int32) (v4_5 : Int32) : r_k_L_setOf :=
  if a2 ≤ v4_5 then
    v3_5
  else
    lE (m_k_L_ask_5 pn pl on su ob nn kp se a1 v4_5 0 0) (fun t_19 =>
      if t_19 = 1 then
        m_k_L_setOf_34 rec_5 v3_5 v4_5 ((1 : Int32) <<< (v4_5 &&& 31))
      else
        m_k_L_setOf_34 rec_5 v3_5 v4_5 0)
def m_k_L_setOf_5 (pn : Int32) (pl : Nat → Int32) (on : Int32) (su : Nat → Int64) (ob : Nat → Int32) (nn : Int32) (kp : Int32) (se : Nat → Int32) (a1 : Int32) (a2 : Int32) : Nat → Int32 → Int32 → r_k_L_setOf
  | 0, _, _ => (0)
  | n + 1, v3_5, v4_5 => m_k_L_setOf_5s pn pl on su ob nn kp se a1 a2 (fun v3_5 v4_5 => m_k_L_setOf_5 pn pl on su ob nn kp se a1 a2 n v3_5 v4_5) v3_5 v4_5
theorem m_k_L_setOf_5_succ (pn : Int32) (pl : Nat → Int32) (on : Int32) (su : Nat → Int64) (ob : Nat → Int32) (nn : Int32) (kp : Int32) (se : Nat → Int32) (a1 : Int32) (a2 : Int32) (n : Nat) (v3_5 : Int32) (v4_5 : Int32) : m_k_L_setOf_5 pn pl on su ob nn kp se a1 a2 (n + 1) v3_5 v4_5 = m_k_L_setOf_5s pn pl on su ob nn kp se a1 a2 (m_k_L_setOf_5 pn pl on su ob nn kp se a1 a2 n) v3_5 v4_5 := rfl
def m_k_L_setOf (pn : Int32) (pl : Nat → Int32) (on : Int32) (su : Nat → Int64) (ob : Nat → Int32) (nn : Int32) (kp : Int32) (se : Nat → Int32) (a1 : Int32) (a2 : Int32) : r_k_L_setOf :=
  m_k_L_setOf_5 pn pl on su ob nn kp se a1 a2 wF 0 0
abbrev r_k_L_isWalked : Type := Int32 × Int32 × (Nat → Int64) × (Nat → Int64) × (Nat → Int32) × (Nat → Int32) × (Nat → Int32) × (Nat → Int32) × (Nat → Int32) × (Nat → Int32) × Int32 × Int32 × Int32 × Int32 × Int32 × Int32 × Int32 × Int32 × Int32 × Int32 × (Nat → Int32) × (Nat → Int32) × (Nat → Int32) × (Nat → Int32) × (Nat → Int32) × (Nat → Int32) × Int32 × (Nat → Int32) × (Nat → Int32) × (Nat → Int32) × (Nat → Int32) × (Nat → Int32) × (Nat → Int32) × (Nat → Int32) × (Nat → Int32) × (Nat → Int32) × (Nat → Int32) × Int32 × Int32 × (Nat → Int32) × (Nat → Int64) × Int32 × Int32 × Int32 × Int32 × Int32 × Int32 × Int32 × Int32 × Int32 × Int32
def m_k_L_isWalked_106 (rec_12 : Int32 → Int32 → (Nat → Int32) → r_k_L_isWalked) (v11_12 : Int32) (v10_106 : Int32) (q_2_f_106 : Nat → Int32) : r_k_L_isWalked :=
  rec_12 v10_106 (v11_12 + 1) q_2_f_106
def m_k_L_isWalked_96 (q_2_f_56 : Nat → Int32) (rec_12 : Int32 → Int32 → (Nat → Int32) → r_k_L_isWalked) (v10_12 : Int32) (v11_12 : Int32) (v12_56 : Int32) : r_k_L_isWalked :=
  m_k_L_isWalked_106 rec_12 v11_12 (v10_12 + 1) (upd q_2_f_56 v12_56.toNatClampNeg v11_12)
def m_k_L_isWalked_56s (pp : pT) (gf : Nat → Option Nat) (a1 : Int32) (rec_12 : Int32 → Int32 → (Nat → Int32) → r_k_L_isWalked) (v10_12 : Int32) (v11_12 : Int32) (rec_56 : Int32 → (Nat → Int32) → r_k_L_isWalked) (v12_56 : Int32) (q_2_f_56 : Nat → Int32) : r_k_L_isWalked :=
  if v12_56 ≤ 0 then
    m_k_L_isWalked_96 q_2_f_56 rec_12 v10_12 v11_12 v12_56
  else
    lE (m_k_L_isAhead pp gf a1 v11_12 (q_2_f_56 (v12_56 - 1).toNatClampNeg)) (fun t_72 =>
      if t_72 = 0 then
        m_k_L_isWalked_96 q_2_f_56 rec_12 v10_12 v11_12 v12_56
      else
        rec_56 (v12_56 + (-1)) (upd q_2_f_56 v12_56.toNatClampNeg (q_2_f_56 (v12_56 - 1).toNatClampNeg)))
def m_k_L_isWalked_56 (pp : pT) (gf : Nat → Option Nat) (a1 : Int32) (rec_12 : Int32 → Int32 → (Nat → Int32) → r_k_L_isWalked) (v10_12 : Int32) (v11_12 : Int32) : Nat → Int32 → (Nat → Int32) → r_k_L_isWalked
  | 0, _, _ => (0, 0, (fun _ => 0), (fun _ => 0), (fun _ => 0), (fun _ => 0), (fun _ => 0), (fun _ => 0), (fun _ => 0), (fun _ => 0), 0, 0, 0, 0, 0, 0, 0, 0, 0, 0, (fun _ => 0), (fun _ => 0), (fun _ => 0), (fun _ => 0), (fun _ => 0), (fun _ => 0), 0, (fun _ => 0), (fun _ => 0), (fun _ => 0), (fun _ => 0), (fun _ => 0), (fun _ => 0), (fun _ => 0), (fun _ => 0), (fun _ => 0), (fun _ => 0), 0, 0, (fun _ => 0), (fun _ => 0), 0, 0, 0, 0, 0, 0, 0, 0, 0, 0)
  | n + 1, v12_56, q_2_f_56 => m_k_L_isWalked_56s pp gf a1 rec_12 v10_12 v11_12 (fun v12_56 q_2_f_56 => m_k_L_isWalked_56 pp gf a1 rec_12 v10_12 v11_12 n v12_56 q_2_f_56) v12_56 q_2_f_56
theorem m_k_L_isWalked_56_succ (pp : pT) (gf : Nat → Option Nat) (a1 : Int32) (rec_12 : Int32 → Int32 → (Nat → Int32) → r_k_L_isWalked) (v10_12 : Int32) (v11_12 : Int32) (n : Nat) (v12_56 : Int32) (q_2_f_56 : Nat → Int32) : m_k_L_isWalked_56 pp gf a1 rec_12 v10_12 v11_12 (n + 1) v12_56 q_2_f_56 = m_k_L_isWalked_56s pp gf a1 rec_12 v10_12 v11_12 (m_k_L_isWalked_56 pp gf a1 rec_12 v10_12 v11_12 n) v12_56 q_2_f_56 := rfl
def m_k_L_isWalked_374 (rec_299 : Int32 → Int32 → Int32 → r_k_L_isWalked) (s0_339 : Int32) (v18_299 : Int32) (s0_374 : Int32) : r_k_L_isWalked :=
  rec_299 s0_339 s0_374 (v18_299 + 1)
def m_k_L_isWalked_373 (rec_299 : Int32 → Int32 → Int32 → r_k_L_isWalked) (s0_339 : Int32) (v18_299 : Int32) : r_k_L_isWalked :=
  m_k_L_isWalked_374 rec_299 s0_339 v18_299 0
def m_k_L_isWalked_339 (pp : pT) (gf : Nat → Option Nat) (a1 : Int32) (q_2_f_12 : Nat → Int32) (rec_299 : Int32 → Int32 → Int32 → r_k_L_isWalked) (t_225 : r_k_L_setOf) (v17_299 : Int32) (v18_299 : Int32) (s0_339 : Int32) : r_k_L_isWalked :=
  if v17_299 = 0 then
    m_k_L_isWalked_373 rec_299 s0_339 v18_299
  else
    lE (m_k_L_costOf pp gf a1 t_225 v18_299) (fun t_352 =>
      lE (m_k_L_costOf pp gf a1 (q_2_f_12 (0 : Int32).toNatClampNeg) v18_299) (fun t_363 =>
        if t_352 = t_363 then
          m_k_L_isWalked_374 rec_299 s0_339 v18_299 1
        else
          m_k_L_isWalked_373 rec_299 s0_339 v18_299))
def m_k_L_isWalked_472 (q_202_f_395 : Nat → Int32) (rec_395 : Int32 → Int32 → (Nat → Int32) → (Nat → Int32) → Int32 → Int32 → Int32 → Int32 → Int32 → r_k_L_isWalked) (s0_422 : Int32) (t_433 : r_k_L_ask_11) (v18_395 : Int32) (s0_472 : Int32) : r_k_L_isWalked :=
  lE (m_k_L_told s0_422) (fun t_482 =>
    rec_395 s0_472 (v18_395 + 1) (upd q_202_f_395 v18_395.toNatClampNeg ((q_202_f_395 v18_395.toNatClampNeg) + t_482)) t_433.2.1 t_433.2.2.1 t_433.2.2.2.1 t_433.2.2.2.2.1 t_433.2.2.2.2.2.1 t_433.2.2.2.2.2.2)
def m_k_L_isWalked_422 (pp : pT) (pn : Int32) (rn : Int32) (en : Int32) (pl : Nat → Int32) (rf : Nat → Option Nat) (ea : Nat → Int32) (es : Nat → Int32) (gf : Nat → Option Nat) (ef : Nat → Int32) (a1 : Int32) (q_202_f_395 : Nat → Int32) (rec_395 : Int32 → Int32 → (Nat → Int32) → (Nat → Int32) → Int32 → Int32 → Int32 → Int32 → Int32 → r_k_L_isWalked) (t_225 : r_k_L_setOf) (v15_209 : Int32) (v18_395 : Int32) (x11_f_193 : Nat → Int64) (x13_f_193 : Nat → Int64) (x14_f_395 : Nat → Int32) (x15_f_193 : Nat → Int32) (x16_f_193 : Nat → Int32) (x17_f_193 : Nat → Int32) (x18_f_193 : Nat → Int32) (x19_f_193 : Nat → Int32) (x20_10_193 : Int32) (x20_11_193 : Int32) (x20_12_193 : Int32) (x20_13_193 : Int32) (x20_14_193 : Int32) (x20_15_193 : Int32) (x20_16_193 : Int32) (x20_5_193 : Int32) (x20_9_193 : Int32) (x21_6_193 : Int32) (x22_f_193 : Nat → Int32) (x23_f_193 : Nat → Int32) (x24_f_193 : Nat → Int32) (x25_f_193 : Nat → Int32) (x26_f_193 : Nat → Int32) (x27_f_193 : Nat → Int32) (x28_6_193 : Int32) (x29_f_193 : Nat → Int32) (x30_f_193 : Nat → Int32) (x31_f_193 : Nat → Int32) (x32_f_193 : Nat → Int32) (x33_f_193 : Nat → Int32) (x34_f_193 : Nat → Int32) (x35_f_193 : Nat → Int32) (x36_f_193 : Nat → Int32) (x37_f_193 : Nat → Int32) (x38_f_193 : Nat → Int32) (x45_2_193 : Int32) (x45_3_193 : Int32) (x46_f_193 : Nat → Int32) (x47_f_193 : Nat → Int64) (x8_12_193 : Int32) (x8_13_193 : Int32) (x8_14_193 : Int32) (x8_15_193 : Int32) (x8_5_395 : Int32) (x8_9_193 : Int32) (x9_0_395 : Int32) (x9_1_395 : Int32) (x9_2_395 : Int32) (x9_3_395 : Int32) (s0_422 : Int32) : r_k_L_isWalked :=
  lE (m_k_L_ask_11 pp pn rn en pl rf ea es x8_5_395 x8_9_193 x8_12_193 x9_0_395 x9_1_395 x9_2_395 x9_3_395 x11_f_193 x14_f_395 x15_f_193 x16_f_193 x19_f_193 x36_f_193 x37_f_193 x45_2_193 x45_3_193 x46_f_193 v15_209 v18_395 0 0) (fun t_433 =>
    if s0_422 = 0 then
      if t_433.1 = (-2005) then
        m_k_L_isWalked_472 q_202_f_395 rec_395 s0_422 t_433 v18_395 1
      else
        m_k_L_isWalked_472 q_202_f_395 rec_395 s0_422 t_433 v18_395 0
    else
      if t_433.1.toInt < 106 then
        lE (m_k_L_isReason pp gf ef a1 t_225 v18_395 t_433.1) (fun t_453 =>
          m_k_L_isWalked_472 q_202_f_395 rec_395 s0_422 t_433 v18_395 t_453)
      else
        (9, 0, x11_f_193, x13_f_193, t_433.2.1, x15_f_193, x16_f_193, x17_f_193, x18_f_193, x19_f_193, x20_10_193, x20_11_193, x20_12_193, x20_13_193, x20_14_193, x20_15_193, x20_16_193, x20_5_193, x20_9_193, x21_6_193, x22_f_193, x23_f_193, x24_f_193, x25_f_193, x26_f_193, x27_f_193, x28_6_193, x29_f_193, x30_f_193, x31_f_193, x32_f_193, x33_f_193, x34_f_193, x35_f_193, x36_f_193, x37_f_193, x38_f_193, x45_2_193, x45_3_193, x46_f_193, x47_f_193, x8_12_193, x8_13_193, x8_14_193, x8_15_193, t_433.2.2.1, x8_9_193, t_433.2.2.2.1, t_433.2.2.2.2.1, t_433.2.2.2.2.2.1, t_433.2.2.2.2.2.2))
def m_k_L_isWalked_493 (q_202_f_395 : Nat → Int32) (rec_209 : Int32 → Int32 → Int32 → Int32 → (Nat → Int32) → (Nat → Int32) → Int32 → Int32 → Int32 → Int32 → Int32 → r_k_L_isWalked) (t_287 : r_k_J6_bitCount_0f7a4) (t_386 : r_k_L_told) (v11_395 : Int32) (v12_209 : Int32) (v13_209 : Int32) (v15_209 : Int32) (x14_f_395 : Nat → Int32) (x8_5_395 : Int32) (x9_0_395 : Int32) (x9_1_395 : Int32) (x9_2_395 : Int32) (x9_3_395 : Int32) : r_k_L_isWalked :=
  rec_209 v11_395 (v12_209 + t_287) (v13_209 + t_386) (v15_209 + 1) q_202_f_395 x14_f_395 x8_5_395 x9_0_395 x9_1_395 x9_2_395 x9_3_395
def m_k_L_isWalked_395s (pp : pT) (pn : Int32) (rn : Int32) (en : Int32) (pl : Nat → Int32) (rf : Nat → Option Nat) (ea : Nat → Int32) (es : Nat → Int32) (gf : Nat → Option Nat) (ef : Nat → Int32) (a1 : Int32) (a2 : Int32) (rec_209 : Int32 → Int32 → Int32 → Int32 → (Nat → Int32) → (Nat → Int32) → Int32 → Int32 → Int32 → Int32 → Int32 → r_k_L_isWalked) (t_225 : r_k_L_setOf) (t_287 : r_k_J6_bitCount_0f7a4) (t_386 : r_k_L_told) (v12_209 : Int32) (v13_209 : Int32) (v15_209 : Int32) (x11_f_193 : Nat → Int64) (x13_f_193 : Nat → Int64) (x15_f_193 : Nat → Int32) (x16_f_193 : Nat → Int32) (x17_f_193 : Nat → Int32) (x18_f_193 : Nat → Int32) (x19_f_193 : Nat → Int32) (x20_10_193 : Int32) (x20_11_193 : Int32) (x20_12_193 : Int32) (x20_13_193 : Int32) (x20_14_193 : Int32) (x20_15_193 : Int32) (x20_16_193 : Int32) (x20_5_193 : Int32) (x20_9_193 : Int32) (x21_6_193 : Int32) (x22_f_193 : Nat → Int32) (x23_f_193 : Nat → Int32) (x24_f_193 : Nat → Int32) (x25_f_193 : Nat → Int32) (x26_f_193 : Nat → Int32) (x27_f_193 : Nat → Int32) (x28_6_193 : Int32) (x29_f_193 : Nat → Int32) (x30_f_193 : Nat → Int32) (x31_f_193 : Nat → Int32) (x32_f_193 : Nat → Int32) (x33_f_193 : Nat → Int32) (x34_f_193 : Nat → Int32) (x35_f_193 : Nat → Int32) (x36_f_193 : Nat → Int32) (x37_f_193 : Nat → Int32) (x38_f_193 : Nat → Int32) (x45_2_193 : Int32) (x45_3_193 : Int32) (x46_f_193 : Nat → Int32) (x47_f_193 : Nat → Int64) (x8_12_193 : Int32) (x8_13_193 : Int32) (x8_14_193 : Int32) (x8_15_193 : Int32) (x8_9_193 : Int32) (rec_395 : Int32 → Int32 → (Nat → Int32) → (Nat → Int32) → Int32 → Int32 → Int32 → Int32 → Int32 → r_k_L_isWalked) (v11_395 : Int32) (v18_395 : Int32) (q_202_f_395 : Nat → Int32) (x14_f_395 : Nat → Int32) (x8_5_395 : Int32) (x9_0_395 : Int32) (x9_1_395 : Int32) (x9_2_395 : Int32) (x9_3_395 : Int32) : r_k_L_isWalked :=
  if a2 ≤ v18_395 then
    m_k_L_isWalked_493 q_202_f_395 rec_209 t_287 t_386 v11_395 v12_209 v13_209 v15_209 x14_f_395 x8_5_395 x9_0_395 x9_1_395 x9_2_395 x9_3_395
  else
    if v11_395 = 0 then
      m_k_L_isWalked_493 q_202_f_395 rec_209 t_287 t_386 v11_395 v12_209 v13_209 v15_209 x14_f_395 x8_5_395 x9_0_395 x9_1_395 x9_2_395 x9_3_395
    else
      if ((t_225 >>> (v18_395 &&& 31)) &&& 1) = 1 then
        m_k_L_isWalked_422 pp pn rn en pl rf ea es gf ef a1 q_202_f_395 rec_395 t_225 v15_209 v18_395 x11_f_193 x13_f_193 x14_f_395 x15_f_193 x16_f_193 x17_f_193 x18_f_193 x19_f_193 x20_10_193 x20_11_193 x20_12_193 x20_13_193 x20_14_193 x20_15_193 x20_16_193 x20_5_193 x20_9_193 x21_6_193 x22_f_193 x23_f_193 x24_f_193 x25_f_193 x26_f_193 x27_f_193 x28_6_193 x29_f_193 x30_f_193 x31_f_193 x32_f_193 x33_f_193 x34_f_193 x35_f_193 x36_f_193 x37_f_193 x38_f_193 x45_2_193 x45_3_193 x46_f_193 x47_f_193 x8_12_193 x8_13_193 x8_14_193 x8_15_193 x8_5_395 x8_9_193 x9_0_395 x9_1_395 x9_2_395 x9_3_395 1
      else
        m_k_L_isWalked_422 pp pn rn en pl rf ea es gf ef a1 q_202_f_395 rec_395 t_225 v15_209 v18_395 x11_f_193 x13_f_193 x14_f_395 x15_f_193 x16_f_193 x17_f_193 x18_f_193 x19_f_193 x20_10_193 x20_11_193 x20_12_193 x20_13_193 x20_14_193 x20_15_193 x20_16_193 x20_5_193 x20_9_193 x21_6_193 x22_f_193 x23_f_193 x24_f_193 x25_f_193 x26_f_193 x27_f_193 x28_6_193 x29_f_193 x30_f_193 x31_f_193 x32_f_193 x33_f_193 x34_f_193 x35_f_193 x36_f_193 x37_f_193 x38_f_193 x45_2_193 x45_3_193 x46_f_193 x47_f_193 x8_12_193 x8_13_193 x8_14_193 x8_15_193 x8_5_395 x8_9_193 x9_0_395 x9_1_395 x9_2_395 x9_3_395 0
def m_k_L_isWalked_395 (pp : pT) (pn : Int32) (rn : Int32) (en : Int32) (pl : Nat → Int32) (rf : Nat → Option Nat) (ea : Nat → Int32) (es : Nat → Int32) (gf : Nat → Option Nat) (ef : Nat → Int32) (a1 : Int32) (a2 : Int32) (rec_209 : Int32 → Int32 → Int32 → Int32 → (Nat → Int32) → (Nat → Int32) → Int32 → Int32 → Int32 → Int32 → Int32 → r_k_L_isWalked) (t_225 : r_k_L_setOf) (t_287 : r_k_J6_bitCount_0f7a4) (t_386 : r_k_L_told) (v12_209 : Int32) (v13_209 : Int32) (v15_209 : Int32) (x11_f_193 : Nat → Int64) (x13_f_193 : Nat → Int64) (x15_f_193 : Nat → Int32) (x16_f_193 : Nat → Int32) (x17_f_193 : Nat → Int32) (x18_f_193 : Nat → Int32) (x19_f_193 : Nat → Int32) (x20_10_193 : Int32) (x20_11_193 : Int32) (x20_12_193 : Int32) (x20_13_193 : Int32) (x20_14_193 : Int32) (x20_15_193 : Int32) (x20_16_193 : Int32) (x20_5_193 : Int32) (x20_9_193 : Int32) (x21_6_193 : Int32) (x22_f_193 : Nat → Int32) (x23_f_193 : Nat → Int32) (x24_f_193 : Nat → Int32) (x25_f_193 : Nat → Int32) (x26_f_193 : Nat → Int32) (x27_f_193 : Nat → Int32) (x28_6_193 : Int32) (x29_f_193 : Nat → Int32) (x30_f_193 : Nat → Int32) (x31_f_193 : Nat → Int32) (x32_f_193 : Nat → Int32) (x33_f_193 : Nat → Int32) (x34_f_193 : Nat → Int32) (x35_f_193 : Nat → Int32) (x36_f_193 : Nat → Int32) (x37_f_193 : Nat → Int32) (x38_f_193 : Nat → Int32) (x45_2_193 : Int32) (x45_3_193 : Int32) (x46_f_193 : Nat → Int32) (x47_f_193 : Nat → Int64) (x8_12_193 : Int32) (x8_13_193 : Int32) (x8_14_193 : Int32) (x8_15_193 : Int32) (x8_9_193 : Int32) : Nat → Int32 → Int32 → (Nat → Int32) → (Nat → Int32) → Int32 → Int32 → Int32 → Int32 → Int32 → r_k_L_isWalked
  | 0, _, _, _, _, _, _, _, _, _ => (0, 0, (fun _ => 0), (fun _ => 0), (fun _ => 0), (fun _ => 0), (fun _ => 0), (fun _ => 0), (fun _ => 0), (fun _ => 0), 0, 0, 0, 0, 0, 0, 0, 0, 0, 0, (fun _ => 0), (fun _ => 0), (fun _ => 0), (fun _ => 0), (fun _ => 0), (fun _ => 0), 0, (fun _ => 0), (fun _ => 0), (fun _ => 0), (fun _ => 0), (fun _ => 0), (fun _ => 0), (fun _ => 0), (fun _ => 0), (fun _ => 0), (fun _ => 0), 0, 0, (fun _ => 0), (fun _ => 0), 0, 0, 0, 0, 0, 0, 0, 0, 0, 0)
  | n + 1, v11_395, v18_395, q_202_f_395, x14_f_395, x8_5_395, x9_0_395, x9_1_395, x9_2_395, x9_3_395 => m_k_L_isWalked_395s pp pn rn en pl rf ea es gf ef a1 a2 rec_209 t_225 t_287 t_386 v12_209 v13_209 v15_209 x11_f_193 x13_f_193 x15_f_193 x16_f_193 x17_f_193 x18_f_193 x19_f_193 x20_10_193 x20_11_193 x20_12_193 x20_13_193 x20_14_193 x20_15_193 x20_16_193 x20_5_193 x20_9_193 x21_6_193 x22_f_193 x23_f_193 x24_f_193 x25_f_193 x26_f_193 x27_f_193 x28_6_193 x29_f_193 x30_f_193 x31_f_193 x32_f_193 x33_f_193 x34_f_193 x35_f_193 x36_f_193 x37_f_193 x38_f_193 x45_2_193 x45_3_193 x46_f_193 x47_f_193 x8_12_193 x8_13_193 x8_14_193 x8_15_193 x8_9_193 (fun v11_395 v18_395 q_202_f_395 x14_f_395 x8_5_395 x9_0_395 x9_1_395 x9_2_395 x9_3_395 => m_k_L_isWalked_395 pp pn rn en pl rf ea es gf ef a1 a2 rec_209 t_225 t_287 t_386 v12_209 v13_209 v15_209 x11_f_193 x13_f_193 x15_f_193 x16_f_193 x17_f_193 x18_f_193 x19_f_193 x20_10_193 x20_11_193 x20_12_193 x20_13_193 x20_14_193 x20_15_193 x20_16_193 x20_5_193 x20_9_193 x21_6_193 x22_f_193 x23_f_193 x24_f_193 x25_f_193 x26_f_193 x27_f_193 x28_6_193 x29_f_193 x30_f_193 x31_f_193 x32_f_193 x33_f_193 x34_f_193 x35_f_193 x36_f_193 x37_f_193 x38_f_193 x45_2_193 x45_3_193 x46_f_193 x47_f_193 x8_12_193 x8_13_193 x8_14_193 x8_15_193 x8_9_193 n v11_395 v18_395 q_202_f_395 x14_f_395 x8_5_395 x9_0_395 x9_1_395 x9_2_395 x9_3_395) v11_395 v18_395 q_202_f_395 x14_f_395 x8_5_395 x9_0_395 x9_1_395 x9_2_395 x9_3_395
theorem m_k_L_isWalked_395_succ (pp : pT) (pn : Int32) (rn : Int32) (en : Int32) (pl : Nat → Int32) (rf : Nat → Option Nat) (ea : Nat → Int32) (es : Nat → Int32) (gf : Nat → Option Nat) (ef : Nat → Int32) (a1 : Int32) (a2 : Int32) (rec_209 : Int32 → Int32 → Int32 → Int32 → (Nat → Int32) → (Nat → Int32) → Int32 → Int32 → Int32 → Int32 → Int32 → r_k_L_isWalked) (t_225 : r_k_L_setOf) (t_287 : r_k_J6_bitCount_0f7a4) (t_386 : r_k_L_told) (v12_209 : Int32) (v13_209 : Int32) (v15_209 : Int32) (x11_f_193 : Nat → Int64) (x13_f_193 : Nat → Int64) (x15_f_193 : Nat → Int32) (x16_f_193 : Nat → Int32) (x17_f_193 : Nat → Int32) (x18_f_193 : Nat → Int32) (x19_f_193 : Nat → Int32) (x20_10_193 : Int32) (x20_11_193 : Int32) (x20_12_193 : Int32) (x20_13_193 : Int32) (x20_14_193 : Int32) (x20_15_193 : Int32) (x20_16_193 : Int32) (x20_5_193 : Int32) (x20_9_193 : Int32) (x21_6_193 : Int32) (x22_f_193 : Nat → Int32) (x23_f_193 : Nat → Int32) (x24_f_193 : Nat → Int32) (x25_f_193 : Nat → Int32) (x26_f_193 : Nat → Int32) (x27_f_193 : Nat → Int32) (x28_6_193 : Int32) (x29_f_193 : Nat → Int32) (x30_f_193 : Nat → Int32) (x31_f_193 : Nat → Int32) (x32_f_193 : Nat → Int32) (x33_f_193 : Nat → Int32) (x34_f_193 : Nat → Int32) (x35_f_193 : Nat → Int32) (x36_f_193 : Nat → Int32) (x37_f_193 : Nat → Int32) (x38_f_193 : Nat → Int32) (x45_2_193 : Int32) (x45_3_193 : Int32) (x46_f_193 : Nat → Int32) (x47_f_193 : Nat → Int64) (x8_12_193 : Int32) (x8_13_193 : Int32) (x8_14_193 : Int32) (x8_15_193 : Int32) (x8_9_193 : Int32) (n : Nat) (v11_395 : Int32) (v18_395 : Int32) (q_202_f_395 : Nat → Int32) (x14_f_395 : Nat → Int32) (x8_5_395 : Int32) (x9_0_395 : Int32) (x9_1_395 : Int32) (x9_2_395 : Int32) (x9_3_395 : Int32) : m_k_L_isWalked_395 pp pn rn en pl rf ea es gf ef a1 a2 rec_209 t_225 t_287 t_386 v12_209 v13_209 v15_209 x11_f_193 x13_f_193 x15_f_193 x16_f_193 x17_f_193 x18_f_193 x19_f_193 x20_10_193 x20_11_193 x20_12_193 x20_13_193 x20_14_193 x20_15_193 x20_16_193 x20_5_193 x20_9_193 x21_6_193 x22_f_193 x23_f_193 x24_f_193 x25_f_193 x26_f_193 x27_f_193 x28_6_193 x29_f_193 x30_f_193 x31_f_193 x32_f_193 x33_f_193 x34_f_193 x35_f_193 x36_f_193 x37_f_193 x38_f_193 x45_2_193 x45_3_193 x46_f_193 x47_f_193 x8_12_193 x8_13_193 x8_14_193 x8_15_193 x8_9_193 (n + 1) v11_395 v18_395 q_202_f_395 x14_f_395 x8_5_395 x9_0_395 x9_1_395 x9_2_395 x9_3_395 = m_k_L_isWalked_395s pp pn rn en pl rf ea es gf ef a1 a2 rec_209 t_225 t_287 t_386 v12_209 v13_209 v15_209 x11_f_193 x13_f_193 x15_f_193 x16_f_193 x17_f_193 x18_f_193 x19_f_193 x20_10_193 x20_11_193 x20_12_193 x20_13_193 x20_14_193 x20_15_193 x20_16_193 x20_5_193 x20_9_193 x21_6_193 x22_f_193 x23_f_193 x24_f_193 x25_f_193 x26_f_193 x27_f_193 x28_6_193 x29_f_193 x30_f_193 x31_f_193 x32_f_193 x33_f_193 x34_f_193 x35_f_193 x36_f_193 x37_f_193 x38_f_193 x45_2_193 x45_3_193 x46_f_193 x47_f_193 x8_12_193 x8_13_193 x8_14_193 x8_15_193 x8_9_193 (m_k_L_isWalked_395 pp pn rn en pl rf ea es gf ef a1 a2 rec_209 t_225 t_287 t_386 v12_209 v13_209 v15_209 x11_f_193 x13_f_193 x15_f_193 x16_f_193 x17_f_193 x18_f_193 x19_f_193 x20_10_193 x20_11_193 x20_12_193 x20_13_193 x20_14_193 x20_15_193 x20_16_193 x20_5_193 x20_9_193 x21_6_193 x22_f_193 x23_f_193 x24_f_193 x25_f_193 x26_f_193 x27_f_193 x28_6_193 x29_f_193 x30_f_193 x31_f_193 x32_f_193 x33_f_193 x34_f_193 x35_f_193 x36_f_193 x37_f_193 x38_f_193 x45_2_193 x45_3_193 x46_f_193 x47_f_193 x8_12_193 x8_13_193 x8_14_193 x8_15_193 x8_9_193 n) v11_395 v18_395 q_202_f_395 x14_f_395 x8_5_395 x9_0_395 x9_1_395 x9_2_395 x9_3_395 := rfl
