abbrev r_k_J13_bitCount_95d88 : Type := Int32
def m_k_J13_bitCount_95d88 (a1 : Int64) : r_k_J13_bitCount_95d88 :=
  ((((((((((a1 - (((a1.toUInt64 >>> ((1 : Int32).toInt64.toUInt64 &&& Int64.toUInt64 63)).toInt64) &&& 6148914691236517205)) &&& 3689348814741910323) + ((((a1 - (((a1.toUInt64 >>> ((1 : Int32).toInt64.toUInt64 &&& Int64.toUInt64 63)).toInt64) &&& 6148914691236517205)).toUInt64 >>> ((2 : Int32).toInt64.toUInt64 &&& Int64.toUInt64 63)).toInt64) &&& 3689348814741910323)) + (((((a1 - (((a1.toUInt64 >>> ((1 : Int32).toInt64.toUInt64 &&& Int64.toUInt64 63)).toInt64) &&& 6148914691236517205)) &&& 3689348814741910323) + ((((a1 - (((a1.toUInt64 >>> ((1 : Int32).toInt64.toUInt64 &&& Int64.toUInt64 63)).toInt64) &&& 6148914691236517205)).toUInt64 >>> ((2 : Int32).toInt64.toUInt64 &&& Int64.toUInt64 63)).toInt64) &&& 3689348814741910323)).toUInt64 >>> ((4 : Int32).toInt64.toUInt64 &&& Int64.toUInt64 63)).toInt64)) &&& 1085102592571150095) + (((((((a1 - (((a1.toUInt64 >>> ((1 : Int32).toInt64.toUInt64 &&& Int64.toUInt64 63)).toInt64) &&& 6148914691236517205)) &&& 3689348814741910323) + ((((a1 - (((a1.toUInt64 >>> ((1 : Int32).toInt64.toUInt64 &&& Int64.toUInt64 63)).toInt64) &&& 6148914691236517205)).toUInt64 >>> ((2 : Int32).toInt64.toUInt64 &&& Int64.toUInt64 63)).toInt64) &&& 3689348814741910323)) + (((((a1 - (((a1.toUInt64 >>> ((1 : Int32).toInt64.toUInt64 &&& Int64.toUInt64 63)).toInt64) &&& 6148914691236517205)) &&& 3689348814741910323) + ((((a1 - (((a1.toUInt64 >>> ((1 : Int32).toInt64.toUInt64 &&& Int64.toUInt64 63)).toInt64) &&& 6148914691236517205)).toUInt64 >>> ((2 : Int32).toInt64.toUInt64 &&& Int64.toUInt64 63)).toInt64) &&& 3689348814741910323)).toUInt64 >>> ((4 : Int32).toInt64.toUInt64 &&& Int64.toUInt64 63)).toInt64)) &&& 1085102592571150095).toUInt64 >>> ((8 : Int32).toInt64.toUInt64 &&& Int64.toUInt64 63)).toInt64)) + ((((((((a1 - (((a1.toUInt64 >>> ((1 : Int32).toInt64.toUInt64 &&& Int64.toUInt64 63)).toInt64) &&& 6148914691236517205)) &&& 3689348814741910323) + ((((a1 - (((a1.toUInt64 >>> ((1 : Int32).toInt64.toUInt64 &&& Int64.toUInt64 63)).toInt64) &&& 6148914691236517205)).toUInt64 >>> ((2 : Int32).toInt64.toUInt64 &&& Int64.toUInt64 63)).toInt64) &&& 3689348814741910323)) + (((((a1 - (((a1.toUInt64 >>> ((1 : Int32).toInt64.toUInt64 &&& Int64.toUInt64 63)).toInt64) &&& 6148914691236517205)) &&& 3689348814741910323) + ((((a1 - (((a1.toUInt64 >>> ((1 : Int32).toInt64.toUInt64 &&& Int64.toUInt64 63)).toInt64) &&& 6148914691236517205)).toUInt64 >>> ((2 : Int32).toInt64.toUInt64 &&& Int64.toUInt64 63)).toInt64) &&& 3689348814741910323)).toUInt64 >>> ((4 : Int32).toInt64.toUInt64 &&& Int64.toUInt64 63)).toInt64)) &&& 1085102592571150095) + (((((((a1 - (((a1.toUInt64 >>> ((1 : Int32).toInt64.toUInt64 &&& Int64.toUInt64 63)).toInt64) &&& 6148914691236517205)) &&& 3689348814741910323) + ((((a1 - (((a1.toUInt64 >>> ((1 : Int32).toInt64.toUInt64 &&& Int64.toUInt64 63)).toInt64) &&& 6148914691236517205)).toUInt64 >>> ((2 : Int32).toInt64.toUInt64 &&& Int64.toUInt64 63)).toInt64) &&& 3689348814741910323)) + (((((a1 - (((a1.toUInt64 >>> ((1 : Int32).toInt64.toUInt64 &&& Int64.toUInt64 63)).toInt64) &&& 6148914691236517205)) &&& 3689348814741910323) + ((((a1 - (((a1.toUInt64 >>> ((1 : Int32).toInt64.toUInt64 &&& Int64.toUInt64 63)).toInt64) &&& 6148914691236517205)).toUInt64 >>> ((2 : Int32).toInt64.toUInt64 &&& Int64.toUInt64 63)).toInt64) &&& 3689348814741910323)).toUInt64 >>> ((4 : Int32).toInt64.toUInt64 &&& Int64.toUInt64 63)).toInt64)) &&& 1085102592571150095).toUInt64 >>> ((8 : Int32).toInt64.toUInt64 &&& Int64.toUInt64 63)).toInt64)).toUInt64 >>> ((16 : Int32).toInt64.toUInt64 &&& Int64.toUInt64 63)).toInt64)) + (((((((((a1 - (((a1.toUInt64 >>> ((1 : Int32).toInt64.toUInt64 &&& Int64.toUInt64 63)).toInt64) &&& 6148914691236517205)) &&& 3689348814741910323) + ((((a1 - (((a1.toUInt64 >>> ((1 : Int32).toInt64.toUInt64 &&& Int64.toUInt64 63)).toInt64) &&& 6148914691236517205)).toUInt64 >>> ((2 : Int32).toInt64.toUInt64 &&& Int64.toUInt64 63)).toInt64) &&& 3689348814741910323)) + (((((a1 - (((a1.toUInt64 >>> ((1 : Int32).toInt64.toUInt64 &&& Int64.toUInt64 63)).toInt64) &&& 6148914691236517205)) &&& 3689348814741910323) + ((((a1 - (((a1.toUInt64 >>> ((1 : Int32).toInt64.toUInt64 &&& Int64.toUInt64 63)).toInt64) &&& 6148914691236517205)).toUInt64 >>> ((2 : Int32).toInt64.toUInt64 &&& Int64.toUInt64 63)).toInt64) &&& 3689348814741910323)).toUInt64 >>> ((4 : Int32).toInt64.toUInt64 &&& Int64.toUInt64 63)).toInt64)) &&& 1085102592571150095) + (((((((a1 - (((a1.toUInt64 >>> ((1 : Int32).toInt64.toUInt64 &&& Int64.toUInt64 63)).toInt64) &&& 6148914691236517205)) &&& 3689348814741910323) + ((((a1 - (((a1.toUInt64 >>> ((1 : Int32).toInt64.toUInt64 &&& Int64.toUInt64 63)).toInt64) &&& 6148914691236517205)).toUInt64 >>> ((2 : Int32).toInt64.toUInt64 &&& Int64.toUInt64 63)).toInt64) &&& 3689348814741910323)) + (((((a1 - (((a1.toUInt64 >>> ((1 : Int32).toInt64.toUInt64 &&& Int64.toUInt64 63)).toInt64) &&& 6148914691236517205)) &&& 3689348814741910323) + ((((a1 - (((a1.toUInt64 >>> ((1 : Int32).toInt64.toUInt64 &&& Int64.toUInt64 63)).toInt64) &&& 6148914691236517205)).toUInt64 >>> ((2 : Int32).toInt64.toUInt64 &&& Int64.toUInt64 63)).toInt64) &&& 3689348814741910323)).toUInt64 >>> ((4 : Int32).toInt64.toUInt64 &&& Int64.toUInt64 63)).toInt64)) &&& 1085102592571150095).toUInt64 >>> ((8 : Int32).toInt64.toUInt64 &&& Int64.toUInt64 63)).toInt64)) + ((((((((a1 - (((a1.toUInt64 >>> ((1 : Int32).toInt64.toUInt64 &&& Int64.toUInt64 63)).toInt64) &&& 6148914691236517205)) &&& 3689348814741910323) + ((((a1 - (((a1.toUInt64 >>> ((1 : Int32).toInt64.toUInt64 &&& Int64.toUInt64 63)).toInt64) &&& 6148914691236517205)).toUInt64 >>> ((2 : Int32).toInt64.toUInt64 &&& Int64.toUInt64 63)).toInt64) &&& 3689348814741910323)) + (((((a1 - (((a1.toUInt64 >>> ((1 : Int32).toInt64.toUInt64 &&& Int64.toUInt64 63)).toInt64) &&& 6148914691236517205)) &&& 3689348814741910323) + ((((a1 - (((a1.toUInt64 >>> ((1 : Int32).toInt64.toUInt64 &&& Int64.toUInt64 63)).toInt64) &&& 6148914691236517205)).toUInt64 >>> ((2 : Int32).toInt64.toUInt64 &&& Int64.toUInt64 63)).toInt64) &&& 3689348814741910323)).toUInt64 >>> ((4 : Int32).toInt64.toUInt64 &&& Int64.toUInt64 63)).toInt64)) &&& 1085102592571150095) + (((((((a1 - (((a1.toUInt64 >>> ((1 : Int32).toInt64.toUInt64 &&& Int64.toUInt64 63)).toInt64) &&& 6148914691236517205)) &&& 3689348814741910323) + ((((a1 - (((a1.toUInt64 >>> ((1 : Int32).toInt64.toUInt64 &&& Int64.toUInt64 63)).toInt64) &&& 6148914691236517205)).toUInt64 >>> ((2 : Int32).toInt64.toUInt64 &&& Int64.toUInt64 63)).toInt64) &&& 3689348814741910323)) + (((((a1 - (((a1.toUInt64 >>> ((1 : Int32).toInt64.toUInt64 &&& Int64.toUInt64 63)).toInt64) &&& 6148914691236517205)) &&& 3689348814741910323) + ((((a1 - (((a1.toUInt64 >>> ((1 : Int32).toInt64.toUInt64 &&& Int64.toUInt64 63)).toInt64) &&& 6148914691236517205)).toUInt64 >>> ((2 : Int32).toInt64.toUInt64 &&& Int64.toUInt64 63)).toInt64) &&& 3689348814741910323)).toUInt64 >>> ((4 : Int32).toInt64.toUInt64 &&& Int64.toUInt64 63)).toInt64)) &&& 1085102592571150095).toUInt64 >>> ((8 : Int32).toInt64.toUInt64 &&& Int64.toUInt64 63)).toInt64)).toUInt64 >>> ((16 : Int32).toInt64.toUInt64 &&& Int64.toUInt64 63)).toInt64)).toUInt64 >>> ((32 : Int32).toInt64.toUInt64 &&& Int64.toUInt64 63)).toInt64)).toInt32) &&& 127)
abbrev r_k_X1_contains : Type := Int32
def m_k_X1_contains (w0 : Nat → Int64) (a1 : Int32) : r_k_X1_contains :=
  if a1 < 0 then
    0
  else
    if 384 ≤ a1 then
      0
    else
      if (lg_cmp ((((w0 (a1 / 64).toNatClampNeg).toUInt64 >>> ((a1 - a1 / 64 * 64).toInt64.toUInt64 &&& Int64.toUInt64 63)).toInt64) &&& 1) 0) = 0 then
        0
      else
        1
abbrev r_k_X1_add : Type := Int32 × (Nat → Int64)
def m_k_X1_add (w0 : Nat → Int64) (a1 : Int32) : r_k_X1_add :=
  if a1 < 0 then
    (0, w0)
  else
    if a1 < 384 then
      if (lg_cmp ((vp_updL w0 ((a1 / 64).toNatClampNeg) ((w0 (a1 / 64).toNatClampNeg) ||| ((1 : Int64) <<< ((a1 - a1 / 64 * 64).toInt64 &&& 63)))) (a1 / 64).toNatClampNeg) (w0 (a1 / 64).toNatClampNeg)) = 0 then
        (0, vp_updL w0 ((a1 / 64).toNatClampNeg) ((w0 (a1 / 64).toNatClampNeg) ||| ((1 : Int64) <<< ((a1 - a1 / 64 * 64).toInt64 &&& 63))))
      else
        (1, vp_updL w0 ((a1 / 64).toNatClampNeg) ((w0 (a1 / 64).toNatClampNeg) ||| ((1 : Int64) <<< ((a1 - a1 / 64 * 64).toInt64 &&& 63))))
    else
      (0, w0)
abbrev r_k_X1_remove : Type := (Nat → Int64)
def m_k_X1_remove (w0 : Nat → Int64) (a1 : Int32) : r_k_X1_remove :=
  if a1 < 0 then
    w0
  else
    if 384 ≤ a1 then
      w0
    else
      vp_updL w0 ((a1 / 64).toNatClampNeg) ((w0 (a1 / 64).toNatClampNeg) &&& (((1 : Int64) <<< ((a1 - a1 / 64 * 64).toInt64 &&& 63)) ^^^ (-1)))
abbrev r_k_X1_countOf : Type := Int32
def m_k_X1_countOf (w0 : Nat → Int64) (a1 : Int32) : r_k_X1_countOf :=
  if a1 < 0 then
    0
  else
    if 6 ≤ a1 then
      0
    else
      lE (m_k_J13_bitCount_95d88 (w0 a1.toNatClampNeg)) (fun t_16 =>
        t_16)
abbrev r_k_X1_count : Type := Int32
def m_k_X1_count_4s (w0 : Nat → Int64) (rec_4 : Int32 → Int32 → r_k_X1_count) (v1_4 : Int32) (v2_4 : Int32) : r_k_X1_count :=
  if 6 ≤ v2_4 then
    v1_4
  else
    lE (m_k_X1_countOf w0 v2_4) (fun t_13 =>
      rec_4 (v1_4 + t_13) (v2_4 + 1))
def m_k_X1_count_4 (w0 : Nat → Int64) : Nat → Int32 → Int32 → r_k_X1_count
  | 0, _, _ => (0)
  | n + 1, v1_4, v2_4 => m_k_X1_count_4s w0 (fun v1_4 v2_4 => m_k_X1_count_4 w0 n v1_4 v2_4) v1_4 v2_4
theorem m_k_X1_count_4_succ (w0 : Nat → Int64) (n : Nat) (v1_4 : Int32) (v2_4 : Int32) : m_k_X1_count_4 w0 (n + 1) v1_4 v2_4 = m_k_X1_count_4s w0 (m_k_X1_count_4 w0 n) v1_4 v2_4 := rfl
def m_k_X1_count (w0 : Nat → Int64) : r_k_X1_count :=
  m_k_X1_count_4 w0 wF 0 0
abbrev r_k_X1_clear : Type := (Nat → Int64)
def m_k_X1_clear_2s (rec_2 : Int32 → (Nat → Int64) → r_k_X1_clear) (v1_2 : Int32) (h1_f_2 : Nat → Int64) : r_k_X1_clear :=
  if 6 ≤ v1_2 then
    h1_f_2
  else
    rec_2 (v1_2 + 1) (vp_updL h1_f_2 v1_2.toNatClampNeg (0 : Int64))
def m_k_X1_clear_2 : Nat → Int32 → (Nat → Int64) → r_k_X1_clear
  | 0, _, _ => ((fun _ => 0))
  | n + 1, v1_2, h1_f_2 => m_k_X1_clear_2s (fun v1_2 h1_f_2 => m_k_X1_clear_2 n v1_2 h1_f_2) v1_2 h1_f_2
theorem m_k_X1_clear_2_succ (n : Nat) (v1_2 : Int32) (h1_f_2 : Nat → Int64) : m_k_X1_clear_2 (n + 1) v1_2 h1_f_2 = m_k_X1_clear_2s (m_k_X1_clear_2 n) v1_2 h1_f_2 := rfl
def m_k_X1_clear (w0 : Nat → Int64) : r_k_X1_clear :=
  m_k_X1_clear_2 wF 0 w0
abbrev r_k_X2_valueOf : Type := Int32
def m_k_X2_valueOf (b_1 : Int32) (b_2 : Int32) (b_3 : Int32) (b_p : Int32) (a1 : Int32) (a2 : Int32) : r_k_X2_valueOf :=
  if a1 = 1 then
    (b_1 + a2)
  else
    if a1 = 2 then
      (b_2 + a2)
    else
      if a1 = 3 then
        (b_3 + a2)
      else
        if a1 = 4 then
          (b_p + a2)
        else
          a2
abbrev r_k_X2_packed : Type := Int32
def m_k_X2_packed (b_1 : Int32) (b_2 : Int32) (b_3 : Int32) (b_p : Int32) : r_k_X2_packed :=
  (b_1 + (8 * (b_2 + (8 * (b_3 + (8 * b_p))))))
abbrev r_k_X2_unpack : Type := Int32 × Int32 × Int32 × Int32
def m_k_X2_unpack (a1 : Int32) : r_k_X2_unpack :=
  (a1 - a1 / 8 * 8, (a1 / 8) - (a1 / 8) / 8 * 8, (a1 / 64) - (a1 / 64) / 8 * 8, (a1 / 512) - (a1 / 512) / 8 * 8)
abbrev r_k_X7_add : Type := Int32 × (Nat → Int32) × (Nat → Int32) × (Nat → Int32) × (Nat → Int32) × (Nat → Int32) × (Nat → Int32)
def m_k_X7_add (rc : Int32) (f1 : Nat → Int32) (f2 : Nat → Int32) (f3 : Nat → Int32) (f4 : Nat → Int32) (f5 : Nat → Int32) (f6 : Nat → Int32) (a1 : Int32) (a2 : Int32) (a3 : Int32) : r_k_X7_add :=
  if rc < 0 then
    (rc, f1, f2, f3, f4, f5, f6)
  else
    if 300 ≤ rc then
      (rc, f1, f2, f3, f4, f5, f6)
    else
      (rc + 1, upd f1 rc.toNatClampNeg a1, upd f2 rc.toNatClampNeg a2, upd f3 rc.toNatClampNeg a3, upd f4 rc.toNatClampNeg 0, upd f5 rc.toNatClampNeg 0, upd f6 rc.toNatClampNeg 0)
abbrev r_k_X7_boundLast : Type := (Nat → Int32) × (Nat → Int32) × (Nat → Int32)
def m_k_X7_boundLast (rc : Int32) (f4 : Nat → Int32) (f5 : Nat → Int32) (f6 : Nat → Int32) (a1 : Int32) (a2 : Int32) (a3 : Int32) : r_k_X7_boundLast :=
  if (rc - 1) < 0 then
    (f4, f5, f6)
  else
    if 300 ≤ (rc - 1) then
      (f4, f5, f6)
    else
      (upd f4 ((rc - 1).toNatClampNeg) a1, upd f5 ((rc - 1).toNatClampNeg) a2, upd f6 ((rc - 1).toNatClampNeg) a3)
abbrev r_k_X7_ruleAt : Type := Int32
def m_k_X7_ruleAt (f1 : Nat → Int32) (a1 : Int32) : r_k_X7_ruleAt :=
  if a1 < 0 then
    (-1)
  else
    if 300 ≤ a1 then
      (-1)
    else
      (f1 a1.toNatClampNeg)
abbrev r_k_X7_headsAt : Type := Int32
def m_k_X7_headsAt (f4 : Nat → Int32) (a1 : Int32) : r_k_X7_headsAt :=
  if a1 < 0 then
    0
  else
    if 300 ≤ a1 then
      0
    else
      (f4 a1.toNatClampNeg)
abbrev r_k_X7_bodyHolds : Type := Int32
def m_k_X7_bodyHolds (f1 : Nat → Int32) (f2 : Nat → Int32) (f3 : Nat → Int32) (a1 : Int32) (a2 : Int32) (a3 : Int32) : r_k_X7_bodyHolds :=
  if a1 < 0 then
    0
  else
    if a1 < 300 then
      if (a2 &&& (f2 a1.toNatClampNeg)) = (f2 a1.toNatClampNeg) then
        if (a2 &&& (f3 a1.toNatClampNeg)) = 0 then
          if ((a3 >>> ((f1 a1.toNatClampNeg) &&& 31)) &&& 1) = 0 then
            0
          else
            1
        else
          0
      else
        0
    else
      0
abbrev r_k_J6_bitCount_0f7a4 : Type := Int32
def m_k_J6_bitCount_0f7a4 (a1 : Int32) : r_k_J6_bitCount_0f7a4 :=
  ((((((((a1 - (((a1.toUInt32 >>> ((1 : Int32).toUInt32 &&& Int32.toUInt32 31)).toInt32) &&& 1431655765)) &&& 858993459) + ((((a1 - (((a1.toUInt32 >>> ((1 : Int32).toUInt32 &&& Int32.toUInt32 31)).toInt32) &&& 1431655765)).toUInt32 >>> ((2 : Int32).toUInt32 &&& Int32.toUInt32 31)).toInt32) &&& 858993459)) + (((((a1 - (((a1.toUInt32 >>> ((1 : Int32).toUInt32 &&& Int32.toUInt32 31)).toInt32) &&& 1431655765)) &&& 858993459) + ((((a1 - (((a1.toUInt32 >>> ((1 : Int32).toUInt32 &&& Int32.toUInt32 31)).toInt32) &&& 1431655765)).toUInt32 >>> ((2 : Int32).toUInt32 &&& Int32.toUInt32 31)).toInt32) &&& 858993459)).toUInt32 >>> ((4 : Int32).toUInt32 &&& Int32.toUInt32 31)).toInt32)) &&& 252645135) + (((((((a1 - (((a1.toUInt32 >>> ((1 : Int32).toUInt32 &&& Int32.toUInt32 31)).toInt32) &&& 1431655765)) &&& 858993459) + ((((a1 - (((a1.toUInt32 >>> ((1 : Int32).toUInt32 &&& Int32.toUInt32 31)).toInt32) &&& 1431655765)).toUInt32 >>> ((2 : Int32).toUInt32 &&& Int32.toUInt32 31)).toInt32) &&& 858993459)) + (((((a1 - (((a1.toUInt32 >>> ((1 : Int32).toUInt32 &&& Int32.toUInt32 31)).toInt32) &&& 1431655765)) &&& 858993459) + ((((a1 - (((a1.toUInt32 >>> ((1 : Int32).toUInt32 &&& Int32.toUInt32 31)).toInt32) &&& 1431655765)).toUInt32 >>> ((2 : Int32).toUInt32 &&& Int32.toUInt32 31)).toInt32) &&& 858993459)).toUInt32 >>> ((4 : Int32).toUInt32 &&& Int32.toUInt32 31)).toInt32)) &&& 252645135).toUInt32 >>> ((8 : Int32).toUInt32 &&& Int32.toUInt32 31)).toInt32)) + ((((((((a1 - (((a1.toUInt32 >>> ((1 : Int32).toUInt32 &&& Int32.toUInt32 31)).toInt32) &&& 1431655765)) &&& 858993459) + ((((a1 - (((a1.toUInt32 >>> ((1 : Int32).toUInt32 &&& Int32.toUInt32 31)).toInt32) &&& 1431655765)).toUInt32 >>> ((2 : Int32).toUInt32 &&& Int32.toUInt32 31)).toInt32) &&& 858993459)) + (((((a1 - (((a1.toUInt32 >>> ((1 : Int32).toUInt32 &&& Int32.toUInt32 31)).toInt32) &&& 1431655765)) &&& 858993459) + ((((a1 - (((a1.toUInt32 >>> ((1 : Int32).toUInt32 &&& Int32.toUInt32 31)).toInt32) &&& 1431655765)).toUInt32 >>> ((2 : Int32).toUInt32 &&& Int32.toUInt32 31)).toInt32) &&& 858993459)).toUInt32 >>> ((4 : Int32).toUInt32 &&& Int32.toUInt32 31)).toInt32)) &&& 252645135) + (((((((a1 - (((a1.toUInt32 >>> ((1 : Int32).toUInt32 &&& Int32.toUInt32 31)).toInt32) &&& 1431655765)) &&& 858993459) + ((((a1 - (((a1.toUInt32 >>> ((1 : Int32).toUInt32 &&& Int32.toUInt32 31)).toInt32) &&& 1431655765)).toUInt32 >>> ((2 : Int32).toUInt32 &&& Int32.toUInt32 31)).toInt32) &&& 858993459)) + (((((a1 - (((a1.toUInt32 >>> ((1 : Int32).toUInt32 &&& Int32.toUInt32 31)).toInt32) &&& 1431655765)) &&& 858993459) + ((((a1 - (((a1.toUInt32 >>> ((1 : Int32).toUInt32 &&& Int32.toUInt32 31)).toInt32) &&& 1431655765)).toUInt32 >>> ((2 : Int32).toUInt32 &&& Int32.toUInt32 31)).toInt32) &&& 858993459)).toUInt32 >>> ((4 : Int32).toUInt32 &&& Int32.toUInt32 31)).toInt32)) &&& 252645135).toUInt32 >>> ((8 : Int32).toUInt32 &&& Int32.toUInt32 31)).toInt32)).toUInt32 >>> ((16 : Int32).toUInt32 &&& Int32.toUInt32 31)).toInt32)) &&& 63)
abbrev r_k_X7_isBroken : Type := Int32
def m_k_X7_isBroken_58 : r_k_X7_isBroken :=
  1
def m_k_X7_isBroken (f1 : Nat → Int32) (f2 : Nat → Int32) (f3 : Nat → Int32) (f4 : Nat → Int32) (f5 : Nat → Int32) (f6 : Nat → Int32) (a1 : Int32) (a2 : Int32) (a3 : Int32) : r_k_X7_isBroken :=
  if a1 < 0 then
    0
  else
    if 300 ≤ a1 then
      0
    else
      lE (m_k_X7_bodyHolds f1 f2 f3 a1 a2 a3) (fun t_15 =>
        if t_15 = 0 then
          0
        else
          lE (m_k_J6_bitCount_0f7a4 (a2 &&& (f4 a1.toNatClampNeg))) (fun t_31 =>
            if t_31 < (f5 a1.toNatClampNeg) then
              m_k_X7_isBroken_58
            else
              if t_31 ≤ (f6 a1.toNatClampNeg) then
                0
              else
                m_k_X7_isBroken_58))
abbrev r_k_X0_setAt : Type := Int32
def m_k_X0_setAt (sf : Nat → Int32) (a1 : Int32) : r_k_X0_setAt :=
  if a1 < 0 then
    0
  else
    if 64 ≤ a1 then
      0
    else
      (sf a1.toNatClampNeg)
abbrev r_k_X0_costAt : Type := Int64
def m_k_X0_costAt (cf : Nat → Int64) (a1 : Int32) (a2 : Int32) : r_k_X0_costAt :=
  if a1 < 0 then
    0
  else
    if 64 ≤ a1 then
      0
    else
      if a2 < 1 then
        0
      else
        if 3 < a2 then
          0
        else
          (cf (((a1 * 3) + a2) - 1).toNatClampNeg)
abbrev r_k_X0_copy : Type := (Nat → Int32) × (Nat → Int64)
def m_k_X0_copy_35s (sf : Nat → Int32) (a1 : Int32) (a2 : Int32) (rec_35 : Int32 → (Nat → Int64) → r_k_X0_copy) (v3_35 : Int32) (s2_f_35 : Nat → Int64) : r_k_X0_copy :=
  if 3 ≤ v3_35 then
    (upd sf a2.toNatClampNeg (sf a1.toNatClampNeg), s2_f_35)
  else
    rec_35 (v3_35 + 1) (vp_updL s2_f_35 (((a2 * 3) + v3_35).toNatClampNeg) (s2_f_35 ((a1 * 3) + v3_35).toNatClampNeg))
def m_k_X0_copy_35 (sf : Nat → Int32) (a1 : Int32) (a2 : Int32) : Nat → Int32 → (Nat → Int64) → r_k_X0_copy
  | 0, _, _ => ((fun _ => 0), (fun _ => 0))
  | n + 1, v3_35, s2_f_35 => m_k_X0_copy_35s sf a1 a2 (fun v3_35 s2_f_35 => m_k_X0_copy_35 sf a1 a2 n v3_35 s2_f_35) v3_35 s2_f_35
theorem m_k_X0_copy_35_succ (sf : Nat → Int32) (a1 : Int32) (a2 : Int32) (n : Nat) (v3_35 : Int32) (s2_f_35 : Nat → Int64) : m_k_X0_copy_35 sf a1 a2 (n + 1) v3_35 s2_f_35 = m_k_X0_copy_35s sf a1 a2 (m_k_X0_copy_35 sf a1 a2 n) v3_35 s2_f_35 := rfl
def m_k_X0_copy (sf : Nat → Int32) (cf : Nat → Int64) (a1 : Int32) (a2 : Int32) : r_k_X0_copy :=
  if a1 < 0 then
    (sf, cf)
  else
    if 64 ≤ a1 then
      (sf, cf)
    else
      if a2 < 0 then
        (sf, cf)
      else
        if a2 < 64 then
          m_k_X0_copy_35 sf a1 a2 wF 0 cf
        else
          (sf, cf)
abbrev r_k_X0_countBest : Type := Int32
def m_k_X0_countBest_50 (rec_17 : Int32 → Int32 → r_k_X0_countBest) (v4_17 : Int32) (s0_50 : Int32) : r_k_X0_countBest :=
  rec_17 s0_50 (v4_17 + 1)
def m_k_X0_countBest_49 (rec_17 : Int32 → Int32 → r_k_X0_countBest) (v4_17 : Int32) : r_k_X0_countBest :=
  m_k_X0_countBest_50 rec_17 v4_17 0
def m_k_X0_countBest_67 (rec_4 : Int32 → Int32 → r_k_X0_countBest) (v1_4 : Int32) (v2_4 : Int32) (s0_67 : Int32) : r_k_X0_countBest :=
  rec_4 (v1_4 + s0_67) (v2_4 + 1)
def m_k_X0_countBest_17s (cf : Nat → Int64) (rec_4 : Int32 → Int32 → r_k_X0_countBest) (v1_4 : Int32) (v2_4 : Int32) (rec_17 : Int32 → Int32 → r_k_X0_countBest) (v3_17 : Int32) (v4_17 : Int32) : r_k_X0_countBest :=
  if 3 < v4_17 then
    if v3_17 = 0 then
      m_k_X0_countBest_67 rec_4 v1_4 v2_4 0
    else
      m_k_X0_countBest_67 rec_4 v1_4 v2_4 1
  else
    if v3_17 = 0 then
      m_k_X0_countBest_49 rec_17 v4_17
    else
      lE (m_k_X0_costAt cf v2_4 v4_17) (fun t_31 =>
        lE (m_k_X0_costAt cf 0 v4_17) (fun t_38 =>
          if (lg_cmp t_31 t_38) = 0 then
            m_k_X0_countBest_50 rec_17 v4_17 1
          else
            m_k_X0_countBest_49 rec_17 v4_17))
def m_k_X0_countBest_17 (cf : Nat → Int64) (rec_4 : Int32 → Int32 → r_k_X0_countBest) (v1_4 : Int32) (v2_4 : Int32) : Nat → Int32 → Int32 → r_k_X0_countBest
  | 0, _, _ => (0)
  | n + 1, v3_17, v4_17 => m_k_X0_countBest_17s cf rec_4 v1_4 v2_4 (fun v3_17 v4_17 => m_k_X0_countBest_17 cf rec_4 v1_4 v2_4 n v3_17 v4_17) v3_17 v4_17
theorem m_k_X0_countBest_17_succ (cf : Nat → Int64) (rec_4 : Int32 → Int32 → r_k_X0_countBest) (v1_4 : Int32) (v2_4 : Int32) (n : Nat) (v3_17 : Int32) (v4_17 : Int32) : m_k_X0_countBest_17 cf rec_4 v1_4 v2_4 (n + 1) v3_17 v4_17 = m_k_X0_countBest_17s cf rec_4 v1_4 v2_4 (m_k_X0_countBest_17 cf rec_4 v1_4 v2_4 n) v3_17 v4_17 := rfl
def m_k_X0_countBest_4s (ac : Int32) (cf : Nat → Int64) (rec_4 : Int32 → Int32 → r_k_X0_countBest) (v1_4 : Int32) (v2_4 : Int32) : r_k_X0_countBest :=
  if ac ≤ v2_4 then
    v1_4
  else
    m_k_X0_countBest_17 cf rec_4 v1_4 v2_4 wF 1 1
def m_k_X0_countBest_4 (ac : Int32) (cf : Nat → Int64) : Nat → Int32 → Int32 → r_k_X0_countBest
  | 0, _, _ => (0)
  | n + 1, v1_4, v2_4 => m_k_X0_countBest_4s ac cf (fun v1_4 v2_4 => m_k_X0_countBest_4 ac cf n v1_4 v2_4) v1_4 v2_4
theorem m_k_X0_countBest_4_succ (ac : Int32) (cf : Nat → Int64) (n : Nat) (v1_4 : Int32) (v2_4 : Int32) : m_k_X0_countBest_4 ac cf (n + 1) v1_4 v2_4 = m_k_X0_countBest_4s ac cf (m_k_X0_countBest_4 ac cf n) v1_4 v2_4 := rfl
def m_k_X0_countBest (ac : Int32) (cf : Nat → Int64) : r_k_X0_countBest :=
  m_k_X0_countBest_4 ac cf wF 0 0
abbrev r_k_X0_countDifferent : Type := Int32
def m_k_X0_countDifferent_52 (rec_18 : Int32 → Int32 → r_k_X0_countDifferent) (v5_18 : Int32) (s0_52 : Int32) : r_k_X0_countDifferent :=
  rec_18 s0_52 (v5_18 + 1)
def m_k_X0_countDifferent_71 (rec_4 : Int32 → Int32 → r_k_X0_countDifferent) (v2_4 : Int32) (v3_4 : Int32) (s0_71 : Int32) : r_k_X0_countDifferent :=
  rec_4 (v2_4 + s0_71) (v3_4 + 1)
def m_k_X0_countDifferent_60 (rec_4 : Int32 → Int32 → r_k_X0_countDifferent) (v2_4 : Int32) (v3_4 : Int32) (v4_18 : Int32) : r_k_X0_countDifferent :=
  if v4_18 = 0 then
    m_k_X0_countDifferent_71 rec_4 v2_4 v3_4 0
  else
    m_k_X0_countDifferent_71 rec_4 v2_4 v3_4 1
def m_k_X0_countDifferent_18s (sf : Nat → Int32) (a1 : Int32) (rec_4 : Int32 → Int32 → r_k_X0_countDifferent) (v2_4 : Int32) (v3_4 : Int32) (rec_18 : Int32 → Int32 → r_k_X0_countDifferent) (v4_18 : Int32) (v5_18 : Int32) : r_k_X0_countDifferent :=
  if v3_4 ≤ v5_18 then
    m_k_X0_countDifferent_60 rec_4 v2_4 v3_4 v4_18
  else
    if v4_18 = 0 then
      m_k_X0_countDifferent_60 rec_4 v2_4 v3_4 v4_18
    else
      lE (m_k_X0_setAt sf v3_4) (fun t_31 =>
        lE (m_k_X0_setAt sf v5_18) (fun t_39 =>
          if (t_31 &&& a1) = (t_39 &&& a1) then
            m_k_X0_countDifferent_52 rec_18 v5_18 0
          else
            m_k_X0_countDifferent_52 rec_18 v5_18 1))
def m_k_X0_countDifferent_18 (sf : Nat → Int32) (a1 : Int32) (rec_4 : Int32 → Int32 → r_k_X0_countDifferent) (v2_4 : Int32) (v3_4 : Int32) : Nat → Int32 → Int32 → r_k_X0_countDifferent
  | 0, _, _ => (0)
  | n + 1, v4_18, v5_18 => m_k_X0_countDifferent_18s sf a1 rec_4 v2_4 v3_4 (fun v4_18 v5_18 => m_k_X0_countDifferent_18 sf a1 rec_4 v2_4 v3_4 n v4_18 v5_18) v4_18 v5_18
theorem m_k_X0_countDifferent_18_succ (sf : Nat → Int32) (a1 : Int32) (rec_4 : Int32 → Int32 → r_k_X0_countDifferent) (v2_4 : Int32) (v3_4 : Int32) (n : Nat) (v4_18 : Int32) (v5_18 : Int32) : m_k_X0_countDifferent_18 sf a1 rec_4 v2_4 v3_4 (n + 1) v4_18 v5_18 = m_k_X0_countDifferent_18s sf a1 rec_4 v2_4 v3_4 (m_k_X0_countDifferent_18 sf a1 rec_4 v2_4 v3_4 n) v4_18 v5_18 := rfl
def m_k_X0_countDifferent_4s (ac : Int32) (sf : Nat → Int32) (a1 : Int32) (rec_4 : Int32 → Int32 → r_k_X0_countDifferent) (v2_4 : Int32) (v3_4 : Int32) : r_k_X0_countDifferent :=
  if ac ≤ v3_4 then
    v2_4
  else
    m_k_X0_countDifferent_18 sf a1 rec_4 v2_4 v3_4 wF 1 0
def m_k_X0_countDifferent_4 (ac : Int32) (sf : Nat → Int32) (a1 : Int32) : Nat → Int32 → Int32 → r_k_X0_countDifferent
  | 0, _, _ => (0)
  | n + 1, v2_4, v3_4 => m_k_X0_countDifferent_4s ac sf a1 (fun v2_4 v3_4 => m_k_X0_countDifferent_4 ac sf a1 n v2_4 v3_4) v2_4 v3_4
theorem m_k_X0_countDifferent_4_succ (ac : Int32) (sf : Nat → Int32) (a1 : Int32) (n : Nat) (v2_4 : Int32) (v3_4 : Int32) : m_k_X0_countDifferent_4 ac sf a1 (n + 1) v2_4 v3_4 = m_k_X0_countDifferent_4s ac sf a1 (m_k_X0_countDifferent_4 ac sf a1 n) v2_4 v3_4 := rfl
def m_k_X0_countDifferent (ac : Int32) (sf : Nat → Int32) (a1 : Int32) : r_k_X0_countDifferent :=
  m_k_X0_countDifferent_4 ac sf a1 wF 0 0
abbrev r_k_X0_isDearer : Type := Int32
def m_k_X0_isDearer (cf : Nat → Int64) (a1 : Int32) (a2 : Int64) (a3 : Int64) (a4 : Int64) : r_k_X0_isDearer :=
  lE (m_k_X0_costAt cf a1 3) (fun t_3 =>
    if (lg_cmp t_3 a4) = 0 then
      lE (m_k_X0_costAt cf a1 2) (fun t_33 =>
        if (lg_cmp t_33 a3) = 0 then
          lE (m_k_X0_costAt cf a1 1) (fun t_63 =>
            if (lg_cmp t_63 a2) ≤ 0 then
              0
            else
              1)
        else
          lE (m_k_X0_costAt cf a1 2) (fun t_45 =>
            if (lg_cmp t_45 a3) ≤ 0 then
              0
            else
              1))
    else
      lE (m_k_X0_costAt cf a1 3) (fun t_15 =>
        if (lg_cmp t_15 a4) ≤ 0 then
          0
        else
          1))
abbrev r_k_X0_insert : Type := Int32 × Int32 × (Nat → Int32) × (Nat → Int64)
def m_k_X0_insert_73 (ac : Int32) (a1 : Int32) (a2 : Int64) (a3 : Int64) (a4 : Int64) (s1_f_30 : Nat → Int32) (s2_f_30 : Nat → Int64) (v8_30 : Int32) : r_k_X0_insert :=
  (1, ac + 1, upd s1_f_30 v8_30.toNatClampNeg a1, vp_updL (vp_updL (vp_updL s2_f_30 ((v8_30 * 3).toNatClampNeg) a2) (((v8_30 * 3) + 1).toNatClampNeg) a3) (((v8_30 * 3) + 2).toNatClampNeg) a4)
def m_k_X0_insert_30s (ac : Int32) (a1 : Int32) (a2 : Int64) (a3 : Int64) (a4 : Int64) (rec_30 : Int32 → Int32 → (Nat → Int32) → (Nat → Int64) → r_k_X0_insert) (v8_30 : Int32) (v9_30 : Int32) (s1_f_30 : Nat → Int32) (s2_f_30 : Nat → Int64) : r_k_X0_insert :=
  if v9_30 ≤ 0 then
    m_k_X0_insert_73 ac a1 a2 a3 a4 s1_f_30 s2_f_30 v8_30
  else
    lE (m_k_X0_isDearer s2_f_30 (v9_30 - 1) a2 a3 a4) (fun t_45 =>
      if t_45 = 0 then
        m_k_X0_insert_73 ac a1 a2 a3 a4 s1_f_30 s2_f_30 v8_30
      else
        lE (m_k_X0_copy s1_f_30 s2_f_30 (v9_30 - 1) v9_30) (fun t_58 =>
          rec_30 (v9_30 - 1) (v9_30 + (-1)) t_58.1 t_58.2))
def m_k_X0_insert_30 (ac : Int32) (a1 : Int32) (a2 : Int64) (a3 : Int64) (a4 : Int64) : Nat → Int32 → Int32 → (Nat → Int32) → (Nat → Int64) → r_k_X0_insert
  | 0, _, _, _, _ => (0, 0, (fun _ => 0), (fun _ => 0))
  | n + 1, v8_30, v9_30, s1_f_30, s2_f_30 => m_k_X0_insert_30s ac a1 a2 a3 a4 (fun v8_30 v9_30 s1_f_30 s2_f_30 => m_k_X0_insert_30 ac a1 a2 a3 a4 n v8_30 v9_30 s1_f_30 s2_f_30) v8_30 v9_30 s1_f_30 s2_f_30
theorem m_k_X0_insert_30_succ (ac : Int32) (a1 : Int32) (a2 : Int64) (a3 : Int64) (a4 : Int64) (n : Nat) (v8_30 : Int32) (v9_30 : Int32) (s1_f_30 : Nat → Int32) (s2_f_30 : Nat → Int64) : m_k_X0_insert_30 ac a1 a2 a3 a4 (n + 1) v8_30 v9_30 s1_f_30 s2_f_30 = m_k_X0_insert_30s ac a1 a2 a3 a4 (m_k_X0_insert_30 ac a1 a2 a3 a4 n) v8_30 v9_30 s1_f_30 s2_f_30 := rfl
def m_k_X0_insert (ac : Int32) (sf : Nat → Int32) (cf : Nat → Int64) (a1 : Int32) (a2 : Int64) (a3 : Int64) (a4 : Int64) : r_k_X0_insert :=
  if ac < 0 then
    (0, ac, sf, cf)
  else
    if ac < 64 then
      m_k_X0_insert_30 ac a1 a2 a3 a4 wF ac ac sf cf
    else
      (0, ac, sf, cf)
abbrev r_k_X6_hasPredicate : Type := Int32
def m_k_X6_hasPredicate (pn : Int32) (a1 : Int32) : r_k_X6_hasPredicate :=
  if a1 < 0 then
    0
  else
    if pn ≤ a1 then
      0
    else
      if 6 ≤ a1 then
        0
      else
        1
abbrev r_k_X6_placesOf : Type := Int32
def m_k_X6_placesOf (pn : Int32) (pl : Nat → Int32) (a1 : Int32) : r_k_X6_placesOf :=
  lE (m_k_X6_hasPredicate pn a1) (fun t_2 =>
    if t_2 = 0 then
      (-1)
    else
      (pl a1.toNatClampNeg))
abbrev r_k_X6_tellPredicate : Type := Int32 × Int32 × (Nat → Int32)
def m_k_X6_tellPredicate (pn : Int32) (pl : Nat → Int32) (a1 : Int32) : r_k_X6_tellPredicate :=
  if pn < 0 then
    ((-1), pn, pl)
  else
    if pn < 6 then
      (pn, pn + 1, upd pl pn.toNatClampNeg a1)
    else
      ((-1), pn, pl)
abbrev r_k_X6_tellTime : Type := Int32 × (Nat → Int32) × (Nat → Int32)
def m_k_X6_tellTime (tn : Int32) (tp : Nat → Int32) (tq : Nat → Int32) (a1 : Int32) (a2 : Int32) : r_k_X6_tellTime :=
  if tn < 0 then
    (tn, tp, tq)
  else
    if 7 ≤ tn then
      (tn, tp, tq)
    else
      (tn + 1, upd tp tn.toNatClampNeg a1, upd tq tn.toNatClampNeg a2)
abbrev r_k_X6_groundedByCalls : Type := Int32
def m_k_X6_groundedByCalls (tn : Int32) : r_k_X6_groundedByCalls :=
  (tn - 1)
abbrev r_k_X6_parameterAt : Type := Int32
def m_k_X6_parameterAt (tp : Nat → Int32) (tq : Nat → Int32) (a1 : Int32) (a2 : Int32) : r_k_X6_parameterAt :=
  if a1 < 0 then
    (-1)
  else
    if 7 ≤ a1 then
      (-1)
    else
      if (tp a1.toNatClampNeg) = a2 then
        (tq a1.toNatClampNeg)
      else
        (-1)
abbrev r_k_X6_isGrounded : Type := Int32
def m_k_X6_isGrounded_2s (tn : Int32) (tp : Nat → Int32) (tq : Nat → Int32) (a1 : Int32) (a2 : Int32) (rec_2 : Int32 → r_k_X6_isGrounded) (v3_2 : Int32) : r_k_X6_isGrounded :=
  if tn ≤ v3_2 then
    0
  else
    lE (m_k_X6_parameterAt tp tq v3_2 a1) (fun t_13 =>
      if t_13 = a2 then
        1
      else
        rec_2 (v3_2 + 1))
def m_k_X6_isGrounded_2 (tn : Int32) (tp : Nat → Int32) (tq : Nat → Int32) (a1 : Int32) (a2 : Int32) : Nat → Int32 → r_k_X6_isGrounded
  | 0, _ => (0)
  | n + 1, v3_2 => m_k_X6_isGrounded_2s tn tp tq a1 a2 (fun v3_2 => m_k_X6_isGrounded_2 tn tp tq a1 a2 n v3_2) v3_2
theorem m_k_X6_isGrounded_2_succ (tn : Int32) (tp : Nat → Int32) (tq : Nat → Int32) (a1 : Int32) (a2 : Int32) (n : Nat) (v3_2 : Int32) : m_k_X6_isGrounded_2 tn tp tq a1 a2 (n + 1) v3_2 = m_k_X6_isGrounded_2s tn tp tq a1 a2 (m_k_X6_isGrounded_2 tn tp tq a1 a2 n) v3_2 := rfl
def m_k_X6_isGrounded (tn : Int32) (tp : Nat → Int32) (tq : Nat → Int32) (a1 : Int32) (a2 : Int32) : r_k_X6_isGrounded :=
  m_k_X6_isGrounded_2 tn tp tq a1 a2 wF 0
abbrev r_k_X6_tellExternal : Type := Int32 × Int32 × (Nat → Int32) × (Nat → Int32)
def m_k_X6_tellExternal (en : Int32) (ea : Nat → Int32) (es : Nat → Int32) (a1 : Int32) : r_k_X6_tellExternal :=
  if en < 0 then
    ((-1), en, ea, es)
  else
    if en < 6 then
      (en, en + 1, upd ea en.toNatClampNeg a1, upd es en.toNatClampNeg (vp_nar .char 102))
    else
      ((-1), en, ea, es)
abbrev r_k_X6_externalAtom : Type := Int32
def m_k_X6_externalAtom (en : Int32) (ea : Nat → Int32) (a1 : Int32) : r_k_X6_externalAtom :=
  if a1 < 0 then
    (-1)
  else
    if en ≤ a1 then
      (-1)
    else
      if 6 ≤ a1 then
        (-1)
      else
        (ea a1.toNatClampNeg)
abbrev r_k_X6_externalState : Type := Int32
def m_k_X6_externalState_27 : r_k_X6_externalState :=
  114
def m_k_X6_externalState (en : Int32) (es : Nat → Int32) (a1 : Int32) : r_k_X6_externalState :=
  if a1 < 0 then
    m_k_X6_externalState_27
  else
    if en ≤ a1 then
      m_k_X6_externalState_27
    else
      if 6 ≤ a1 then
        m_k_X6_externalState_27
      else
        (es a1.toNatClampNeg)
abbrev r_k_X6_externalOf : Type := Int32
def m_k_X6_externalOf_2s (en : Int32) (ea : Nat → Int32) (a1 : Int32) (rec_2 : Int32 → r_k_X6_externalOf) (v2_2 : Int32) : r_k_X6_externalOf :=
  if en ≤ v2_2 then
    (-1)
  else
    lE (m_k_X6_externalAtom en ea v2_2) (fun t_12 =>
      if t_12 = a1 then
        v2_2
      else
        rec_2 (v2_2 + 1))
def m_k_X6_externalOf_2 (en : Int32) (ea : Nat → Int32) (a1 : Int32) : Nat → Int32 → r_k_X6_externalOf
  | 0, _ => (0)
  | n + 1, v2_2 => m_k_X6_externalOf_2s en ea a1 (fun v2_2 => m_k_X6_externalOf_2 en ea a1 n v2_2) v2_2
theorem m_k_X6_externalOf_2_succ (en : Int32) (ea : Nat → Int32) (a1 : Int32) (n : Nat) (v2_2 : Int32) : m_k_X6_externalOf_2 en ea a1 (n + 1) v2_2 = m_k_X6_externalOf_2s en ea a1 (m_k_X6_externalOf_2 en ea a1 n) v2_2 := rfl
def m_k_X6_externalOf (en : Int32) (ea : Nat → Int32) (a1 : Int32) : r_k_X6_externalOf :=
  m_k_X6_externalOf_2 en ea a1 wF 0
abbrev r_k_X4_isCount : Type := Int32
def m_k_X4_isCount_18 : r_k_X4_isCount :=
  1
def m_k_X4_isCount (pp : pT) (a0 : Nat) : r_k_X4_isCount :=
  if (pI pp a0 0) = 103 then
    m_k_X4_isCount_18
  else
    if (pI pp a0 0) = 108 then
      m_k_X4_isCount_18
    else
      0
abbrev r_k_X4_names : Type := Int32
def m_k_X4_names_16 : r_k_X4_names :=
  1
def m_k_X4_names (pp : pT) (a0 : Nat) (a1 : Int32) : r_k_X4_names :=
  if (pI pp a0 3) = a1 then
    m_k_X4_names_16
  else
    if (pI pp a0 5) = a1 then
      m_k_X4_names_16
    else
      0
abbrev r_k_X8_hasSpan : Type := Int32
def m_k_X8_hasSpan (pp : pT) (a0 : Nat) : r_k_X8_hasSpan :=
  if (pI pp a0 4) = (-1) then
    0
  else
    1
abbrev r_k_X8_headAt : Type := Option Nat
def m_k_X8_headAt (pp : pT) (a0 : Nat) (a1 : Int32) : r_k_X8_headAt :=
  if a1 < 0 then
    none
  else
    if (pI pp a0 8) ≤ a1 then
      none
    else
      if 2 ≤ a1 then
        none
      else
        oE (pF pp a0 0 a1.toNatClampNeg) (
          none) (fun o_22 =>
          (some o_22))
abbrev r_k_X8_conditionAt : Type := Option Nat
def m_k_X8_conditionAt (pp : pT) (a0 : Nat) (a1 : Int32) : r_k_X8_conditionAt :=
  if a1 < 0 then
    none
  else
    if (pI pp a0 10) ≤ a1 then
      none
    else
      if 5 ≤ a1 then
        none
      else
        oE (pF pp a0 1 a1.toNatClampNeg) (
          none) (fun o_22 =>
          (some o_22))
abbrev r_k_X8_isDefinite : Type := Int32
def m_k_X8_isDefinite_38 (rec_2 : Int32 → r_k_X8_isDefinite) (v1_2 : Int32) : r_k_X8_isDefinite :=
  rec_2 (v1_2 + 1)
def m_k_X8_isDefinite_2s (pp : pT) (a0 : Nat) (rec_2 : Int32 → r_k_X8_isDefinite) (v1_2 : Int32) : r_k_X8_isDefinite :=
  if (pI pp a0 10) ≤ v1_2 then
    if (pI pp a0 0) = 100 then
      if (pI pp a0 8) = 1 then
        1
      else
        0
    else
      0
  else
    lE (m_k_X8_conditionAt pp a0 v1_2) (fun t_12 =>
      oE (t_12) (
        m_k_X8_isDefinite_38 rec_2 v1_2) (fun o_12 =>
        if (pI pp o_12 0) = 102 then
          0
        else
          lE (m_k_X4_isCount pp o_12) (fun t_30 =>
            if t_30 = 0 then
              m_k_X8_isDefinite_38 rec_2 v1_2
            else
              0)))
def m_k_X8_isDefinite_2 (pp : pT) (a0 : Nat) : Nat → Int32 → r_k_X8_isDefinite
  | 0, _ => (0)
  | n + 1, v1_2 => m_k_X8_isDefinite_2s pp a0 (fun v1_2 => m_k_X8_isDefinite_2 pp a0 n v1_2) v1_2
theorem m_k_X8_isDefinite_2_succ (pp : pT) (a0 : Nat) (n : Nat) (v1_2 : Int32) : m_k_X8_isDefinite_2 pp a0 (n + 1) v1_2 = m_k_X8_isDefinite_2s pp a0 (m_k_X8_isDefinite_2 pp a0 n) v1_2 := rfl
def m_k_X8_isDefinite (pp : pT) (a0 : Nat) : r_k_X8_isDefinite :=
  m_k_X8_isDefinite_2 pp a0 wF 0
abbrev r_k_X8_hasCounts : Type := Int32
def m_k_X8_hasCounts_29 (rec_2 : Int32 → r_k_X8_hasCounts) (v1_2 : Int32) : r_k_X8_hasCounts :=
  rec_2 (v1_2 + 1)
def m_k_X8_hasCounts_2s (pp : pT) (a0 : Nat) (rec_2 : Int32 → r_k_X8_hasCounts) (v1_2 : Int32) : r_k_X8_hasCounts :=
  if (pI pp a0 10) ≤ v1_2 then
    0
  else
    lE (m_k_X8_conditionAt pp a0 v1_2) (fun t_12 =>
      oE (t_12) (
        m_k_X8_hasCounts_29 rec_2 v1_2) (fun o_12 =>
        lE (m_k_X4_isCount pp o_12) (fun t_21 =>
          if t_21 = 0 then
            m_k_X8_hasCounts_29 rec_2 v1_2
          else
            1)))
def m_k_X8_hasCounts_2 (pp : pT) (a0 : Nat) : Nat → Int32 → r_k_X8_hasCounts
  | 0, _ => (0)
  | n + 1, v1_2 => m_k_X8_hasCounts_2s pp a0 (fun v1_2 => m_k_X8_hasCounts_2 pp a0 n v1_2) v1_2
theorem m_k_X8_hasCounts_2_succ (pp : pT) (a0 : Nat) (n : Nat) (v1_2 : Int32) : m_k_X8_hasCounts_2 pp a0 (n + 1) v1_2 = m_k_X8_hasCounts_2s pp a0 (m_k_X8_hasCounts_2 pp a0 n) v1_2 := rfl
def m_k_X8_hasCounts (pp : pT) (a0 : Nat) : r_k_X8_hasCounts :=
  m_k_X8_hasCounts_2 pp a0 wF 0
abbrev r_k_X8_neededPredicates : Type := Int32
def m_k_X8_neededPredicates_40 (rec_4 : Int32 → Int32 → r_k_X8_neededPredicates) (v2_4 : Int32) (v1_40 : Int32) : r_k_X8_neededPredicates :=
  rec_4 v1_40 (v2_4 + 1)
def m_k_X8_neededPredicates_4s (pp : pT) (a0 : Nat) (rec_4 : Int32 → Int32 → r_k_X8_neededPredicates) (v1_4 : Int32) (v2_4 : Int32) : r_k_X8_neededPredicates :=
  if (pI pp a0 10) ≤ v2_4 then
    v1_4
  else
    lE (m_k_X8_conditionAt pp a0 v2_4) (fun t_14 =>
      oE (t_14) (
        m_k_X8_neededPredicates_40 rec_4 v2_4 v1_4) (fun o_14 =>
        if (pI pp o_14 0) = 116 then
          m_k_X8_neededPredicates_40 rec_4 v2_4 (v1_4 ||| ((1 : Int32) <<< ((pI pp o_14 1) &&& 31)))
        else
          m_k_X8_neededPredicates_40 rec_4 v2_4 v1_4))
def m_k_X8_neededPredicates_4 (pp : pT) (a0 : Nat) : Nat → Int32 → Int32 → r_k_X8_neededPredicates
  | 0, _, _ => (0)
  | n + 1, v1_4, v2_4 => m_k_X8_neededPredicates_4s pp a0 (fun v1_4 v2_4 => m_k_X8_neededPredicates_4 pp a0 n v1_4 v2_4) v1_4 v2_4
theorem m_k_X8_neededPredicates_4_succ (pp : pT) (a0 : Nat) (n : Nat) (v1_4 : Int32) (v2_4 : Int32) : m_k_X8_neededPredicates_4 pp a0 (n + 1) v1_4 v2_4 = m_k_X8_neededPredicates_4s pp a0 (m_k_X8_neededPredicates_4 pp a0 n) v1_4 v2_4 := rfl
def m_k_X8_neededPredicates (pp : pT) (a0 : Nat) : r_k_X8_neededPredicates :=
  m_k_X8_neededPredicates_4 pp a0 wF 0 0
abbrev r_k_X8_valuesFor : Type := Int32
def m_k_X8_valuesFor_45 (rec_16 : Int32 → r_k_X8_valuesFor) (v2_16 : Int32) : r_k_X8_valuesFor :=
  rec_16 (v2_16 + 1)
def m_k_X8_valuesFor_82 (rec_53 : Int32 → r_k_X8_valuesFor) (v2_53 : Int32) : r_k_X8_valuesFor :=
  rec_53 (v2_53 + 1)
def m_k_X8_valuesFor_53s (pp : pT) (a0 : Nat) (a1 : Int32) (rec_53 : Int32 → r_k_X8_valuesFor) (v2_53 : Int32) : r_k_X8_valuesFor :=
  if (pI pp a0 10) ≤ v2_53 then
    1
  else
    lE (m_k_X8_conditionAt pp a0 v2_53) (fun t_63 =>
      oE (t_63) (
        m_k_X8_valuesFor_82 rec_53 v2_53) (fun o_63 =>
        lE (m_k_X4_names pp o_63 a1) (fun t_73 =>
          if t_73 = 0 then
            m_k_X8_valuesFor_82 rec_53 v2_53
          else
            8)))
def m_k_X8_valuesFor_53 (pp : pT) (a0 : Nat) (a1 : Int32) : Nat → Int32 → r_k_X8_valuesFor
  | 0, _ => (0)
  | n + 1, v2_53 => m_k_X8_valuesFor_53s pp a0 a1 (fun v2_53 => m_k_X8_valuesFor_53 pp a0 a1 n v2_53) v2_53
theorem m_k_X8_valuesFor_53_succ (pp : pT) (a0 : Nat) (a1 : Int32) (n : Nat) (v2_53 : Int32) : m_k_X8_valuesFor_53 pp a0 a1 (n + 1) v2_53 = m_k_X8_valuesFor_53s pp a0 a1 (m_k_X8_valuesFor_53 pp a0 a1 n) v2_53 := rfl
def m_k_X8_valuesFor_16s (pp : pT) (a0 : Nat) (a1 : Int32) (rec_16 : Int32 → r_k_X8_valuesFor) (v2_16 : Int32) : r_k_X8_valuesFor :=
  if (pI pp a0 8) ≤ v2_16 then
    m_k_X8_valuesFor_53 pp a0 a1 wF 0
  else
    lE (m_k_X8_headAt pp a0 v2_16) (fun t_26 =>
      oE (t_26) (
        m_k_X8_valuesFor_45 rec_16 v2_16) (fun o_26 =>
        lE (m_k_X4_names pp o_26 a1) (fun t_36 =>
          if t_36 = 0 then
            m_k_X8_valuesFor_45 rec_16 v2_16
          else
            8)))
def m_k_X8_valuesFor_16 (pp : pT) (a0 : Nat) (a1 : Int32) : Nat → Int32 → r_k_X8_valuesFor
  | 0, _ => (0)
  | n + 1, v2_16 => m_k_X8_valuesFor_16s pp a0 a1 (fun v2_16 => m_k_X8_valuesFor_16 pp a0 a1 n v2_16) v2_16
theorem m_k_X8_valuesFor_16_succ (pp : pT) (a0 : Nat) (a1 : Int32) (n : Nat) (v2_16 : Int32) : m_k_X8_valuesFor_16 pp a0 a1 (n + 1) v2_16 = m_k_X8_valuesFor_16s pp a0 a1 (m_k_X8_valuesFor_16 pp a0 a1 n) v2_16 := rfl
def m_k_X8_valuesFor_14 (pp : pT) (a0 : Nat) (a1 : Int32) : r_k_X8_valuesFor :=
  m_k_X8_valuesFor_16 pp a0 a1 wF 0
def m_k_X8_valuesFor (pp : pT) (a0 : Nat) (a1 : Int32) : r_k_X8_valuesFor :=
  if a1 = 3 then
    lE (m_k_X8_hasSpan pp a0) (fun t_6 =>
      if t_6 = 0 then
        m_k_X8_valuesFor_14 pp a0 a1
      else
        1)
  else
    m_k_X8_valuesFor_14 pp a0 a1
abbrev r_k_X6_ruleAt : Type := Option Nat
def m_k_X6_ruleAt (rn : Int32) (rf : Nat → Option Nat) (a1 : Int32) : r_k_X6_ruleAt :=
  if a1 < 0 then
    none
  else
    if rn ≤ a1 then
      none
    else
      if 20 ≤ a1 then
        none
      else
        oE (rf a1.toNatClampNeg) (
          none) (fun o_23 =>
          (some o_23))
abbrev r_k_X2_atomOf : Type := Int32
def m_k_X2_atomOf (pp : pT) (b_1 : Int32) (b_2 : Int32) (b_3 : Int32) (b_p : Int32) (a0 : Nat) : r_k_X2_atomOf :=
  lE (m_k_X2_valueOf b_1 b_2 b_3 b_p (pI pp a0 3) (pI pp a0 4)) (fun t_15 =>
    lE (m_k_X2_valueOf b_1 b_2 b_3 b_p (pI pp a0 5) (pI pp a0 6)) (fun t_28 =>
      if t_15 < 0 then
        (-1)
      else
        if 8 ≤ t_15 then
          (-1)
        else
          if t_28 < 0 then
            (-1)
          else
            if t_28 < 8 then
              ((((pI pp a0 1) * 64) + (t_15 * 8)) + t_28)
            else
              (-1)))
abbrev r_k_X2_atomOf_z : Type := Int32
def m_k_X2_atomOf_z : r_k_X2_atomOf_z :=
  (-1)
abbrev r_k_X2_testHolds : Type := Int32
def m_k_X2_testHolds_80 : r_k_X2_testHolds :=
  1
def m_k_X2_testHolds (pp : pT) (b_1 : Int32) (b_2 : Int32) (b_3 : Int32) (b_p : Int32) (a0 : Nat) : r_k_X2_testHolds :=
  lE (m_k_X2_valueOf b_1 b_2 b_3 b_p (pI pp a0 3) (pI pp a0 4)) (fun t_9 =>
    lE (m_k_X2_valueOf b_1 b_2 b_3 b_p (pI pp a0 5) (pI pp a0 6)) (fun t_22 =>
      if (pI pp a0 0) = 60 then
        if t_22 ≤ t_9 then
          0
        else
          1
      else
        if (pI pp a0 0) = 61 then
          if t_9 = t_22 then
            1
          else
            0
        else
          if (pI pp a0 0) = 33 then
            if t_9 = t_22 then
              0
            else
              m_k_X2_testHolds_80
          else
            m_k_X2_testHolds_80))
abbrev r_k_X3_headAtomAt : Type := Int32
def m_k_X3_headAtomAt (hds : Nat → Int32) (a1 : Int32) : r_k_X3_headAtomAt :=
  if a1 < 0 then
    (-1)
  else
    if 16 ≤ a1 then
      (-1)
    else
      (hds a1.toNatClampNeg)
abbrev r_k_X3_listHead : Type := (Nat → Int32) × Int32
def m_k_X3_listHead_2s (hn : Int32) (hds : Nat → Int32) (a1 : Int32) (rec_2 : Int32 → r_k_X3_listHead) (v2_2 : Int32) : r_k_X3_listHead :=
  if hn ≤ v2_2 then
    if hn < 0 then
      (hds, hn)
    else
      if 16 ≤ hn then
        (hds, hn)
      else
        (upd hds hn.toNatClampNeg a1, hn + 1)
  else
    lE (m_k_X3_headAtomAt hds v2_2) (fun t_12 =>
      if t_12 = a1 then
        (hds, hn)
      else
        rec_2 (v2_2 + 1))
def m_k_X3_listHead_2 (hn : Int32) (hds : Nat → Int32) (a1 : Int32) : Nat → Int32 → r_k_X3_listHead
  | 0, _ => ((fun _ => 0), 0)
  | n + 1, v2_2 => m_k_X3_listHead_2s hn hds a1 (fun v2_2 => m_k_X3_listHead_2 hn hds a1 n v2_2) v2_2
theorem m_k_X3_listHead_2_succ (hn : Int32) (hds : Nat → Int32) (a1 : Int32) (n : Nat) (v2_2 : Int32) : m_k_X3_listHead_2 hn hds a1 (n + 1) v2_2 = m_k_X3_listHead_2s hn hds a1 (m_k_X3_listHead_2 hn hds a1 n) v2_2 := rfl
def m_k_X3_listHead (hn : Int32) (hds : Nat → Int32) (a1 : Int32) : r_k_X3_listHead :=
  m_k_X3_listHead_2 hn hds a1 wF 0
abbrev r_k_X3_openNumberOf : Type := Int32
def m_k_X3_openNumberOf (ob : Nat → Int32) (a1 : Int32) : r_k_X3_openNumberOf :=
  if a1 < 0 then
    (-1)
  else
    if 384 ≤ a1 then
      (-1)
    else
      (ob a1.toNatClampNeg)
abbrev r_k_X3_openAtomAt : Type := Int32
def m_k_X3_openAtomAt (oa : Nat → Int32) (a1 : Int32) : r_k_X3_openAtomAt :=
  if a1 < 0 then
    (-1)
  else
    if 384 ≤ a1 then
      (-1)
    else
      (oa a1.toNatClampNeg)
abbrev r_k_X3_keptOf : Type := Int32
def m_k_X3_keptOf (kb : Nat → Int32) (a1 : Int32) : r_k_X3_keptOf :=
  if a1 < 0 then
    0
  else
    if 20 ≤ a1 then
      0
    else
      (kb a1.toNatClampNeg)
abbrev r_k_X3_keptRuleAt : Type := Int32
def m_k_X3_keptRuleAt (kr : Nat → Int32) (a1 : Int32) : r_k_X3_keptRuleAt :=
  if a1 < 0 then
    (-1)
  else
    if 300 ≤ a1 then
      (-1)
    else
      (kr a1.toNatClampNeg)
abbrev r_k_X3_keep : Type := (Nat → Int32) × (Nat → Int32) × (Nat → Int32) × Int32
def m_k_X3_keep_48 (kn : Int32) (kb : Nat → Int32) (a1 : Int32) (x15_f_48 : Nat → Int32) (x16_f_48 : Nat → Int32) : r_k_X3_keep :=
  (x15_f_48, x16_f_48, upd kb a1.toNatClampNeg ((kb a1.toNatClampNeg) + 1), kn + 1)
def m_k_X3_keep (kn : Int32) (kr : Nat → Int32) (kv : Nat → Int32) (kb : Nat → Int32) (a1 : Int32) (a2 : Int32) : r_k_X3_keep :=
  if a1 < 0 then
    (kr, kv, kb, kn)
  else
    if a1 < 20 then
      if kn < 0 then
        m_k_X3_keep_48 kn kb a1 kr kv
      else
        if 300 ≤ kn then
          m_k_X3_keep_48 kn kb a1 kr kv
        else
          m_k_X3_keep_48 kn kb a1 (upd kr kn.toNatClampNeg a1) (upd kv kn.toNatClampNeg a2)
    else
      (kr, kv, kb, kn)
abbrev r_k_X3_bindKept : Type := Option Nat × Int32 × Int32 × Int32 × Int32
def m_k_X3_bindKept (rn : Int32) (rf : Nat → Option Nat) (b_1 : Int32) (b_2 : Int32) (b_3 : Int32) (b_p : Int32) (kr : Nat → Int32) (kv : Nat → Int32) (a1 : Int32) : r_k_X3_bindKept :=
  if a1 < 0 then
    (none, b_1, b_2, b_3, b_p)
  else
    if a1 < 300 then
      lE (m_k_X2_unpack (kv a1.toNatClampNeg)) (fun t_23 =>
        lE (m_k_X6_ruleAt rn rf (kr a1.toNatClampNeg)) (fun t_36 =>
          oE (t_36) (
            (none, t_23.1, t_23.2.1, t_23.2.2.1, t_23.2.2.2)) (fun o_36 =>
            ((some o_36), t_23.1, t_23.2.1, t_23.2.2.1, t_23.2.2.2))))
    else
      (none, b_1, b_2, b_3, b_p)
abbrev r_k_X3_beginWithExternals : Type := (Nat → Int64) × (Nat → Int64)
def m_k_X3_beginWithExternals_72 (rec_2 : Int32 → (Nat → Int64) → (Nat → Int64) → r_k_X3_beginWithExternals) (v1_2 : Int32) (x11_f_44 : Nat → Int64) (x13_f_72 : Nat → Int64) : r_k_X3_beginWithExternals :=
  rec_2 (v1_2 + 1) x11_f_44 x13_f_72
def m_k_X3_beginWithExternals_56 (en : Int32) (ea : Nat → Int32) (rec_2 : Int32 → (Nat → Int64) → (Nat → Int64) → r_k_X3_beginWithExternals) (v1_2 : Int32) (x11_f_44 : Nat → Int64) (x13_f_2 : Nat → Int64) : r_k_X3_beginWithExternals :=
  lE (m_k_X6_externalAtom en ea v1_2) (fun t_65 =>
    lE (m_k_X1_add x13_f_2 t_65) (fun t_68 =>
      m_k_X3_beginWithExternals_72 rec_2 v1_2 x11_f_44 t_68.2))
def m_k_X3_beginWithExternals_44 (en : Int32) (ea : Nat → Int32) (rec_2 : Int32 → (Nat → Int64) → (Nat → Int64) → r_k_X3_beginWithExternals) (t_18 : r_k_X6_externalState) (v1_2 : Int32) (x13_f_2 : Nat → Int64) (x11_f_44 : Nat → Int64) : r_k_X3_beginWithExternals :=
  if t_18 = 116 then
    m_k_X3_beginWithExternals_56 en ea rec_2 v1_2 x11_f_44 x13_f_2
  else
    if t_18 = 117 then
      m_k_X3_beginWithExternals_56 en ea rec_2 v1_2 x11_f_44 x13_f_2
    else
      m_k_X3_beginWithExternals_72 rec_2 v1_2 x11_f_44 x13_f_2
def m_k_X3_beginWithExternals_2s (en : Int32) (ea : Nat → Int32) (es : Nat → Int32) (rec_2 : Int32 → (Nat → Int64) → (Nat → Int64) → r_k_X3_beginWithExternals) (v1_2 : Int32) (x11_f_2 : Nat → Int64) (x13_f_2 : Nat → Int64) : r_k_X3_beginWithExternals :=
  if en ≤ v1_2 then
    (x11_f_2, x13_f_2)
  else
    lE (m_k_X6_externalState en es v1_2) (fun t_18 =>
      if t_18 = 116 then
        lE (m_k_X6_externalAtom en ea v1_2) (fun t_37 =>
          lE (m_k_X1_add x11_f_2 t_37) (fun t_40 =>
            m_k_X3_beginWithExternals_44 en ea rec_2 t_18 v1_2 x13_f_2 t_40.2))
      else
        m_k_X3_beginWithExternals_44 en ea rec_2 t_18 v1_2 x13_f_2 x11_f_2)
def m_k_X3_beginWithExternals_2 (en : Int32) (ea : Nat → Int32) (es : Nat → Int32) : Nat → Int32 → (Nat → Int64) → (Nat → Int64) → r_k_X3_beginWithExternals
  | 0, _, _, _ => ((fun _ => 0), (fun _ => 0))
  | n + 1, v1_2, x11_f_2, x13_f_2 => m_k_X3_beginWithExternals_2s en ea es (fun v1_2 x11_f_2 x13_f_2 => m_k_X3_beginWithExternals_2 en ea es n v1_2 x11_f_2 x13_f_2) v1_2 x11_f_2 x13_f_2
theorem m_k_X3_beginWithExternals_2_succ (en : Int32) (ea : Nat → Int32) (es : Nat → Int32) (n : Nat) (v1_2 : Int32) (x11_f_2 : Nat → Int64) (x13_f_2 : Nat → Int64) : m_k_X3_beginWithExternals_2 en ea es (n + 1) v1_2 x11_f_2 x13_f_2 = m_k_X3_beginWithExternals_2s en ea es (m_k_X3_beginWithExternals_2 en ea es n) v1_2 x11_f_2 x13_f_2 := rfl
def m_k_X3_beginWithExternals (en : Int32) (ea : Nat → Int32) (es : Nat → Int32) (su : Nat → Int64) (po : Nat → Int64) : r_k_X3_beginWithExternals :=
  m_k_X3_beginWithExternals_2 en ea es wF 0 su po
abbrev r_k_X3_numberOpenAtoms : Type := (Nat → Int32) × (Nat → Int32) × Int32
def m_k_X3_numberOpenAtoms_83 (rec_7 : Int32 → (Nat → Int32) → (Nat → Int32) → Int32 → r_k_X3_numberOpenAtoms) (v1_7 : Int32) (x18_f_83 : Nat → Int32) (x19_f_83 : Nat → Int32) (x8_12_83 : Int32) : r_k_X3_numberOpenAtoms :=
  rec_7 (v1_7 + 1) x18_f_83 x19_f_83 x8_12_83
def m_k_X3_numberOpenAtoms_7s (su : Nat → Int64) (po : Nat → Int64) (rec_7 : Int32 → (Nat → Int32) → (Nat → Int32) → Int32 → r_k_X3_numberOpenAtoms) (v1_7 : Int32) (x18_f_7 : Nat → Int32) (x19_f_7 : Nat → Int32) (x8_12_7 : Int32) : r_k_X3_numberOpenAtoms :=
  if 384 ≤ v1_7 then
    (x18_f_7, x19_f_7, x8_12_7)
  else
    lE (m_k_X1_contains po v1_7) (fun t_26 =>
      if t_26 = 0 then
        m_k_X3_numberOpenAtoms_83 rec_7 v1_7 x18_f_7 (upd x19_f_7 v1_7.toNatClampNeg (-1)) x8_12_7
      else
        lE (m_k_X1_contains su v1_7) (fun t_37 =>
          if t_37 = 0 then
            if 384 ≤ x8_12_7 then
              m_k_X3_numberOpenAtoms_83 rec_7 v1_7 x18_f_7 (upd x19_f_7 v1_7.toNatClampNeg (-1)) x8_12_7
            else
              m_k_X3_numberOpenAtoms_83 rec_7 v1_7 (upd x18_f_7 x8_12_7.toNatClampNeg v1_7) (upd (upd x19_f_7 v1_7.toNatClampNeg (-1)) v1_7.toNatClampNeg x8_12_7) (x8_12_7 + 1)
          else
            m_k_X3_numberOpenAtoms_83 rec_7 v1_7 x18_f_7 (upd x19_f_7 v1_7.toNatClampNeg (-1)) x8_12_7))
def m_k_X3_numberOpenAtoms_7 (su : Nat → Int64) (po : Nat → Int64) : Nat → Int32 → (Nat → Int32) → (Nat → Int32) → Int32 → r_k_X3_numberOpenAtoms
  | 0, _, _, _, _ => ((fun _ => 0), (fun _ => 0), 0)
  | n + 1, v1_7, x18_f_7, x19_f_7, x8_12_7 => m_k_X3_numberOpenAtoms_7s su po (fun v1_7 x18_f_7 x19_f_7 x8_12_7 => m_k_X3_numberOpenAtoms_7 su po n v1_7 x18_f_7 x19_f_7 x8_12_7) v1_7 x18_f_7 x19_f_7 x8_12_7
theorem m_k_X3_numberOpenAtoms_7_succ (su : Nat → Int64) (po : Nat → Int64) (n : Nat) (v1_7 : Int32) (x18_f_7 : Nat → Int32) (x19_f_7 : Nat → Int32) (x8_12_7 : Int32) : m_k_X3_numberOpenAtoms_7 su po (n + 1) v1_7 x18_f_7 x19_f_7 x8_12_7 = m_k_X3_numberOpenAtoms_7s su po (m_k_X3_numberOpenAtoms_7 su po n) v1_7 x18_f_7 x19_f_7 x8_12_7 := rfl
def m_k_X3_numberOpenAtoms (su : Nat → Int64) (po : Nat → Int64) (oa : Nat → Int32) (ob : Nat → Int32) : r_k_X3_numberOpenAtoms :=
  m_k_X3_numberOpenAtoms_7 su po wF 0 oa ob 0
abbrev r_k_X3_listHeads : Type := Int32 × (Nat → Int32) × Int32 × Int32
def m_k_X3_listHeads_128 (rec_24 : Int32 → (Nat → Int32) → Int32 → Int32 → r_k_X3_listHeads) (v4_24 : Int32) (x14_f_128 : Nat → Int32) (x8_5_128 : Int32) (x9_2_128 : Int32) : r_k_X3_listHeads :=
  rec_24 (v4_24 + 1) x14_f_128 x8_5_128 x9_2_128
def m_k_X3_listHeads_122 (rec_72 : Int32 → (Nat → Int32) → Int32 → r_k_X3_listHeads) (v5_72 : Int32) (x14_f_122 : Nat → Int32) (x8_5_122 : Int32) : r_k_X3_listHeads :=
  rec_72 (v5_72 + 1) x14_f_122 x8_5_122
def m_k_X3_listHeads_72s (pp : pT) (b_1 : Int32) (b_2 : Int32) (b_p : Int32) (a0 : Nat) (rec_24 : Int32 → (Nat → Int32) → Int32 → Int32 → r_k_X3_listHeads) (v4_24 : Int32) (x9_2_69 : Int32) (rec_72 : Int32 → (Nat → Int32) → Int32 → r_k_X3_listHeads) (v5_72 : Int32) (x14_f_72 : Nat → Int32) (x8_5_72 : Int32) : r_k_X3_listHeads :=
  if (pI pp a0 8) ≤ v5_72 then
    m_k_X3_listHeads_128 rec_24 v4_24 x14_f_72 x8_5_72 x9_2_69
  else
    lE (m_k_X8_headAt pp a0 v5_72) (fun t_88 =>
      oE (t_88) (
        lE (m_k_X2_atomOf_z) (fun t_91 =>
          if t_91 = (-1) then
            if (pI pp a0 0) = 100 then
              (0, x14_f_72, x8_5_72, x9_2_69)
            else
              m_k_X3_listHeads_122 rec_72 v5_72 x14_f_72 x8_5_72
          else
            lE (m_k_X3_listHead x8_5_72 x14_f_72 t_91) (fun t_105 =>
              m_k_X3_listHeads_122 rec_72 v5_72 t_105.1 t_105.2))) (fun o_88 =>
        lE (m_k_X2_atomOf pp b_1 b_2 x9_2_69 b_p o_88) (fun t_91 =>
          if t_91 = (-1) then
            if (pI pp a0 0) = 100 then
              (0, x14_f_72, x8_5_72, x9_2_69)
            else
              m_k_X3_listHeads_122 rec_72 v5_72 x14_f_72 x8_5_72
          else
            lE (m_k_X3_listHead x8_5_72 x14_f_72 t_91) (fun t_105 =>
              m_k_X3_listHeads_122 rec_72 v5_72 t_105.1 t_105.2))))
def m_k_X3_listHeads_72 (pp : pT) (b_1 : Int32) (b_2 : Int32) (b_p : Int32) (a0 : Nat) (rec_24 : Int32 → (Nat → Int32) → Int32 → Int32 → r_k_X3_listHeads) (v4_24 : Int32) (x9_2_69 : Int32) : Nat → Int32 → (Nat → Int32) → Int32 → r_k_X3_listHeads
  | 0, _, _, _ => (0, (fun _ => 0), 0, 0)
  | n + 1, v5_72, x14_f_72, x8_5_72 => m_k_X3_listHeads_72s pp b_1 b_2 b_p a0 rec_24 v4_24 x9_2_69 (fun v5_72 x14_f_72 x8_5_72 => m_k_X3_listHeads_72 pp b_1 b_2 b_p a0 rec_24 v4_24 x9_2_69 n v5_72 x14_f_72 x8_5_72) v5_72 x14_f_72 x8_5_72
theorem m_k_X3_listHeads_72_succ (pp : pT) (b_1 : Int32) (b_2 : Int32) (b_p : Int32) (a0 : Nat) (rec_24 : Int32 → (Nat → Int32) → Int32 → Int32 → r_k_X3_listHeads) (v4_24 : Int32) (x9_2_69 : Int32) (n : Nat) (v5_72 : Int32) (x14_f_72 : Nat → Int32) (x8_5_72 : Int32) : m_k_X3_listHeads_72 pp b_1 b_2 b_p a0 rec_24 v4_24 x9_2_69 (n + 1) v5_72 x14_f_72 x8_5_72 = m_k_X3_listHeads_72s pp b_1 b_2 b_p a0 rec_24 v4_24 x9_2_69 (m_k_X3_listHeads_72 pp b_1 b_2 b_p a0 rec_24 v4_24 x9_2_69 n) v5_72 x14_f_72 x8_5_72 := rfl
def m_k_X3_listHeads_69 (pp : pT) (b_1 : Int32) (b_2 : Int32) (b_p : Int32) (a0 : Nat) (rec_24 : Int32 → (Nat → Int32) → Int32 → Int32 → r_k_X3_listHeads) (v4_24 : Int32) (x14_f_24 : Nat → Int32) (x8_5_24 : Int32) (x9_2_69 : Int32) : r_k_X3_listHeads :=
  m_k_X3_listHeads_72 pp b_1 b_2 b_p a0 rec_24 v4_24 x9_2_69 wF 0 x14_f_24 x8_5_24
def m_k_X3_listHeads_24s (pp : pT) (b_1 : Int32) (b_2 : Int32) (b_p : Int32) (su : Nat → Int64) (a0 : Nat) (s0_20 : Int32) (t_6 : r_k_X8_hasSpan) (rec_24 : Int32 → (Nat → Int32) → Int32 → Int32 → r_k_X3_listHeads) (v4_24 : Int32) (x14_f_24 : Nat → Int32) (x8_5_24 : Int32) (x9_2_24 : Int32) : r_k_X3_listHeads :=
  if s0_20 ≤ v4_24 then
    (1, x14_f_24, x8_5_24, x9_2_24)
  else
    if t_6 = 0 then
      m_k_X3_listHeads_69 pp b_1 b_2 b_p a0 rec_24 v4_24 x14_f_24 x8_5_24 x9_2_24
    else
      lE (m_k_X1_contains su (((pI pp a0 4) * 64) + (v4_24 * 8))) (fun t_51 =>
        if t_51 = 0 then
          m_k_X3_listHeads_128 rec_24 v4_24 x14_f_24 x8_5_24 x9_2_24
        else
          m_k_X3_listHeads_69 pp b_1 b_2 b_p a0 rec_24 v4_24 x14_f_24 x8_5_24 v4_24)
def m_k_X3_listHeads_24 (pp : pT) (b_1 : Int32) (b_2 : Int32) (b_p : Int32) (su : Nat → Int64) (a0 : Nat) (s0_20 : Int32) (t_6 : r_k_X8_hasSpan) : Nat → Int32 → (Nat → Int32) → Int32 → Int32 → r_k_X3_listHeads
  | 0, _, _, _, _ => (0, (fun _ => 0), 0, 0)
  | n + 1, v4_24, x14_f_24, x8_5_24, x9_2_24 => m_k_X3_listHeads_24s pp b_1 b_2 b_p su a0 s0_20 t_6 (fun v4_24 x14_f_24 x8_5_24 x9_2_24 => m_k_X3_listHeads_24 pp b_1 b_2 b_p su a0 s0_20 t_6 n v4_24 x14_f_24 x8_5_24 x9_2_24) v4_24 x14_f_24 x8_5_24 x9_2_24
theorem m_k_X3_listHeads_24_succ (pp : pT) (b_1 : Int32) (b_2 : Int32) (b_p : Int32) (su : Nat → Int64) (a0 : Nat) (s0_20 : Int32) (t_6 : r_k_X8_hasSpan) (n : Nat) (v4_24 : Int32) (x14_f_24 : Nat → Int32) (x8_5_24 : Int32) (x9_2_24 : Int32) : m_k_X3_listHeads_24 pp b_1 b_2 b_p su a0 s0_20 t_6 (n + 1) v4_24 x14_f_24 x8_5_24 x9_2_24 = m_k_X3_listHeads_24s pp b_1 b_2 b_p su a0 s0_20 t_6 (m_k_X3_listHeads_24 pp b_1 b_2 b_p su a0 s0_20 t_6 n) v4_24 x14_f_24 x8_5_24 x9_2_24 := rfl
def m_k_X3_listHeads_20 (pp : pT) (b_1 : Int32) (b_2 : Int32) (b_3 : Int32) (b_p : Int32) (su : Nat → Int64) (hds : Nat → Int32) (a0 : Nat) (t_6 : r_k_X8_hasSpan) (s0_20 : Int32) : r_k_X3_listHeads :=
  m_k_X3_listHeads_24 pp b_1 b_2 b_p su a0 s0_20 t_6 wF 0 hds 0 b_3
def m_k_X3_listHeads (pp : pT) (b_1 : Int32) (b_2 : Int32) (b_3 : Int32) (b_p : Int32) (su : Nat → Int64) (hds : Nat → Int32) (a0 : Nat) : r_k_X3_listHeads :=
  lE (m_k_X8_hasSpan pp a0) (fun t_6 =>
    if t_6 = 0 then
      m_k_X3_listHeads_20 pp b_1 b_2 b_3 b_p su hds a0 t_6 1
    else
      m_k_X3_listHeads_20 pp b_1 b_2 b_3 b_p su hds a0 t_6 8)
abbrev r_k_X3_mayHoldOne : Type := Int32
def m_k_X3_mayHoldOne_27 (pp : pT) (b_1 : Int32) (b_2 : Int32) (b_3 : Int32) (b_p : Int32) (po : Nat → Int64) (a0 : Nat) : r_k_X3_mayHoldOne :=
  lE (m_k_X2_atomOf pp b_1 b_2 b_3 b_p a0) (fun t_34 =>
    lE (m_k_X1_contains po t_34) (fun t_37 =>
      t_37))
def m_k_X3_mayHoldOne_27a (pp : pT) (b_1 : Int32) (b_2 : Int32) (b_3 : Int32) (b_p : Int32) (su : Nat → Int64) (a0 : Nat) : r_k_X3_mayHoldOne :=
  lE (m_k_X2_atomOf pp b_1 b_2 b_3 b_p a0) (fun t_34 =>
    lE (m_k_X1_contains su t_34) (fun t_37 =>
      t_37))
def m_k_X3_mayHoldOne (pp : pT) (pu : Int32) (b_1 : Int32) (b_2 : Int32) (b_3 : Int32) (b_p : Int32) (su : Nat → Int64) (po : Nat → Int64) (a0 : Nat) : r_k_X3_mayHoldOne :=
  if (pI pp a0 0) = 116 then
    if pu = 0 then
      m_k_X3_mayHoldOne_27a pp b_1 b_2 b_3 b_p su a0
    else
      m_k_X3_mayHoldOne_27 pp b_1 b_2 b_3 b_p po a0
  else
    if (pI pp a0 0) = 102 then
      lE (m_k_X2_atomOf pp b_1 b_2 b_3 b_p a0) (fun t_59 =>
        lE (m_k_X1_contains su t_59) (fun t_62 =>
          if t_62 = 0 then
            1
          else
            0))
    else
      lE (m_k_X2_testHolds pp b_1 b_2 b_3 b_p a0) (fun t_79 =>
        t_79)
abbrev r_k_X3_mayHold : Type := Int32
def m_k_X3_mayHold_42 (rec_2 : Int32 → r_k_X3_mayHold) (v3_2 : Int32) : r_k_X3_mayHold :=
  rec_2 (v3_2 + 1)
def m_k_X3_mayHold_2s (pp : pT) (pu : Int32) (b_1 : Int32) (b_2 : Int32) (b_3 : Int32) (b_p : Int32) (su : Nat → Int64) (po : Nat → Int64) (a0 : Nat) (a1 : Int32) (rec_2 : Int32 → r_k_X3_mayHold) (v3_2 : Int32) : r_k_X3_mayHold :=
  if (pI pp a0 10) ≤ v3_2 then
    1
  else
    lE (m_k_X8_conditionAt pp a0 v3_2) (fun t_12 =>
      oE (t_12) (
        m_k_X3_mayHold_42 rec_2 v3_2) (fun o_12 =>
        if (pI pp o_12 7) = a1 then
          lE (m_k_X3_mayHoldOne pp pu b_1 b_2 b_3 b_p su po o_12) (fun t_34 =>
            if t_34 = 0 then
              0
            else
              m_k_X3_mayHold_42 rec_2 v3_2)
        else
          m_k_X3_mayHold_42 rec_2 v3_2))
def m_k_X3_mayHold_2 (pp : pT) (pu : Int32) (b_1 : Int32) (b_2 : Int32) (b_3 : Int32) (b_p : Int32) (su : Nat → Int64) (po : Nat → Int64) (a0 : Nat) (a1 : Int32) : Nat → Int32 → r_k_X3_mayHold
  | 0, _ => (0)
  | n + 1, v3_2 => m_k_X3_mayHold_2s pp pu b_1 b_2 b_3 b_p su po a0 a1 (fun v3_2 => m_k_X3_mayHold_2 pp pu b_1 b_2 b_3 b_p su po a0 a1 n v3_2) v3_2
theorem m_k_X3_mayHold_2_succ (pp : pT) (pu : Int32) (b_1 : Int32) (b_2 : Int32) (b_3 : Int32) (b_p : Int32) (su : Nat → Int64) (po : Nat → Int64) (a0 : Nat) (a1 : Int32) (n : Nat) (v3_2 : Int32) : m_k_X3_mayHold_2 pp pu b_1 b_2 b_3 b_p su po a0 a1 (n + 1) v3_2 = m_k_X3_mayHold_2s pp pu b_1 b_2 b_3 b_p su po a0 a1 (m_k_X3_mayHold_2 pp pu b_1 b_2 b_3 b_p su po a0 a1 n) v3_2 := rfl
def m_k_X3_mayHold (pp : pT) (pu : Int32) (b_1 : Int32) (b_2 : Int32) (b_3 : Int32) (b_p : Int32) (su : Nat → Int64) (po : Nat → Int64) (a0 : Nat) (a1 : Int32) : r_k_X3_mayHold :=
  m_k_X3_mayHold_2 pp pu b_1 b_2 b_3 b_p su po a0 a1 wF 0
abbrev r_k_X3_takeInstance : Type := (Nat → Int64) × (Nat → Int64) × (Nat → Int32) × (Nat → Int32) × (Nat → Int32) × (Nat → Int32) × Int32 × Int32 × Int32 × Int32
def m_k_X3_takeInstance_98 (rec_55 : Int32 → (Nat → Int64) → (Nat → Int64) → Int32 → r_k_X3_takeInstance) (t_76 : r_k_X1_add) (v5_55 : Int32) (x11_f_55 : Nat → Int64) (x8_15_98 : Int32) : r_k_X3_takeInstance :=
  rec_55 (v5_55 + 1) x11_f_55 t_76.2 x8_15_98
def m_k_X3_takeInstance_98a (rec_55a : Int32 → (Nat → Int64) → (Nat → Int64) → Int32 → r_k_X3_takeInstance) (t_76 : r_k_X1_add) (v5_55a : Int32) (x13_f_55a : Nat → Int64) (x8_15_98a : Int32) : r_k_X3_takeInstance :=
  rec_55a (v5_55a + 1) t_76.2 x13_f_55a x8_15_98a
def m_k_X3_takeInstance_55s (kn : Int32) (kr : Nat → Int32) (kv : Nat → Int32) (kb : Nat → Int32) (t_10 : r_k_X3_listHeads) (rec_55 : Int32 → (Nat → Int64) → (Nat → Int64) → Int32 → r_k_X3_takeInstance) (v5_55 : Int32) (x11_f_55 : Nat → Int64) (x13_f_55 : Nat → Int64) (x8_15_55 : Int32) : r_k_X3_takeInstance :=
  if t_10.2.2.1 ≤ v5_55 then
    (x11_f_55, x13_f_55, t_10.2.1, kr, kv, kb, x8_15_55, t_10.2.2.1, kn, t_10.2.2.2)
  else
    lE (m_k_X3_headAtomAt t_10.2.1 v5_55) (fun t_67 =>
      lE (m_k_X1_add x13_f_55 t_67) (fun t_76 =>
        if t_76.1 = 0 then
          m_k_X3_takeInstance_98 rec_55 t_76 v5_55 x11_f_55 x8_15_55
        else
          m_k_X3_takeInstance_98 rec_55 t_76 v5_55 x11_f_55 (x8_15_55 ||| ((1 : Int32) <<< ((t_67 / 64) &&& 31)))))
def m_k_X3_takeInstance_55 (kn : Int32) (kr : Nat → Int32) (kv : Nat → Int32) (kb : Nat → Int32) (t_10 : r_k_X3_listHeads) : Nat → Int32 → (Nat → Int64) → (Nat → Int64) → Int32 → r_k_X3_takeInstance
  | 0, _, _, _, _ => ((fun _ => 0), (fun _ => 0), (fun _ => 0), (fun _ => 0), (fun _ => 0), (fun _ => 0), 0, 0, 0, 0)
  | n + 1, v5_55, x11_f_55, x13_f_55, x8_15_55 => m_k_X3_takeInstance_55s kn kr kv kb t_10 (fun v5_55 x11_f_55 x13_f_55 x8_15_55 => m_k_X3_takeInstance_55 kn kr kv kb t_10 n v5_55 x11_f_55 x13_f_55 x8_15_55) v5_55 x11_f_55 x13_f_55 x8_15_55
theorem m_k_X3_takeInstance_55_succ (kn : Int32) (kr : Nat → Int32) (kv : Nat → Int32) (kb : Nat → Int32) (t_10 : r_k_X3_listHeads) (n : Nat) (v5_55 : Int32) (x11_f_55 : Nat → Int64) (x13_f_55 : Nat → Int64) (x8_15_55 : Int32) : m_k_X3_takeInstance_55 kn kr kv kb t_10 (n + 1) v5_55 x11_f_55 x13_f_55 x8_15_55 = m_k_X3_takeInstance_55s kn kr kv kb t_10 (m_k_X3_takeInstance_55 kn kr kv kb t_10 n) v5_55 x11_f_55 x13_f_55 x8_15_55 := rfl
def m_k_X3_takeInstance_55as (kn : Int32) (kr : Nat → Int32) (kv : Nat → Int32) (kb : Nat → Int32) (t_10 : r_k_X3_listHeads) (rec_55a : Int32 → (Nat → Int64) → (Nat → Int64) → Int32 → r_k_X3_takeInstance) (v5_55a : Int32) (x11_f_55a : Nat → Int64) (x13_f_55a : Nat → Int64) (x8_15_55a : Int32) : r_k_X3_takeInstance :=
  if t_10.2.2.1 ≤ v5_55a then
    (x11_f_55a, x13_f_55a, t_10.2.1, kr, kv, kb, x8_15_55a, t_10.2.2.1, kn, t_10.2.2.2)
  else
    lE (m_k_X3_headAtomAt t_10.2.1 v5_55a) (fun t_67 =>
      lE (m_k_X1_add x11_f_55a t_67) (fun t_76 =>
        if t_76.1 = 0 then
          m_k_X3_takeInstance_98a rec_55a t_76 v5_55a x13_f_55a x8_15_55a
        else
          m_k_X3_takeInstance_98a rec_55a t_76 v5_55a x13_f_55a (x8_15_55a ||| ((1 : Int32) <<< ((t_67 / 64) &&& 31)))))
def m_k_X3_takeInstance_55a (kn : Int32) (kr : Nat → Int32) (kv : Nat → Int32) (kb : Nat → Int32) (t_10 : r_k_X3_listHeads) : Nat → Int32 → (Nat → Int64) → (Nat → Int64) → Int32 → r_k_X3_takeInstance
  | 0, _, _, _, _ => ((fun _ => 0), (fun _ => 0), (fun _ => 0), (fun _ => 0), (fun _ => 0), (fun _ => 0), 0, 0, 0, 0)
  | n + 1, v5_55a, x11_f_55a, x13_f_55a, x8_15_55a => m_k_X3_takeInstance_55as kn kr kv kb t_10 (fun v5_55a x11_f_55a x13_f_55a x8_15_55a => m_k_X3_takeInstance_55a kn kr kv kb t_10 n v5_55a x11_f_55a x13_f_55a x8_15_55a) v5_55a x11_f_55a x13_f_55a x8_15_55a
theorem m_k_X3_takeInstance_55a_succ (kn : Int32) (kr : Nat → Int32) (kv : Nat → Int32) (kb : Nat → Int32) (t_10 : r_k_X3_listHeads) (n : Nat) (v5_55a : Int32) (x11_f_55a : Nat → Int64) (x13_f_55a : Nat → Int64) (x8_15_55a : Int32) : m_k_X3_takeInstance_55a kn kr kv kb t_10 (n + 1) v5_55a x11_f_55a x13_f_55a x8_15_55a = m_k_X3_takeInstance_55as kn kr kv kb t_10 (m_k_X3_takeInstance_55a kn kr kv kb t_10 n) v5_55a x11_f_55a x13_f_55a x8_15_55a := rfl
def m_k_X3_takeInstance_50 (kn : Int32) (gw : Int32) (su : Nat → Int64) (po : Nat → Int64) (kr : Nat → Int32) (kv : Nat → Int32) (kb : Nat → Int32) (t_10 : r_k_X3_listHeads) : r_k_X3_takeInstance :=
  m_k_X3_takeInstance_55 kn kr kv kb t_10 wF 0 su po gw
def m_k_X3_takeInstance_50a (kn : Int32) (gw : Int32) (su : Nat → Int64) (po : Nat → Int64) (kr : Nat → Int32) (kv : Nat → Int32) (kb : Nat → Int32) (t_10 : r_k_X3_listHeads) : r_k_X3_takeInstance :=
  m_k_X3_takeInstance_55a kn kr kv kb t_10 wF 0 su po gw
def m_k_X3_takeInstance (pp : pT) (kn : Int32) (pu : Int32) (gw : Int32) (b_1 : Int32) (b_2 : Int32) (b_3 : Int32) (b_p : Int32) (su : Nat → Int64) (po : Nat → Int64) (hds : Nat → Int32) (kr : Nat → Int32) (kv : Nat → Int32) (kb : Nat → Int32) (a0 : Nat) (a1 : Int32) : r_k_X3_takeInstance :=
  lE (m_k_X2_packed b_1 b_2 b_3 b_p) (fun t_4 =>
    lE (m_k_X3_listHeads pp b_1 b_2 b_3 b_p su hds a0) (fun t_10 =>
      if t_10.1 = 0 then
        (su, po, t_10.2.1, kr, kv, kb, gw, t_10.2.2.1, kn, t_10.2.2.2)
      else
        if pu = 2 then
          lE (m_k_X3_keep kn kr kv kb a1 t_4) (fun t_28 =>
            (su, po, t_10.2.1, t_28.1, t_28.2.1, t_28.2.2.1, gw, t_10.2.2.1, t_28.2.2.2, t_10.2.2.2))
        else
          if pu = 0 then
            m_k_X3_takeInstance_50a kn gw su po kr kv kb t_10
          else
            m_k_X3_takeInstance_50 kn gw su po kr kv kb t_10))
abbrev r_k_X3_eachInstance : Type := (Nat → Int64) × (Nat → Int64) × (Nat → Int32) × (Nat → Int32) × (Nat → Int32) × (Nat → Int32) × Int32 × Int32 × Int32 × Int32 × Int32 × Int32 × Int32
def m_k_X3_eachInstance_152 (rec_47 : Int32 → (Nat → Int64) → (Nat → Int64) → (Nat → Int32) → (Nat → Int32) → (Nat → Int32) → (Nat → Int32) → Int32 → Int32 → Int32 → Int32 → Int32 → Int32 → r_k_X3_eachInstance) (v7_47 : Int32) (x11_f_152 : Nat → Int64) (x13_f_152 : Nat → Int64) (x14_f_152 : Nat → Int32) (x15_f_152 : Nat → Int32) (x16_f_152 : Nat → Int32) (x17_f_152 : Nat → Int32) (x8_15_152 : Int32) (x8_5_152 : Int32) (x8_9_152 : Int32) (x9_1_152 : Int32) (x9_2_152 : Int32) : r_k_X3_eachInstance :=
  rec_47 (v7_47 + 1) x11_f_152 x13_f_152 x14_f_152 x15_f_152 x16_f_152 x17_f_152 x8_15_152 x8_5_152 x8_9_152 v7_47 x9_1_152 x9_2_152
def m_k_X3_eachInstance_146 (rec_78 : Int32 → (Nat → Int64) → (Nat → Int64) → (Nat → Int32) → (Nat → Int32) → (Nat → Int32) → (Nat → Int32) → Int32 → Int32 → Int32 → Int32 → Int32 → r_k_X3_eachInstance) (v8_78 : Int32) (x11_f_146 : Nat → Int64) (x13_f_146 : Nat → Int64) (x14_f_146 : Nat → Int32) (x15_f_146 : Nat → Int32) (x16_f_146 : Nat → Int32) (x17_f_146 : Nat → Int32) (x8_15_146 : Int32) (x8_5_146 : Int32) (x8_9_146 : Int32) (x9_2_146 : Int32) : r_k_X3_eachInstance :=
  rec_78 (v8_78 + 1) x11_f_146 x13_f_146 x14_f_146 x15_f_146 x16_f_146 x17_f_146 x8_15_146 x8_5_146 x8_9_146 v8_78 x9_2_146
def m_k_X3_eachInstance_140 (rec_109 : Int32 → (Nat → Int64) → (Nat → Int64) → (Nat → Int32) → (Nat → Int32) → (Nat → Int32) → (Nat → Int32) → Int32 → Int32 → Int32 → Int32 → r_k_X3_eachInstance) (v9_109 : Int32) (x11_f_140 : Nat → Int64) (x13_f_140 : Nat → Int64) (x14_f_140 : Nat → Int32) (x15_f_140 : Nat → Int32) (x16_f_140 : Nat → Int32) (x17_f_140 : Nat → Int32) (x8_15_140 : Int32) (x8_5_140 : Int32) (x8_9_140 : Int32) (x9_2_140 : Int32) : r_k_X3_eachInstance :=
  rec_109 (v9_109 + 1) x11_f_140 x13_f_140 x14_f_140 x15_f_140 x16_f_140 x17_f_140 x8_15_140 x8_5_140 x8_9_140 x9_2_140
def m_k_X3_eachInstance_109s (pp : pT) (pu : Int32) (a0 : Nat) (a1 : Int32) (a2 : Int32) (rec_78 : Int32 → (Nat → Int64) → (Nat → Int64) → (Nat → Int32) → (Nat → Int32) → (Nat → Int32) → (Nat → Int32) → Int32 → Int32 → Int32 → Int32 → Int32 → r_k_X3_eachInstance) (t_39 : r_k_X8_valuesFor) (v7_47 : Int32) (v8_78 : Int32) (rec_109 : Int32 → (Nat → Int64) → (Nat → Int64) → (Nat → Int32) → (Nat → Int32) → (Nat → Int32) → (Nat → Int32) → Int32 → Int32 → Int32 → Int32 → r_k_X3_eachInstance) (v9_109 : Int32) (x11_f_109 : Nat → Int64) (x13_f_109 : Nat → Int64) (x14_f_109 : Nat → Int32) (x15_f_109 : Nat → Int32) (x16_f_109 : Nat → Int32) (x17_f_109 : Nat → Int32) (x8_15_109 : Int32) (x8_5_109 : Int32) (x8_9_109 : Int32) (x9_2_109 : Int32) : r_k_X3_eachInstance :=
  if t_39 ≤ v9_109 then
    m_k_X3_eachInstance_146 rec_78 v8_78 x11_f_109 x13_f_109 x14_f_109 x15_f_109 x16_f_109 x17_f_109 x8_15_109 x8_5_109 x8_9_109 x9_2_109
  else
    lE (m_k_X3_mayHold pp pu v7_47 v8_78 v9_109 a2 x11_f_109 x13_f_109 a0 3) (fun t_128 =>
      if t_128 = 0 then
        m_k_X3_eachInstance_140 rec_109 v9_109 x11_f_109 x13_f_109 x14_f_109 x15_f_109 x16_f_109 x17_f_109 x8_15_109 x8_5_109 x8_9_109 v9_109
      else
        lE (m_k_X3_takeInstance pp x8_9_109 pu x8_15_109 v7_47 v8_78 v9_109 a2 x11_f_109 x13_f_109 x14_f_109 x15_f_109 x16_f_109 x17_f_109 a0 a1) (fun t_137 =>
          m_k_X3_eachInstance_140 rec_109 v9_109 t_137.1 t_137.2.1 t_137.2.2.1 t_137.2.2.2.1 t_137.2.2.2.2.1 t_137.2.2.2.2.2.1 t_137.2.2.2.2.2.2.1 t_137.2.2.2.2.2.2.2.1 t_137.2.2.2.2.2.2.2.2.1 t_137.2.2.2.2.2.2.2.2.2))
def m_k_X3_eachInstance_109 (pp : pT) (pu : Int32) (a0 : Nat) (a1 : Int32) (a2 : Int32) (rec_78 : Int32 → (Nat → Int64) → (Nat → Int64) → (Nat → Int32) → (Nat → Int32) → (Nat → Int32) → (Nat → Int32) → Int32 → Int32 → Int32 → Int32 → Int32 → r_k_X3_eachInstance) (t_39 : r_k_X8_valuesFor) (v7_47 : Int32) (v8_78 : Int32) : Nat → Int32 → (Nat → Int64) → (Nat → Int64) → (Nat → Int32) → (Nat → Int32) → (Nat → Int32) → (Nat → Int32) → Int32 → Int32 → Int32 → Int32 → r_k_X3_eachInstance
  | 0, _, _, _, _, _, _, _, _, _, _, _ => ((fun _ => 0), (fun _ => 0), (fun _ => 0), (fun _ => 0), (fun _ => 0), (fun _ => 0), 0, 0, 0, 0, 0, 0, 0)
  | n + 1, v9_109, x11_f_109, x13_f_109, x14_f_109, x15_f_109, x16_f_109, x17_f_109, x8_15_109, x8_5_109, x8_9_109, x9_2_109 => m_k_X3_eachInstance_109s pp pu a0 a1 a2 rec_78 t_39 v7_47 v8_78 (fun v9_109 x11_f_109 x13_f_109 x14_f_109 x15_f_109 x16_f_109 x17_f_109 x8_15_109 x8_5_109 x8_9_109 x9_2_109 => m_k_X3_eachInstance_109 pp pu a0 a1 a2 rec_78 t_39 v7_47 v8_78 n v9_109 x11_f_109 x13_f_109 x14_f_109 x15_f_109 x16_f_109 x17_f_109 x8_15_109 x8_5_109 x8_9_109 x9_2_109) v9_109 x11_f_109 x13_f_109 x14_f_109 x15_f_109 x16_f_109 x17_f_109 x8_15_109 x8_5_109 x8_9_109 x9_2_109
theorem m_k_X3_eachInstance_109_succ (pp : pT) (pu : Int32) (a0 : Nat) (a1 : Int32) (a2 : Int32) (rec_78 : Int32 → (Nat → Int64) → (Nat → Int64) → (Nat → Int32) → (Nat → Int32) → (Nat → Int32) → (Nat → Int32) → Int32 → Int32 → Int32 → Int32 → Int32 → r_k_X3_eachInstance) (t_39 : r_k_X8_valuesFor) (v7_47 : Int32) (v8_78 : Int32) (n : Nat) (v9_109 : Int32) (x11_f_109 : Nat → Int64) (x13_f_109 : Nat → Int64) (x14_f_109 : Nat → Int32) (x15_f_109 : Nat → Int32) (x16_f_109 : Nat → Int32) (x17_f_109 : Nat → Int32) (x8_15_109 : Int32) (x8_5_109 : Int32) (x8_9_109 : Int32) (x9_2_109 : Int32) : m_k_X3_eachInstance_109 pp pu a0 a1 a2 rec_78 t_39 v7_47 v8_78 (n + 1) v9_109 x11_f_109 x13_f_109 x14_f_109 x15_f_109 x16_f_109 x17_f_109 x8_15_109 x8_5_109 x8_9_109 x9_2_109 = m_k_X3_eachInstance_109s pp pu a0 a1 a2 rec_78 t_39 v7_47 v8_78 (m_k_X3_eachInstance_109 pp pu a0 a1 a2 rec_78 t_39 v7_47 v8_78 n) v9_109 x11_f_109 x13_f_109 x14_f_109 x15_f_109 x16_f_109 x17_f_109 x8_15_109 x8_5_109 x8_9_109 x9_2_109 := rfl
def m_k_X3_eachInstance_78s (pp : pT) (pu : Int32) (a0 : Nat) (a1 : Int32) (a2 : Int32) (rec_47 : Int32 → (Nat → Int64) → (Nat → Int64) → (Nat → Int32) → (Nat → Int32) → (Nat → Int32) → (Nat → Int32) → Int32 → Int32 → Int32 → Int32 → Int32 → Int32 → r_k_X3_eachInstance) (t_32 : r_k_X8_valuesFor) (t_39 : r_k_X8_valuesFor) (v7_47 : Int32) (rec_78 : Int32 → (Nat → Int64) → (Nat → Int64) → (Nat → Int32) → (Nat → Int32) → (Nat → Int32) → (Nat → Int32) → Int32 → Int32 → Int32 → Int32 → Int32 → r_k_X3_eachInstance) (v8_78 : Int32) (x11_f_78 : Nat → Int64) (x13_f_78 : Nat → Int64) (x14_f_78 : Nat → Int32) (x15_f_78 : Nat → Int32) (x16_f_78 : Nat → Int32) (x17_f_78 : Nat → Int32) (x8_15_78 : Int32) (x8_5_78 : Int32) (x8_9_78 : Int32) (x9_1_78 : Int32) (x9_2_78 : Int32) : r_k_X3_eachInstance :=
  if t_32 ≤ v8_78 then
    m_k_X3_eachInstance_152 rec_47 v7_47 x11_f_78 x13_f_78 x14_f_78 x15_f_78 x16_f_78 x17_f_78 x8_15_78 x8_5_78 x8_9_78 x9_1_78 x9_2_78
  else
    lE (m_k_X3_mayHold pp pu v7_47 v8_78 x9_2_78 a2 x11_f_78 x13_f_78 a0 2) (fun t_97 =>
      if t_97 = 0 then
        m_k_X3_eachInstance_146 rec_78 v8_78 x11_f_78 x13_f_78 x14_f_78 x15_f_78 x16_f_78 x17_f_78 x8_15_78 x8_5_78 x8_9_78 x9_2_78
      else
        m_k_X3_eachInstance_109 pp pu a0 a1 a2 rec_78 t_39 v7_47 v8_78 wF 0 x11_f_78 x13_f_78 x14_f_78 x15_f_78 x16_f_78 x17_f_78 x8_15_78 x8_5_78 x8_9_78 x9_2_78)
def m_k_X3_eachInstance_78 (pp : pT) (pu : Int32) (a0 : Nat) (a1 : Int32) (a2 : Int32) (rec_47 : Int32 → (Nat → Int64) → (Nat → Int64) → (Nat → Int32) → (Nat → Int32) → (Nat → Int32) → (Nat → Int32) → Int32 → Int32 → Int32 → Int32 → Int32 → Int32 → r_k_X3_eachInstance) (t_32 : r_k_X8_valuesFor) (t_39 : r_k_X8_valuesFor) (v7_47 : Int32) : Nat → Int32 → (Nat → Int64) → (Nat → Int64) → (Nat → Int32) → (Nat → Int32) → (Nat → Int32) → (Nat → Int32) → Int32 → Int32 → Int32 → Int32 → Int32 → r_k_X3_eachInstance
  | 0, _, _, _, _, _, _, _, _, _, _, _, _ => ((fun _ => 0), (fun _ => 0), (fun _ => 0), (fun _ => 0), (fun _ => 0), (fun _ => 0), 0, 0, 0, 0, 0, 0, 0)
  | n + 1, v8_78, x11_f_78, x13_f_78, x14_f_78, x15_f_78, x16_f_78, x17_f_78, x8_15_78, x8_5_78, x8_9_78, x9_1_78, x9_2_78 => m_k_X3_eachInstance_78s pp pu a0 a1 a2 rec_47 t_32 t_39 v7_47 (fun v8_78 x11_f_78 x13_f_78 x14_f_78 x15_f_78 x16_f_78 x17_f_78 x8_15_78 x8_5_78 x8_9_78 x9_1_78 x9_2_78 => m_k_X3_eachInstance_78 pp pu a0 a1 a2 rec_47 t_32 t_39 v7_47 n v8_78 x11_f_78 x13_f_78 x14_f_78 x15_f_78 x16_f_78 x17_f_78 x8_15_78 x8_5_78 x8_9_78 x9_1_78 x9_2_78) v8_78 x11_f_78 x13_f_78 x14_f_78 x15_f_78 x16_f_78 x17_f_78 x8_15_78 x8_5_78 x8_9_78 x9_1_78 x9_2_78
theorem m_k_X3_eachInstance_78_succ (pp : pT) (pu : Int32) (a0 : Nat) (a1 : Int32) (a2 : Int32) (rec_47 : Int32 → (Nat → Int64) → (Nat → Int64) → (Nat → Int32) → (Nat → Int32) → (Nat → Int32) → (Nat → Int32) → Int32 → Int32 → Int32 → Int32 → Int32 → Int32 → r_k_X3_eachInstance) (t_32 : r_k_X8_valuesFor) (t_39 : r_k_X8_valuesFor) (v7_47 : Int32) (n : Nat) (v8_78 : Int32) (x11_f_78 : Nat → Int64) (x13_f_78 : Nat → Int64) (x14_f_78 : Nat → Int32) (x15_f_78 : Nat → Int32) (x16_f_78 : Nat → Int32) (x17_f_78 : Nat → Int32) (x8_15_78 : Int32) (x8_5_78 : Int32) (x8_9_78 : Int32) (x9_1_78 : Int32) (x9_2_78 : Int32) : m_k_X3_eachInstance_78 pp pu a0 a1 a2 rec_47 t_32 t_39 v7_47 (n + 1) v8_78 x11_f_78 x13_f_78 x14_f_78 x15_f_78 x16_f_78 x17_f_78 x8_15_78 x8_5_78 x8_9_78 x9_1_78 x9_2_78 = m_k_X3_eachInstance_78s pp pu a0 a1 a2 rec_47 t_32 t_39 v7_47 (m_k_X3_eachInstance_78 pp pu a0 a1 a2 rec_47 t_32 t_39 v7_47 n) v8_78 x11_f_78 x13_f_78 x14_f_78 x15_f_78 x16_f_78 x17_f_78 x8_15_78 x8_5_78 x8_9_78 x9_1_78 x9_2_78 := rfl
def m_k_X3_eachInstance_47s (pp : pT) (pu : Int32) (a0 : Nat) (a1 : Int32) (a2 : Int32) (t_25 : r_k_X8_valuesFor) (t_32 : r_k_X8_valuesFor) (t_39 : r_k_X8_valuesFor) (rec_47 : Int32 → (Nat → Int64) → (Nat → Int64) → (Nat → Int32) → (Nat → Int32) → (Nat → Int32) → (Nat → Int32) → Int32 → Int32 → Int32 → Int32 → Int32 → Int32 → r_k_X3_eachInstance) (v7_47 : Int32) (x11_f_47 : Nat → Int64) (x13_f_47 : Nat → Int64) (x14_f_47 : Nat → Int32) (x15_f_47 : Nat → Int32) (x16_f_47 : Nat → Int32) (x17_f_47 : Nat → Int32) (x8_15_47 : Int32) (x8_5_47 : Int32) (x8_9_47 : Int32) (x9_0_47 : Int32) (x9_1_47 : Int32) (x9_2_47 : Int32) : r_k_X3_eachInstance :=
  if t_25 ≤ v7_47 then
    (x11_f_47, x13_f_47, x14_f_47, x15_f_47, x16_f_47, x17_f_47, x8_15_47, x8_5_47, x8_9_47, x9_0_47, x9_1_47, x9_2_47, a2)
  else
    lE (m_k_X3_mayHold pp pu v7_47 x9_1_47 x9_2_47 a2 x11_f_47 x13_f_47 a0 1) (fun t_66 =>
      if t_66 = 0 then
        m_k_X3_eachInstance_152 rec_47 v7_47 x11_f_47 x13_f_47 x14_f_47 x15_f_47 x16_f_47 x17_f_47 x8_15_47 x8_5_47 x8_9_47 x9_1_47 x9_2_47
      else
        m_k_X3_eachInstance_78 pp pu a0 a1 a2 rec_47 t_32 t_39 v7_47 wF 0 x11_f_47 x13_f_47 x14_f_47 x15_f_47 x16_f_47 x17_f_47 x8_15_47 x8_5_47 x8_9_47 x9_1_47 x9_2_47)
def m_k_X3_eachInstance_47 (pp : pT) (pu : Int32) (a0 : Nat) (a1 : Int32) (a2 : Int32) (t_25 : r_k_X8_valuesFor) (t_32 : r_k_X8_valuesFor) (t_39 : r_k_X8_valuesFor) : Nat → Int32 → (Nat → Int64) → (Nat → Int64) → (Nat → Int32) → (Nat → Int32) → (Nat → Int32) → (Nat → Int32) → Int32 → Int32 → Int32 → Int32 → Int32 → Int32 → r_k_X3_eachInstance
  | 0, _, _, _, _, _, _, _, _, _, _, _, _, _ => ((fun _ => 0), (fun _ => 0), (fun _ => 0), (fun _ => 0), (fun _ => 0), (fun _ => 0), 0, 0, 0, 0, 0, 0, 0)
  | n + 1, v7_47, x11_f_47, x13_f_47, x14_f_47, x15_f_47, x16_f_47, x17_f_47, x8_15_47, x8_5_47, x8_9_47, x9_0_47, x9_1_47, x9_2_47 => m_k_X3_eachInstance_47s pp pu a0 a1 a2 t_25 t_32 t_39 (fun v7_47 x11_f_47 x13_f_47 x14_f_47 x15_f_47 x16_f_47 x17_f_47 x8_15_47 x8_5_47 x8_9_47 x9_0_47 x9_1_47 x9_2_47 => m_k_X3_eachInstance_47 pp pu a0 a1 a2 t_25 t_32 t_39 n v7_47 x11_f_47 x13_f_47 x14_f_47 x15_f_47 x16_f_47 x17_f_47 x8_15_47 x8_5_47 x8_9_47 x9_0_47 x9_1_47 x9_2_47) v7_47 x11_f_47 x13_f_47 x14_f_47 x15_f_47 x16_f_47 x17_f_47 x8_15_47 x8_5_47 x8_9_47 x9_0_47 x9_1_47 x9_2_47
theorem m_k_X3_eachInstance_47_succ (pp : pT) (pu : Int32) (a0 : Nat) (a1 : Int32) (a2 : Int32) (t_25 : r_k_X8_valuesFor) (t_32 : r_k_X8_valuesFor) (t_39 : r_k_X8_valuesFor) (n : Nat) (v7_47 : Int32) (x11_f_47 : Nat → Int64) (x13_f_47 : Nat → Int64) (x14_f_47 : Nat → Int32) (x15_f_47 : Nat → Int32) (x16_f_47 : Nat → Int32) (x17_f_47 : Nat → Int32) (x8_15_47 : Int32) (x8_5_47 : Int32) (x8_9_47 : Int32) (x9_0_47 : Int32) (x9_1_47 : Int32) (x9_2_47 : Int32) : m_k_X3_eachInstance_47 pp pu a0 a1 a2 t_25 t_32 t_39 (n + 1) v7_47 x11_f_47 x13_f_47 x14_f_47 x15_f_47 x16_f_47 x17_f_47 x8_15_47 x8_5_47 x8_9_47 x9_0_47 x9_1_47 x9_2_47 = m_k_X3_eachInstance_47s pp pu a0 a1 a2 t_25 t_32 t_39 (m_k_X3_eachInstance_47 pp pu a0 a1 a2 t_25 t_32 t_39 n) v7_47 x11_f_47 x13_f_47 x14_f_47 x15_f_47 x16_f_47 x17_f_47 x8_15_47 x8_5_47 x8_9_47 x9_0_47 x9_1_47 x9_2_47 := rfl
def m_k_X3_eachInstance (pp : pT) (hn : Int32) (kn : Int32) (pu : Int32) (gw : Int32) (b_1 : Int32) (b_2 : Int32) (b_3 : Int32) (su : Nat → Int64) (po : Nat → Int64) (hds : Nat → Int32) (kr : Nat → Int32) (kv : Nat → Int32) (kb : Nat → Int32) (a0 : Nat) (a1 : Int32) (a2 : Int32) : r_k_X3_eachInstance :=
  if a2 = (-1) then
    (su, po, hds, kr, kv, kb, gw, hn, kn, b_1, b_2, b_3, a2)
  else
    lE (m_k_X3_mayHold pp pu b_1 b_2 b_3 a2 su po a0 0) (fun t_16 =>
      if t_16 = 0 then
        (su, po, hds, kr, kv, kb, gw, hn, kn, b_1, b_2, b_3, a2)
      else
        lE (m_k_X8_valuesFor pp a0 1) (fun t_25 =>
          lE (m_k_X8_valuesFor pp a0 2) (fun t_32 =>
            lE (m_k_X8_valuesFor pp a0 3) (fun t_39 =>
              m_k_X3_eachInstance_47 pp pu a0 a1 a2 t_25 t_32 t_39 wF 0 su po hds kr kv kb gw hn kn b_1 b_2 b_3))))
abbrev r_k_X3_keepInstances : Type := (Nat → Int64) × (Nat → Int64) × (Nat → Int32) × (Nat → Int32) × (Nat → Int32) × (Nat → Int32) × Int32 × Int32 × Int32 × Int32 × Int32 × Int32 × Int32
def m_k_X3_keepInstances_70 (rec_7 : Int32 → (Nat → Int64) → (Nat → Int64) → (Nat → Int32) → (Nat → Int32) → (Nat → Int32) → (Nat → Int32) → Int32 → Int32 → Int32 → Int32 → Int32 → Int32 → Int32 → r_k_X3_keepInstances) (v1_7 : Int32) (x11_f_70 : Nat → Int64) (x13_f_70 : Nat → Int64) (x14_f_70 : Nat → Int32) (x15_f_70 : Nat → Int32) (x16_f_70 : Nat → Int32) (x17_f_70 : Nat → Int32) (x8_15_70 : Int32) (x8_5_70 : Int32) (x8_9_70 : Int32) (x9_0_70 : Int32) (x9_1_70 : Int32) (x9_2_70 : Int32) (x9_3_70 : Int32) : r_k_X3_keepInstances :=
  rec_7 (v1_7 + 1) x11_f_70 x13_f_70 x14_f_70 x15_f_70 x16_f_70 x17_f_70 x8_15_70 x8_5_70 x8_9_70 x9_0_70 x9_1_70 x9_2_70 x9_3_70
def m_k_X3_keepInstances_31s (rec_7 : Int32 → (Nat → Int64) → (Nat → Int64) → (Nat → Int32) → (Nat → Int32) → (Nat → Int32) → (Nat → Int32) → Int32 → Int32 → Int32 → Int32 → Int32 → Int32 → Int32 → r_k_X3_keepInstances) (v1_7 : Int32) (rec_31 : Int32 → (Nat → Int64) → (Nat → Int64) → (Nat → Int32) → (Nat → Int32) → (Nat → Int32) → (Nat → Int32) → Int32 → Int32 → Int32 → Int32 → Int32 → Int32 → Int32 → r_k_X3_keepInstances) (v3_31 : Int32) (x11_f_31 : Nat → Int64) (x13_f_31 : Nat → Int64) (x14_f_31 : Nat → Int32) (x15_f_31 : Nat → Int32) (x16_f_31 : Nat → Int32) (x17_f_31 : Nat → Int32) (x8_15_31 : Int32) (x8_5_31 : Int32) (x8_9_31 : Int32) (x9_0_31 : Int32) (x9_1_31 : Int32) (x9_2_31 : Int32) (x9_3_31 : Int32) : r_k_X3_keepInstances :=
  m_k_X3_keepInstances_70 rec_7 v1_7 x11_f_31 x13_f_31 x14_f_31 x15_f_31 x16_f_31 x17_f_31 x8_15_31 x8_5_31 x8_9_31 x9_0_31 x9_1_31 x9_2_31 x9_3_31
def m_k_X3_keepInstances_31 (rec_7 : Int32 → (Nat → Int64) → (Nat → Int64) → (Nat → Int32) → (Nat → Int32) → (Nat → Int32) → (Nat → Int32) → Int32 → Int32 → Int32 → Int32 → Int32 → Int32 → Int32 → r_k_X3_keepInstances) (v1_7 : Int32) : Nat → Int32 → (Nat → Int64) → (Nat → Int64) → (Nat → Int32) → (Nat → Int32) → (Nat → Int32) → (Nat → Int32) → Int32 → Int32 → Int32 → Int32 → Int32 → Int32 → Int32 → r_k_X3_keepInstances
  | 0, _, _, _, _, _, _, _, _, _, _, _, _, _, _ => ((fun _ => 0), (fun _ => 0), (fun _ => 0), (fun _ => 0), (fun _ => 0), (fun _ => 0), 0, 0, 0, 0, 0, 0, 0)
  | n + 1, v3_31, x11_f_31, x13_f_31, x14_f_31, x15_f_31, x16_f_31, x17_f_31, x8_15_31, x8_5_31, x8_9_31, x9_0_31, x9_1_31, x9_2_31, x9_3_31 => m_k_X3_keepInstances_31s rec_7 v1_7 (fun v3_31 x11_f_31 x13_f_31 x14_f_31 x15_f_31 x16_f_31 x17_f_31 x8_15_31 x8_5_31 x8_9_31 x9_0_31 x9_1_31 x9_2_31 x9_3_31 => m_k_X3_keepInstances_31 rec_7 v1_7 n v3_31 x11_f_31 x13_f_31 x14_f_31 x15_f_31 x16_f_31 x17_f_31 x8_15_31 x8_5_31 x8_9_31 x9_0_31 x9_1_31 x9_2_31 x9_3_31) v3_31 x11_f_31 x13_f_31 x14_f_31 x15_f_31 x16_f_31 x17_f_31 x8_15_31 x8_5_31 x8_9_31 x9_0_31 x9_1_31 x9_2_31 x9_3_31
theorem m_k_X3_keepInstances_31_succ (rec_7 : Int32 → (Nat → Int64) → (Nat → Int64) → (Nat → Int32) → (Nat → Int32) → (Nat → Int32) → (Nat → Int32) → Int32 → Int32 → Int32 → Int32 → Int32 → Int32 → Int32 → r_k_X3_keepInstances) (v1_7 : Int32) (n : Nat) (v3_31 : Int32) (x11_f_31 : Nat → Int64) (x13_f_31 : Nat → Int64) (x14_f_31 : Nat → Int32) (x15_f_31 : Nat → Int32) (x16_f_31 : Nat → Int32) (x17_f_31 : Nat → Int32) (x8_15_31 : Int32) (x8_5_31 : Int32) (x8_9_31 : Int32) (x9_0_31 : Int32) (x9_1_31 : Int32) (x9_2_31 : Int32) (x9_3_31 : Int32) : m_k_X3_keepInstances_31 rec_7 v1_7 (n + 1) v3_31 x11_f_31 x13_f_31 x14_f_31 x15_f_31 x16_f_31 x17_f_31 x8_15_31 x8_5_31 x8_9_31 x9_0_31 x9_1_31 x9_2_31 x9_3_31 = m_k_X3_keepInstances_31s rec_7 v1_7 (m_k_X3_keepInstances_31 rec_7 v1_7 n) v3_31 x11_f_31 x13_f_31 x14_f_31 x15_f_31 x16_f_31 x17_f_31 x8_15_31 x8_5_31 x8_9_31 x9_0_31 x9_1_31 x9_2_31 x9_3_31 := rfl
def m_k_X3_keepInstances_31as (pp : pT) (tn : Int32) (tp : Nat → Int32) (tq : Nat → Int32) (pu : Int32) (o_25 : Nat) (rec_7 : Int32 → (Nat → Int64) → (Nat → Int64) → (Nat → Int32) → (Nat → Int32) → (Nat → Int32) → (Nat → Int32) → Int32 → Int32 → Int32 → Int32 → Int32 → Int32 → Int32 → r_k_X3_keepInstances) (v1_7 : Int32) (rec_31a : Int32 → (Nat → Int64) → (Nat → Int64) → (Nat → Int32) → (Nat → Int32) → (Nat → Int32) → (Nat → Int32) → Int32 → Int32 → Int32 → Int32 → Int32 → Int32 → Int32 → r_k_X3_keepInstances) (v3_31a : Int32) (x11_f_31a : Nat → Int64) (x13_f_31a : Nat → Int64) (x14_f_31a : Nat → Int32) (x15_f_31a : Nat → Int32) (x16_f_31a : Nat → Int32) (x17_f_31a : Nat → Int32) (x8_15_31a : Int32) (x8_5_31a : Int32) (x8_9_31a : Int32) (x9_0_31a : Int32) (x9_1_31a : Int32) (x9_2_31a : Int32) (x9_3_31a : Int32) : r_k_X3_keepInstances :=
  if tn ≤ v3_31a then
    m_k_X3_keepInstances_70 rec_7 v1_7 x11_f_31a x13_f_31a x14_f_31a x15_f_31a x16_f_31a x17_f_31a x8_15_31a x8_5_31a x8_9_31a x9_0_31a x9_1_31a x9_2_31a x9_3_31a
  else
    lE (m_k_X6_parameterAt tp tq v3_31a (pI pp o_25 1)) (fun t_58 =>
      lE (m_k_X3_eachInstance pp x8_5_31a x8_9_31a pu x8_15_31a x9_0_31a x9_1_31a x9_2_31a x11_f_31a x13_f_31a x14_f_31a x15_f_31a x16_f_31a x17_f_31a o_25 v1_7 t_58) (fun t_61 =>
        rec_31a (v3_31a + 1) t_61.1 t_61.2.1 t_61.2.2.1 t_61.2.2.2.1 t_61.2.2.2.2.1 t_61.2.2.2.2.2.1 t_61.2.2.2.2.2.2.1 t_61.2.2.2.2.2.2.2.1 t_61.2.2.2.2.2.2.2.2.1 t_61.2.2.2.2.2.2.2.2.2.1 t_61.2.2.2.2.2.2.2.2.2.2.1 t_61.2.2.2.2.2.2.2.2.2.2.2.1 t_61.2.2.2.2.2.2.2.2.2.2.2.2))
def m_k_X3_keepInstances_31a (pp : pT) (tn : Int32) (tp : Nat → Int32) (tq : Nat → Int32) (pu : Int32) (o_25 : Nat) (rec_7 : Int32 → (Nat → Int64) → (Nat → Int64) → (Nat → Int32) → (Nat → Int32) → (Nat → Int32) → (Nat → Int32) → Int32 → Int32 → Int32 → Int32 → Int32 → Int32 → Int32 → r_k_X3_keepInstances) (v1_7 : Int32) : Nat → Int32 → (Nat → Int64) → (Nat → Int64) → (Nat → Int32) → (Nat → Int32) → (Nat → Int32) → (Nat → Int32) → Int32 → Int32 → Int32 → Int32 → Int32 → Int32 → Int32 → r_k_X3_keepInstances
  | 0, _, _, _, _, _, _, _, _, _, _, _, _, _, _ => ((fun _ => 0), (fun _ => 0), (fun _ => 0), (fun _ => 0), (fun _ => 0), (fun _ => 0), 0, 0, 0, 0, 0, 0, 0)
  | n + 1, v3_31a, x11_f_31a, x13_f_31a, x14_f_31a, x15_f_31a, x16_f_31a, x17_f_31a, x8_15_31a, x8_5_31a, x8_9_31a, x9_0_31a, x9_1_31a, x9_2_31a, x9_3_31a => m_k_X3_keepInstances_31as pp tn tp tq pu o_25 rec_7 v1_7 (fun v3_31a x11_f_31a x13_f_31a x14_f_31a x15_f_31a x16_f_31a x17_f_31a x8_15_31a x8_5_31a x8_9_31a x9_0_31a x9_1_31a x9_2_31a x9_3_31a => m_k_X3_keepInstances_31a pp tn tp tq pu o_25 rec_7 v1_7 n v3_31a x11_f_31a x13_f_31a x14_f_31a x15_f_31a x16_f_31a x17_f_31a x8_15_31a x8_5_31a x8_9_31a x9_0_31a x9_1_31a x9_2_31a x9_3_31a) v3_31a x11_f_31a x13_f_31a x14_f_31a x15_f_31a x16_f_31a x17_f_31a x8_15_31a x8_5_31a x8_9_31a x9_0_31a x9_1_31a x9_2_31a x9_3_31a
theorem m_k_X3_keepInstances_31a_succ (pp : pT) (tn : Int32) (tp : Nat → Int32) (tq : Nat → Int32) (pu : Int32) (o_25 : Nat) (rec_7 : Int32 → (Nat → Int64) → (Nat → Int64) → (Nat → Int32) → (Nat → Int32) → (Nat → Int32) → (Nat → Int32) → Int32 → Int32 → Int32 → Int32 → Int32 → Int32 → Int32 → r_k_X3_keepInstances) (v1_7 : Int32) (n : Nat) (v3_31a : Int32) (x11_f_31a : Nat → Int64) (x13_f_31a : Nat → Int64) (x14_f_31a : Nat → Int32) (x15_f_31a : Nat → Int32) (x16_f_31a : Nat → Int32) (x17_f_31a : Nat → Int32) (x8_15_31a : Int32) (x8_5_31a : Int32) (x8_9_31a : Int32) (x9_0_31a : Int32) (x9_1_31a : Int32) (x9_2_31a : Int32) (x9_3_31a : Int32) : m_k_X3_keepInstances_31a pp tn tp tq pu o_25 rec_7 v1_7 (n + 1) v3_31a x11_f_31a x13_f_31a x14_f_31a x15_f_31a x16_f_31a x17_f_31a x8_15_31a x8_5_31a x8_9_31a x9_0_31a x9_1_31a x9_2_31a x9_3_31a = m_k_X3_keepInstances_31as pp tn tp tq pu o_25 rec_7 v1_7 (m_k_X3_keepInstances_31a pp tn tp tq pu o_25 rec_7 v1_7 n) v3_31a x11_f_31a x13_f_31a x14_f_31a x15_f_31a x16_f_31a x17_f_31a x8_15_31a x8_5_31a x8_9_31a x9_0_31a x9_1_31a x9_2_31a x9_3_31a := rfl
def m_k_X3_keepInstances_7s (pp : pT) (rn : Int32) (tn : Int32) (rf : Nat → Option Nat) (tp : Nat → Int32) (tq : Nat → Int32) (pu : Int32) (rec_7 : Int32 → (Nat → Int64) → (Nat → Int64) → (Nat → Int32) → (Nat → Int32) → (Nat → Int32) → (Nat → Int32) → Int32 → Int32 → Int32 → Int32 → Int32 → Int32 → Int32 → r_k_X3_keepInstances) (v1_7 : Int32) (x11_f_7 : Nat → Int64) (x13_f_7 : Nat → Int64) (x14_f_7 : Nat → Int32) (x15_f_7 : Nat → Int32) (x16_f_7 : Nat → Int32) (x17_f_7 : Nat → Int32) (x8_15_7 : Int32) (x8_5_7 : Int32) (x8_9_7 : Int32) (x9_0_7 : Int32) (x9_1_7 : Int32) (x9_2_7 : Int32) (x9_3_7 : Int32) : r_k_X3_keepInstances :=
  if 20 ≤ v1_7 then
    (x11_f_7, x13_f_7, x14_f_7, x15_f_7, x16_f_7, x17_f_7, x8_15_7, x8_5_7, x8_9_7, x9_0_7, x9_1_7, x9_2_7, x9_3_7)
  else
    lE (m_k_X6_ruleAt rn rf v1_7) (fun t_25 =>
      oE (t_25) (
        m_k_X3_keepInstances_31 rec_7 v1_7 wF 0 x11_f_7 x13_f_7 x14_f_7 x15_f_7 x16_f_7 (upd x17_f_7 v1_7.toNatClampNeg 0) x8_15_7 x8_5_7 x8_9_7 x9_0_7 x9_1_7 x9_2_7 x9_3_7) (fun o_25 =>
        m_k_X3_keepInstances_31a pp tn tp tq pu o_25 rec_7 v1_7 wF 0 x11_f_7 x13_f_7 x14_f_7 x15_f_7 x16_f_7 (upd x17_f_7 v1_7.toNatClampNeg 0) x8_15_7 x8_5_7 x8_9_7 x9_0_7 x9_1_7 x9_2_7 x9_3_7))
def m_k_X3_keepInstances_7 (pp : pT) (rn : Int32) (tn : Int32) (rf : Nat → Option Nat) (tp : Nat → Int32) (tq : Nat → Int32) (pu : Int32) : Nat → Int32 → (Nat → Int64) → (Nat → Int64) → (Nat → Int32) → (Nat → Int32) → (Nat → Int32) → (Nat → Int32) → Int32 → Int32 → Int32 → Int32 → Int32 → Int32 → Int32 → r_k_X3_keepInstances
  | 0, _, _, _, _, _, _, _, _, _, _, _, _, _, _ => ((fun _ => 0), (fun _ => 0), (fun _ => 0), (fun _ => 0), (fun _ => 0), (fun _ => 0), 0, 0, 0, 0, 0, 0, 0)
  | n + 1, v1_7, x11_f_7, x13_f_7, x14_f_7, x15_f_7, x16_f_7, x17_f_7, x8_15_7, x8_5_7, x8_9_7, x9_0_7, x9_1_7, x9_2_7, x9_3_7 => m_k_X3_keepInstances_7s pp rn tn rf tp tq pu (fun v1_7 x11_f_7 x13_f_7 x14_f_7 x15_f_7 x16_f_7 x17_f_7 x8_15_7 x8_5_7 x8_9_7 x9_0_7 x9_1_7 x9_2_7 x9_3_7 => m_k_X3_keepInstances_7 pp rn tn rf tp tq pu n v1_7 x11_f_7 x13_f_7 x14_f_7 x15_f_7 x16_f_7 x17_f_7 x8_15_7 x8_5_7 x8_9_7 x9_0_7 x9_1_7 x9_2_7 x9_3_7) v1_7 x11_f_7 x13_f_7 x14_f_7 x15_f_7 x16_f_7 x17_f_7 x8_15_7 x8_5_7 x8_9_7 x9_0_7 x9_1_7 x9_2_7 x9_3_7
theorem m_k_X3_keepInstances_7_succ (pp : pT) (rn : Int32) (tn : Int32) (rf : Nat → Option Nat) (tp : Nat → Int32) (tq : Nat → Int32) (pu : Int32) (n : Nat) (v1_7 : Int32) (x11_f_7 : Nat → Int64) (x13_f_7 : Nat → Int64) (x14_f_7 : Nat → Int32) (x15_f_7 : Nat → Int32) (x16_f_7 : Nat → Int32) (x17_f_7 : Nat → Int32) (x8_15_7 : Int32) (x8_5_7 : Int32) (x8_9_7 : Int32) (x9_0_7 : Int32) (x9_1_7 : Int32) (x9_2_7 : Int32) (x9_3_7 : Int32) : m_k_X3_keepInstances_7 pp rn tn rf tp tq pu (n + 1) v1_7 x11_f_7 x13_f_7 x14_f_7 x15_f_7 x16_f_7 x17_f_7 x8_15_7 x8_5_7 x8_9_7 x9_0_7 x9_1_7 x9_2_7 x9_3_7 = m_k_X3_keepInstances_7s pp rn tn rf tp tq pu (m_k_X3_keepInstances_7 pp rn tn rf tp tq pu n) v1_7 x11_f_7 x13_f_7 x14_f_7 x15_f_7 x16_f_7 x17_f_7 x8_15_7 x8_5_7 x8_9_7 x9_0_7 x9_1_7 x9_2_7 x9_3_7 := rfl
def m_k_X3_keepInstances (pp : pT) (rn : Int32) (tn : Int32) (rf : Nat → Option Nat) (tp : Nat → Int32) (tq : Nat → Int32) (hn : Int32) (pu : Int32) (gw : Int32) (b_1 : Int32) (b_2 : Int32) (b_3 : Int32) (b_p : Int32) (su : Nat → Int64) (po : Nat → Int64) (hds : Nat → Int32) (kr : Nat → Int32) (kv : Nat → Int32) (kb : Nat → Int32) : r_k_X3_keepInstances :=
  m_k_X3_keepInstances_7 pp rn tn rf tp tq pu wF 0 su po hds kr kv kb gw hn 0 b_1 b_2 b_3 b_p
abbrev r_k_X3_rulesNeeding : Type := Int32
def m_k_X3_rulesNeeding_79 (rec_4 : Int32 → Int32 → r_k_X3_rulesNeeding) (v3_4 : Int32) (v2_79 : Int32) : r_k_X3_rulesNeeding :=
  rec_4 v2_79 (v3_4 + 1)
def m_k_X3_rulesNeeding_73 (rec_4 : Int32 → Int32 → r_k_X3_rulesNeeding) (v2_4 : Int32) (v3_4 : Int32) : r_k_X3_rulesNeeding :=
  m_k_X3_rulesNeeding_79 rec_4 v3_4 (v2_4 ||| ((1 : Int32) <<< (v3_4 &&& 31)))
def m_k_X3_rulesNeeding_58 (pp : pT) (a1 : Int32) (o_20 : Nat) (rec_4 : Int32 → Int32 → r_k_X3_rulesNeeding) (v2_4 : Int32) (v3_4 : Int32) : r_k_X3_rulesNeeding :=
  if a1 = (-1) then
    m_k_X3_rulesNeeding_73 rec_4 v2_4 v3_4
  else
    lE (m_k_X8_neededPredicates pp o_20) (fun t_65 =>
      if (t_65 &&& a1) = 0 then
        m_k_X3_rulesNeeding_79 rec_4 v3_4 v2_4
      else
        m_k_X3_rulesNeeding_73 rec_4 v2_4 v3_4)
def m_k_X3_rulesNeeding_4s (pp : pT) (rn : Int32) (rf : Nat → Option Nat) (pu : Int32) (a1 : Int32) (rec_4 : Int32 → Int32 → r_k_X3_rulesNeeding) (v2_4 : Int32) (v3_4 : Int32) : r_k_X3_rulesNeeding :=
  if rn ≤ v3_4 then
    v2_4
  else
    lE (m_k_X6_ruleAt rn rf v3_4) (fun t_20 =>
      oE (t_20) (
        m_k_X3_rulesNeeding_79 rec_4 v3_4 v2_4) (fun o_20 =>
        if (pI pp o_20 0) = 119 then
          m_k_X3_rulesNeeding_79 rec_4 v3_4 v2_4
        else
          if pu = 0 then
            lE (m_k_X8_isDefinite pp o_20) (fun t_49 =>
              if t_49 = 0 then
                m_k_X3_rulesNeeding_79 rec_4 v3_4 v2_4
              else
                m_k_X3_rulesNeeding_58 pp a1 o_20 rec_4 v2_4 v3_4)
          else
            m_k_X3_rulesNeeding_58 pp a1 o_20 rec_4 v2_4 v3_4))
def m_k_X3_rulesNeeding_4 (pp : pT) (rn : Int32) (rf : Nat → Option Nat) (pu : Int32) (a1 : Int32) : Nat → Int32 → Int32 → r_k_X3_rulesNeeding
  | 0, _, _ => (0)
  | n + 1, v2_4, v3_4 => m_k_X3_rulesNeeding_4s pp rn rf pu a1 (fun v2_4 v3_4 => m_k_X3_rulesNeeding_4 pp rn rf pu a1 n v2_4 v3_4) v2_4 v3_4
theorem m_k_X3_rulesNeeding_4_succ (pp : pT) (rn : Int32) (rf : Nat → Option Nat) (pu : Int32) (a1 : Int32) (n : Nat) (v2_4 : Int32) (v3_4 : Int32) : m_k_X3_rulesNeeding_4 pp rn rf pu a1 (n + 1) v2_4 v3_4 = m_k_X3_rulesNeeding_4s pp rn rf pu a1 (m_k_X3_rulesNeeding_4 pp rn rf pu a1 n) v2_4 v3_4 := rfl
def m_k_X3_rulesNeeding (pp : pT) (rn : Int32) (rf : Nat → Option Nat) (pu : Int32) (a1 : Int32) : r_k_X3_rulesNeeding :=
  m_k_X3_rulesNeeding_4 pp rn rf pu a1 wF 0 0
abbrev r_k_X3_spread : Type := (Nat → Int64) × (Nat → Int64) × (Nat → Int32) × (Nat → Int32) × (Nat → Int32) × (Nat → Int32) × Int32 × Int32 × Int32 × Int32 × Int32 × Int32 × Int32
def m_k_X3_spread_135 (rec_21 : Int32 → Int32 → (Nat → Int64) → (Nat → Int64) → (Nat → Int32) → (Nat → Int32) → (Nat → Int32) → (Nat → Int32) → Int32 → Int32 → Int32 → Int32 → Int32 → Int32 → Int32 → r_k_X3_spread) (v3_21 : Int32) (v1_135 : Int32) (x11_f_135 : Nat → Int64) (x13_f_135 : Nat → Int64) (x14_f_135 : Nat → Int32) (x15_f_135 : Nat → Int32) (x16_f_135 : Nat → Int32) (x17_f_135 : Nat → Int32) (x8_15_135 : Int32) (x8_5_135 : Int32) (x8_9_135 : Int32) (x9_0_135 : Int32) (x9_1_135 : Int32) (x9_2_135 : Int32) (x9_3_135 : Int32) : r_k_X3_spread :=
  rec_21 v1_135 (v3_21 + 1) x11_f_135 x13_f_135 x14_f_135 x15_f_135 x16_f_135 x17_f_135 x8_15_135 x8_5_135 x8_9_135 x9_0_135 x9_1_135 x9_2_135 x9_3_135
def m_k_X3_spread_133 (rec_21 : Int32 → Int32 → (Nat → Int64) → (Nat → Int64) → (Nat → Int32) → (Nat → Int32) → (Nat → Int32) → (Nat → Int32) → Int32 → Int32 → Int32 → Int32 → Int32 → Int32 → Int32 → r_k_X3_spread) (v1_21 : Int32) (v3_21 : Int32) (x11_f_74 : Nat → Int64) (x13_f_74 : Nat → Int64) (x14_f_74 : Nat → Int32) (x15_f_74 : Nat → Int32) (x16_f_74 : Nat → Int32) (x17_f_74 : Nat → Int32) (x8_15_74 : Int32) (x8_5_74 : Int32) (x8_9_74 : Int32) (x9_0_74 : Int32) (x9_1_74 : Int32) (x9_2_74 : Int32) (x9_3_74 : Int32) (s0_133 : Int32) : r_k_X3_spread :=
  m_k_X3_spread_135 rec_21 v3_21 ((v1_21 &&& (((1 : Int32) <<< (v3_21 &&& 31)) ^^^ (-1))) ||| s0_133) x11_f_74 x13_f_74 x14_f_74 x15_f_74 x16_f_74 x17_f_74 x8_15_74 x8_5_74 x8_9_74 x9_0_74 x9_1_74 x9_2_74 x9_3_74
def m_k_X3_spread_74s (pp : pT) (rn : Int32) (tn : Int32) (rf : Nat → Option Nat) (tp : Nat → Int32) (tq : Nat → Int32) (pu : Int32) (o_37 : Nat) (rec_21 : Int32 → Int32 → (Nat → Int64) → (Nat → Int64) → (Nat → Int32) → (Nat → Int32) → (Nat → Int32) → (Nat → Int32) → Int32 → Int32 → Int32 → Int32 → Int32 → Int32 → Int32 → r_k_X3_spread) (v1_21 : Int32) (v3_21 : Int32) (rec_74 : Int32 → (Nat → Int64) → (Nat → Int64) → (Nat → Int32) → (Nat → Int32) → (Nat → Int32) → (Nat → Int32) → Int32 → Int32 → Int32 → Int32 → Int32 → Int32 → Int32 → r_k_X3_spread) (v5_74 : Int32) (x11_f_74 : Nat → Int64) (x13_f_74 : Nat → Int64) (x14_f_74 : Nat → Int32) (x15_f_74 : Nat → Int32) (x16_f_74 : Nat → Int32) (x17_f_74 : Nat → Int32) (x8_15_74 : Int32) (x8_5_74 : Int32) (x8_9_74 : Int32) (x9_0_74 : Int32) (x9_1_74 : Int32) (x9_2_74 : Int32) (x9_3_74 : Int32) : r_k_X3_spread :=
  if tn ≤ v5_74 then
    if x8_15_74 = 0 then
      m_k_X3_spread_133 rec_21 v1_21 v3_21 x11_f_74 x13_f_74 x14_f_74 x15_f_74 x16_f_74 x17_f_74 x8_15_74 x8_5_74 x8_9_74 x9_0_74 x9_1_74 x9_2_74 x9_3_74 0
    else
      lE (m_k_X3_rulesNeeding pp rn rf pu x8_15_74) (fun t_130 =>
        m_k_X3_spread_133 rec_21 v1_21 v3_21 x11_f_74 x13_f_74 x14_f_74 x15_f_74 x16_f_74 x17_f_74 x8_15_74 x8_5_74 x8_9_74 x9_0_74 x9_1_74 x9_2_74 x9_3_74 t_130)
  else
    lE (m_k_X6_parameterAt tp tq v5_74 (pI pp o_37 1)) (fun t_101 =>
      lE (m_k_X3_eachInstance pp x8_5_74 x8_9_74 pu x8_15_74 x9_0_74 x9_1_74 x9_2_74 x11_f_74 x13_f_74 x14_f_74 x15_f_74 x16_f_74 x17_f_74 o_37 v3_21 t_101) (fun t_104 =>
        rec_74 (v5_74 + 1) t_104.1 t_104.2.1 t_104.2.2.1 t_104.2.2.2.1 t_104.2.2.2.2.1 t_104.2.2.2.2.2.1 t_104.2.2.2.2.2.2.1 t_104.2.2.2.2.2.2.2.1 t_104.2.2.2.2.2.2.2.2.1 t_104.2.2.2.2.2.2.2.2.2.1 t_104.2.2.2.2.2.2.2.2.2.2.1 t_104.2.2.2.2.2.2.2.2.2.2.2.1 t_104.2.2.2.2.2.2.2.2.2.2.2.2))
def m_k_X3_spread_74 (pp : pT) (rn : Int32) (tn : Int32) (rf : Nat → Option Nat) (tp : Nat → Int32) (tq : Nat → Int32) (pu : Int32) (o_37 : Nat) (rec_21 : Int32 → Int32 → (Nat → Int64) → (Nat → Int64) → (Nat → Int32) → (Nat → Int32) → (Nat → Int32) → (Nat → Int32) → Int32 → Int32 → Int32 → Int32 → Int32 → Int32 → Int32 → r_k_X3_spread) (v1_21 : Int32) (v3_21 : Int32) : Nat → Int32 → (Nat → Int64) → (Nat → Int64) → (Nat → Int32) → (Nat → Int32) → (Nat → Int32) → (Nat → Int32) → Int32 → Int32 → Int32 → Int32 → Int32 → Int32 → Int32 → r_k_X3_spread
  | 0, _, _, _, _, _, _, _, _, _, _, _, _, _, _ => ((fun _ => 0), (fun _ => 0), (fun _ => 0), (fun _ => 0), (fun _ => 0), (fun _ => 0), 0, 0, 0, 0, 0, 0, 0)
  | n + 1, v5_74, x11_f_74, x13_f_74, x14_f_74, x15_f_74, x16_f_74, x17_f_74, x8_15_74, x8_5_74, x8_9_74, x9_0_74, x9_1_74, x9_2_74, x9_3_74 => m_k_X3_spread_74s pp rn tn rf tp tq pu o_37 rec_21 v1_21 v3_21 (fun v5_74 x11_f_74 x13_f_74 x14_f_74 x15_f_74 x16_f_74 x17_f_74 x8_15_74 x8_5_74 x8_9_74 x9_0_74 x9_1_74 x9_2_74 x9_3_74 => m_k_X3_spread_74 pp rn tn rf tp tq pu o_37 rec_21 v1_21 v3_21 n v5_74 x11_f_74 x13_f_74 x14_f_74 x15_f_74 x16_f_74 x17_f_74 x8_15_74 x8_5_74 x8_9_74 x9_0_74 x9_1_74 x9_2_74 x9_3_74) v5_74 x11_f_74 x13_f_74 x14_f_74 x15_f_74 x16_f_74 x17_f_74 x8_15_74 x8_5_74 x8_9_74 x9_0_74 x9_1_74 x9_2_74 x9_3_74
theorem m_k_X3_spread_74_succ (pp : pT) (rn : Int32) (tn : Int32) (rf : Nat → Option Nat) (tp : Nat → Int32) (tq : Nat → Int32) (pu : Int32) (o_37 : Nat) (rec_21 : Int32 → Int32 → (Nat → Int64) → (Nat → Int64) → (Nat → Int32) → (Nat → Int32) → (Nat → Int32) → (Nat → Int32) → Int32 → Int32 → Int32 → Int32 → Int32 → Int32 → Int32 → r_k_X3_spread) (v1_21 : Int32) (v3_21 : Int32) (n : Nat) (v5_74 : Int32) (x11_f_74 : Nat → Int64) (x13_f_74 : Nat → Int64) (x14_f_74 : Nat → Int32) (x15_f_74 : Nat → Int32) (x16_f_74 : Nat → Int32) (x17_f_74 : Nat → Int32) (x8_15_74 : Int32) (x8_5_74 : Int32) (x8_9_74 : Int32) (x9_0_74 : Int32) (x9_1_74 : Int32) (x9_2_74 : Int32) (x9_3_74 : Int32) : m_k_X3_spread_74 pp rn tn rf tp tq pu o_37 rec_21 v1_21 v3_21 (n + 1) v5_74 x11_f_74 x13_f_74 x14_f_74 x15_f_74 x16_f_74 x17_f_74 x8_15_74 x8_5_74 x8_9_74 x9_0_74 x9_1_74 x9_2_74 x9_3_74 = m_k_X3_spread_74s pp rn tn rf tp tq pu o_37 rec_21 v1_21 v3_21 (m_k_X3_spread_74 pp rn tn rf tp tq pu o_37 rec_21 v1_21 v3_21 n) v5_74 x11_f_74 x13_f_74 x14_f_74 x15_f_74 x16_f_74 x17_f_74 x8_15_74 x8_5_74 x8_9_74 x9_0_74 x9_1_74 x9_2_74 x9_3_74 := rfl
def m_k_X3_spread_21s (pp : pT) (rn : Int32) (tn : Int32) (rf : Nat → Option Nat) (tp : Nat → Int32) (tq : Nat → Int32) (pu : Int32) (rec_8 : Int32 → Int32 → (Nat → Int64) → (Nat → Int64) → (Nat → Int32) → (Nat → Int32) → (Nat → Int32) → (Nat → Int32) → Int32 → Int32 → Int32 → Int32 → Int32 → Int32 → Int32 → r_k_X3_spread) (v2_8 : Int32) (rec_21 : Int32 → Int32 → (Nat → Int64) → (Nat → Int64) → (Nat → Int32) → (Nat → Int32) → (Nat → Int32) → (Nat → Int32) → Int32 → Int32 → Int32 → Int32 → Int32 → Int32 → Int32 → r_k_X3_spread) (v1_21 : Int32) (v3_21 : Int32) (x11_f_21 : Nat → Int64) (x13_f_21 : Nat → Int64) (x14_f_21 : Nat → Int32) (x15_f_21 : Nat → Int32) (x16_f_21 : Nat → Int32) (x17_f_21 : Nat → Int32) (x8_15_21 : Int32) (x8_5_21 : Int32) (x8_9_21 : Int32) (x9_0_21 : Int32) (x9_1_21 : Int32) (x9_2_21 : Int32) (x9_3_21 : Int32) : r_k_X3_spread :=
  if rn ≤ v3_21 then
    rec_8 v1_21 (v2_8 + 1) x11_f_21 x13_f_21 x14_f_21 x15_f_21 x16_f_21 x17_f_21 x8_15_21 x8_5_21 x8_9_21 x9_0_21 x9_1_21 x9_2_21 x9_3_21
  else
    lE (m_k_X6_ruleAt rn rf v3_21) (fun t_37 =>
      oE (t_37) (
        m_k_X3_spread_135 rec_21 v3_21 v1_21 x11_f_21 x13_f_21 x14_f_21 x15_f_21 x16_f_21 x17_f_21 x8_15_21 x8_5_21 x8_9_21 x9_0_21 x9_1_21 x9_2_21 x9_3_21) (fun o_37 =>
        if ((v1_21 >>> (v3_21 &&& 31)) &&& 1) = 0 then
          m_k_X3_spread_135 rec_21 v3_21 v1_21 x11_f_21 x13_f_21 x14_f_21 x15_f_21 x16_f_21 x17_f_21 x8_15_21 x8_5_21 x8_9_21 x9_0_21 x9_1_21 x9_2_21 x9_3_21
        else
          m_k_X3_spread_74 pp rn tn rf tp tq pu o_37 rec_21 v1_21 v3_21 wF 0 x11_f_21 x13_f_21 x14_f_21 x15_f_21 x16_f_21 x17_f_21 0 x8_5_21 x8_9_21 x9_0_21 x9_1_21 x9_2_21 x9_3_21))
def m_k_X3_spread_21 (pp : pT) (rn : Int32) (tn : Int32) (rf : Nat → Option Nat) (tp : Nat → Int32) (tq : Nat → Int32) (pu : Int32) (rec_8 : Int32 → Int32 → (Nat → Int64) → (Nat → Int64) → (Nat → Int32) → (Nat → Int32) → (Nat → Int32) → (Nat → Int32) → Int32 → Int32 → Int32 → Int32 → Int32 → Int32 → Int32 → r_k_X3_spread) (v2_8 : Int32) : Nat → Int32 → Int32 → (Nat → Int64) → (Nat → Int64) → (Nat → Int32) → (Nat → Int32) → (Nat → Int32) → (Nat → Int32) → Int32 → Int32 → Int32 → Int32 → Int32 → Int32 → Int32 → r_k_X3_spread
  | 0, _, _, _, _, _, _, _, _, _, _, _, _, _, _, _ => ((fun _ => 0), (fun _ => 0), (fun _ => 0), (fun _ => 0), (fun _ => 0), (fun _ => 0), 0, 0, 0, 0, 0, 0, 0)
  | n + 1, v1_21, v3_21, x11_f_21, x13_f_21, x14_f_21, x15_f_21, x16_f_21, x17_f_21, x8_15_21, x8_5_21, x8_9_21, x9_0_21, x9_1_21, x9_2_21, x9_3_21 => m_k_X3_spread_21s pp rn tn rf tp tq pu rec_8 v2_8 (fun v1_21 v3_21 x11_f_21 x13_f_21 x14_f_21 x15_f_21 x16_f_21 x17_f_21 x8_15_21 x8_5_21 x8_9_21 x9_0_21 x9_1_21 x9_2_21 x9_3_21 => m_k_X3_spread_21 pp rn tn rf tp tq pu rec_8 v2_8 n v1_21 v3_21 x11_f_21 x13_f_21 x14_f_21 x15_f_21 x16_f_21 x17_f_21 x8_15_21 x8_5_21 x8_9_21 x9_0_21 x9_1_21 x9_2_21 x9_3_21) v1_21 v3_21 x11_f_21 x13_f_21 x14_f_21 x15_f_21 x16_f_21 x17_f_21 x8_15_21 x8_5_21 x8_9_21 x9_0_21 x9_1_21 x9_2_21 x9_3_21
theorem m_k_X3_spread_21_succ (pp : pT) (rn : Int32) (tn : Int32) (rf : Nat → Option Nat) (tp : Nat → Int32) (tq : Nat → Int32) (pu : Int32) (rec_8 : Int32 → Int32 → (Nat → Int64) → (Nat → Int64) → (Nat → Int32) → (Nat → Int32) → (Nat → Int32) → (Nat → Int32) → Int32 → Int32 → Int32 → Int32 → Int32 → Int32 → Int32 → r_k_X3_spread) (v2_8 : Int32) (n : Nat) (v1_21 : Int32) (v3_21 : Int32) (x11_f_21 : Nat → Int64) (x13_f_21 : Nat → Int64) (x14_f_21 : Nat → Int32) (x15_f_21 : Nat → Int32) (x16_f_21 : Nat → Int32) (x17_f_21 : Nat → Int32) (x8_15_21 : Int32) (x8_5_21 : Int32) (x8_9_21 : Int32) (x9_0_21 : Int32) (x9_1_21 : Int32) (x9_2_21 : Int32) (x9_3_21 : Int32) : m_k_X3_spread_21 pp rn tn rf tp tq pu rec_8 v2_8 (n + 1) v1_21 v3_21 x11_f_21 x13_f_21 x14_f_21 x15_f_21 x16_f_21 x17_f_21 x8_15_21 x8_5_21 x8_9_21 x9_0_21 x9_1_21 x9_2_21 x9_3_21 = m_k_X3_spread_21s pp rn tn rf tp tq pu rec_8 v2_8 (m_k_X3_spread_21 pp rn tn rf tp tq pu rec_8 v2_8 n) v1_21 v3_21 x11_f_21 x13_f_21 x14_f_21 x15_f_21 x16_f_21 x17_f_21 x8_15_21 x8_5_21 x8_9_21 x9_0_21 x9_1_21 x9_2_21 x9_3_21 := rfl
def m_k_X3_spread_8s (pp : pT) (rn : Int32) (tn : Int32) (rf : Nat → Option Nat) (tp : Nat → Int32) (tq : Nat → Int32) (pu : Int32) (rec_8 : Int32 → Int32 → (Nat → Int64) → (Nat → Int64) → (Nat → Int32) → (Nat → Int32) → (Nat → Int32) → (Nat → Int32) → Int32 → Int32 → Int32 → Int32 → Int32 → Int32 → Int32 → r_k_X3_spread) (v1_8 : Int32) (v2_8 : Int32) (x11_f_8 : Nat → Int64) (x13_f_8 : Nat → Int64) (x14_f_8 : Nat → Int32) (x15_f_8 : Nat → Int32) (x16_f_8 : Nat → Int32) (x17_f_8 : Nat → Int32) (x8_15_8 : Int32) (x8_5_8 : Int32) (x8_9_8 : Int32) (x9_0_8 : Int32) (x9_1_8 : Int32) (x9_2_8 : Int32) (x9_3_8 : Int32) : r_k_X3_spread :=
  if v1_8 = 0 then
    (x11_f_8, x13_f_8, x14_f_8, x15_f_8, x16_f_8, x17_f_8, x8_15_8, x8_5_8, x8_9_8, x9_0_8, x9_1_8, x9_2_8, x9_3_8)
  else
    if 1000 ≤ v2_8 then
      (x11_f_8, x13_f_8, x14_f_8, x15_f_8, x16_f_8, x17_f_8, x8_15_8, x8_5_8, x8_9_8, x9_0_8, x9_1_8, x9_2_8, x9_3_8)
    else
      m_k_X3_spread_21 pp rn tn rf tp tq pu rec_8 v2_8 wF v1_8 0 x11_f_8 x13_f_8 x14_f_8 x15_f_8 x16_f_8 x17_f_8 x8_15_8 x8_5_8 x8_9_8 x9_0_8 x9_1_8 x9_2_8 x9_3_8
def m_k_X3_spread_8 (pp : pT) (rn : Int32) (tn : Int32) (rf : Nat → Option Nat) (tp : Nat → Int32) (tq : Nat → Int32) (pu : Int32) : Nat → Int32 → Int32 → (Nat → Int64) → (Nat → Int64) → (Nat → Int32) → (Nat → Int32) → (Nat → Int32) → (Nat → Int32) → Int32 → Int32 → Int32 → Int32 → Int32 → Int32 → Int32 → r_k_X3_spread
  | 0, _, _, _, _, _, _, _, _, _, _, _, _, _, _, _ => ((fun _ => 0), (fun _ => 0), (fun _ => 0), (fun _ => 0), (fun _ => 0), (fun _ => 0), 0, 0, 0, 0, 0, 0, 0)
  | n + 1, v1_8, v2_8, x11_f_8, x13_f_8, x14_f_8, x15_f_8, x16_f_8, x17_f_8, x8_15_8, x8_5_8, x8_9_8, x9_0_8, x9_1_8, x9_2_8, x9_3_8 => m_k_X3_spread_8s pp rn tn rf tp tq pu (fun v1_8 v2_8 x11_f_8 x13_f_8 x14_f_8 x15_f_8 x16_f_8 x17_f_8 x8_15_8 x8_5_8 x8_9_8 x9_0_8 x9_1_8 x9_2_8 x9_3_8 => m_k_X3_spread_8 pp rn tn rf tp tq pu n v1_8 v2_8 x11_f_8 x13_f_8 x14_f_8 x15_f_8 x16_f_8 x17_f_8 x8_15_8 x8_5_8 x8_9_8 x9_0_8 x9_1_8 x9_2_8 x9_3_8) v1_8 v2_8 x11_f_8 x13_f_8 x14_f_8 x15_f_8 x16_f_8 x17_f_8 x8_15_8 x8_5_8 x8_9_8 x9_0_8 x9_1_8 x9_2_8 x9_3_8
theorem m_k_X3_spread_8_succ (pp : pT) (rn : Int32) (tn : Int32) (rf : Nat → Option Nat) (tp : Nat → Int32) (tq : Nat → Int32) (pu : Int32) (n : Nat) (v1_8 : Int32) (v2_8 : Int32) (x11_f_8 : Nat → Int64) (x13_f_8 : Nat → Int64) (x14_f_8 : Nat → Int32) (x15_f_8 : Nat → Int32) (x16_f_8 : Nat → Int32) (x17_f_8 : Nat → Int32) (x8_15_8 : Int32) (x8_5_8 : Int32) (x8_9_8 : Int32) (x9_0_8 : Int32) (x9_1_8 : Int32) (x9_2_8 : Int32) (x9_3_8 : Int32) : m_k_X3_spread_8 pp rn tn rf tp tq pu (n + 1) v1_8 v2_8 x11_f_8 x13_f_8 x14_f_8 x15_f_8 x16_f_8 x17_f_8 x8_15_8 x8_5_8 x8_9_8 x9_0_8 x9_1_8 x9_2_8 x9_3_8 = m_k_X3_spread_8s pp rn tn rf tp tq pu (m_k_X3_spread_8 pp rn tn rf tp tq pu n) v1_8 v2_8 x11_f_8 x13_f_8 x14_f_8 x15_f_8 x16_f_8 x17_f_8 x8_15_8 x8_5_8 x8_9_8 x9_0_8 x9_1_8 x9_2_8 x9_3_8 := rfl
def m_k_X3_spread (pp : pT) (rn : Int32) (tn : Int32) (rf : Nat → Option Nat) (tp : Nat → Int32) (tq : Nat → Int32) (hn : Int32) (kn : Int32) (pu : Int32) (gw : Int32) (b_1 : Int32) (b_2 : Int32) (b_3 : Int32) (b_p : Int32) (su : Nat → Int64) (po : Nat → Int64) (hds : Nat → Int32) (kr : Nat → Int32) (kv : Nat → Int32) (kb : Nat → Int32) : r_k_X3_spread :=
  lE (m_k_X3_rulesNeeding pp rn rf pu (-1)) (fun t_2 =>
    m_k_X3_spread_8 pp rn tn rf tp tq pu wF t_2 0 su po hds kr kv kb gw hn kn b_1 b_2 b_3 b_p)
abbrev r_k_X3_refresh : Type := (Nat → Int64) × (Nat → Int64) × (Nat → Int32) × (Nat → Int32) × (Nat → Int32) × (Nat → Int32) × (Nat → Int32) × (Nat → Int32) × Int32 × Int32 × Int32 × Int32 × Int32 × Int32 × Int32 × Int32 × Int32 × Int32
def m_k_X3_refresh (pp : pT) (rn : Int32) (tn : Int32) (en : Int32) (rf : Nat → Option Nat) (tp : Nat → Int32) (tq : Nat → Int32) (ea : Nat → Int32) (es : Nat → Int32) (hn : Int32) (kn : Int32) (on : Int32) (cu : Int32) (pu : Int32) (gw : Int32) (b_1 : Int32) (b_2 : Int32) (b_3 : Int32) (b_p : Int32) (su : Nat → Int64) (po : Nat → Int64) (hds : Nat → Int32) (kr : Nat → Int32) (kv : Nat → Int32) (kb : Nat → Int32) (oa : Nat → Int32) (ob : Nat → Int32) : r_k_X3_refresh :=
  if cu = 0 then
    lE (m_k_X1_clear su) (fun t_12 =>
      lE (m_k_X1_clear po) (fun t_19 =>
        lE (m_k_X3_beginWithExternals en ea es t_12 t_19) (fun t_23 =>
          lE (m_k_X3_spread pp rn tn rf tp tq hn kn 0 gw b_1 b_2 b_3 b_p t_23.1 t_23.2 hds kr kv kb) (fun t_32 =>
            lE (m_k_X3_spread pp rn tn rf tp tq t_32.2.2.2.2.2.2.2.1 t_32.2.2.2.2.2.2.2.2.1 1 t_32.2.2.2.2.2.2.1 t_32.2.2.2.2.2.2.2.2.2.1 t_32.2.2.2.2.2.2.2.2.2.2.1 t_32.2.2.2.2.2.2.2.2.2.2.2.1 t_32.2.2.2.2.2.2.2.2.2.2.2.2 t_32.1 t_32.2.1 t_32.2.2.1 t_32.2.2.2.1 t_32.2.2.2.2.1 t_32.2.2.2.2.2.1) (fun t_41 =>
              lE (m_k_X3_keepInstances pp rn tn rf tp tq t_41.2.2.2.2.2.2.2.1 2 t_41.2.2.2.2.2.2.1 t_41.2.2.2.2.2.2.2.2.2.1 t_41.2.2.2.2.2.2.2.2.2.2.1 t_41.2.2.2.2.2.2.2.2.2.2.2.1 t_41.2.2.2.2.2.2.2.2.2.2.2.2 t_41.1 t_41.2.1 t_41.2.2.1 t_41.2.2.2.1 t_41.2.2.2.2.1 t_41.2.2.2.2.2.1) (fun t_50 =>
                lE (m_k_X3_numberOpenAtoms t_50.1 t_50.2.1 oa ob) (fun t_54 =>
                  (t_50.1, t_50.2.1, t_50.2.2.1, t_50.2.2.2.1, t_50.2.2.2.2.1, t_50.2.2.2.2.2.1, t_54.1, t_54.2.1, t_54.2.2, 1, 2, t_50.2.2.2.2.2.2.1, t_50.2.2.2.2.2.2.2.1, t_50.2.2.2.2.2.2.2.2.1, t_50.2.2.2.2.2.2.2.2.2.1, t_50.2.2.2.2.2.2.2.2.2.2.1, t_50.2.2.2.2.2.2.2.2.2.2.2.1, t_50.2.2.2.2.2.2.2.2.2.2.2.2))))))))
  else
    (su, po, hds, kr, kv, kb, oa, ob, on, cu, pu, gw, hn, kn, b_1, b_2, b_3, b_p)
abbrev r_k_X9_bitOf : Type := Int32
def m_k_X9_bitOf_35 : r_k_X9_bitOf :=
  0
def m_k_X9_bitOf (on : Int32) (ob : Nat → Int32) (a1 : Int32) : r_k_X9_bitOf :=
  lE (m_k_X3_openNumberOf ob a1) (fun t_5 =>
    if t_5 < 0 then
      m_k_X9_bitOf_35
    else
      if ((on - 1) - t_5) < 0 then
        m_k_X9_bitOf_35
      else
        if ((on - 1) - t_5) < 12 then
          ((1 : Int32) <<< (((on - 1) - t_5) &&& 31))
        else
          m_k_X9_bitOf_35)
abbrev r_k_X9_isIn : Type := Int32
def m_k_X9_isIn_24 : r_k_X9_isIn :=
  1
def m_k_X9_isIn (on : Int32) (su : Nat → Int64) (ob : Nat → Int32) (a1 : Int32) (a2 : Int32) : r_k_X9_isIn :=
  lE (m_k_X1_contains su a2) (fun t_8 =>
    if t_8 = 0 then
      lE (m_k_X9_bitOf on ob a2) (fun t_17 =>
        if (a1 &&& t_17) = 0 then
          0
        else
          m_k_X9_isIn_24)
    else
      m_k_X9_isIn_24)
abbrev r_k_X9_sizeOf : Type := Int32
def m_k_X9_sizeOf (su : Nat → Int64) (a1 : Int32) : r_k_X9_sizeOf :=
  lE (m_k_X1_count su) (fun t_7 =>
    lE (m_k_J6_bitCount_0f7a4 a1) (fun t_11 =>
      (t_7 + t_11)))
abbrev r_k_X9_openBitsOf : Type := Int32
def m_k_X9_openBitsOf (obi : Nat → Int32) (a1 : Int32) : r_k_X9_openBitsOf :=
  if a1 < 0 then
    0
  else
    if 6 ≤ a1 then
      0
    else
      (obi a1.toNatClampNeg)
abbrev r_k_X9_fullSet : Type := Int32
def m_k_X9_fullSet (on : Int32) : r_k_X9_fullSet :=
  (((1 : Int32) <<< ((if on < (12 : Int32) then on else (12 : Int32)) &&& 31)) - 1)
abbrev r_k_X9_fits : Type := Int32
def m_k_X9_fits (mh : Int32) (ml : Int32) (ih : Int32) (a1 : Int32) : r_k_X9_fits :=
  if ih = 0 then
    if (a1 &&& mh) = mh then
      if (a1 &&& ml) = 0 then
        1
      else
        0
    else
      0
  else
    0
abbrev r_k_X9_countHolds : Type := Int32
def m_k_X9_countHolds (pp : pT) (obi : Nat → Int32) (sc : Nat → Int32) (a0 : Nat) (a1 : Int32) : r_k_X9_countHolds :=
  if (pI pp a0 1) < 0 then
    0
  else
    if (pI pp a0 1) < 6 then
      lE (m_k_J6_bitCount_0f7a4 (a1 &&& (obi (pI pp a0 1).toNatClampNeg))) (fun t_31 =>
        if (pI pp a0 0) = 103 then
          if ((sc (pI pp a0 1).toNatClampNeg) + t_31) < (pI pp a0 2) then
            0
          else
            1
        else
          if (pI pp a0 2) < ((sc (pI pp a0 1).toNatClampNeg) + t_31) then
            0
          else
            1)
    else
      0
abbrev r_k_X9_isChoice : Type := Int32
def m_k_X9_isChoice (ch : Int32) (c1 : Nat → Int32) (a1 : Int32) : r_k_X9_isChoice :=
  lE (m_k_X7_ruleAt c1 a1) (fun t_5 =>
    if t_5 < 0 then
      0
    else
      if ((ch >>> (t_5 &&& 31)) &&& 1) = 0 then
        0
      else
        1)
abbrev r_k_X9_countsHold : Type := Int32
def m_k_X9_countsHold_48 (rec_8 : Int32 → r_k_X9_countsHold) (v3_8 : Int32) : r_k_X9_countsHold :=
  rec_8 (v3_8 + 1)
def m_k_X9_countsHold_8s (pp : pT) (obi : Nat → Int32) (sc : Nat → Int32) (a0 : Nat) (a1 : Int32) (rec_8 : Int32 → r_k_X9_countsHold) (v3_8 : Int32) : r_k_X9_countsHold :=
  if (pI pp a0 10) ≤ v3_8 then
    1
  else
    lE (m_k_X8_conditionAt pp a0 v3_8) (fun t_18 =>
      oE (t_18) (
        m_k_X9_countsHold_48 rec_8 v3_8) (fun o_18 =>
        lE (m_k_X4_isCount pp o_18) (fun t_30 =>
          if t_30 = 0 then
            m_k_X9_countsHold_48 rec_8 v3_8
          else
            lE (m_k_X9_countHolds pp obi sc o_18 a1) (fun t_40 =>
              if t_40 = 0 then
                0
              else
                m_k_X9_countsHold_48 rec_8 v3_8))))
def m_k_X9_countsHold_8 (pp : pT) (obi : Nat → Int32) (sc : Nat → Int32) (a0 : Nat) (a1 : Int32) : Nat → Int32 → r_k_X9_countsHold
  | 0, _ => (0)
  | n + 1, v3_8 => m_k_X9_countsHold_8s pp obi sc a0 a1 (fun v3_8 => m_k_X9_countsHold_8 pp obi sc a0 a1 n v3_8) v3_8
theorem m_k_X9_countsHold_8_succ (pp : pT) (obi : Nat → Int32) (sc : Nat → Int32) (a0 : Nat) (a1 : Int32) (n : Nat) (v3_8 : Int32) : m_k_X9_countsHold_8 pp obi sc a0 a1 (n + 1) v3_8 = m_k_X9_countsHold_8s pp obi sc a0 a1 (m_k_X9_countsHold_8 pp obi sc a0 a1 n) v3_8 := rfl
def m_k_X9_countsHold (pp : pT) (obi : Nat → Int32) (sc : Nat → Int32) (a0 : Nat) (a1 : Int32) : r_k_X9_countsHold :=
  m_k_X9_countsHold_8 pp obi sc a0 a1 wF 0
abbrev r_k_X9_countsHold_z : Type := Int32
def m_k_X9_countsHold_z : r_k_X9_countsHold_z :=
  0
abbrev r_k_X9_countsHeld : Type := Int32
def m_k_X9_countsHeld_55 (rec_5 : Int32 → Int32 → r_k_X9_countsHeld) (v3_5 : Int32) (v2_55 : Int32) : r_k_X9_countsHeld :=
  rec_5 v2_55 (v3_5 + 1)
def m_k_X9_countsHeld_5s (pp : pT) (rn : Int32) (rf : Nat → Option Nat) (cg : Int32) (obi : Nat → Int32) (sc : Nat → Int32) (a1 : Int32) (rec_5 : Int32 → Int32 → r_k_X9_countsHeld) (v2_5 : Int32) (v3_5 : Int32) : r_k_X9_countsHeld :=
  if (cg >>> (v3_5 &&& 31)) = 0 then
    v2_5
  else
    if 20 ≤ v3_5 then
      v2_5
    else
      if ((cg >>> (v3_5 &&& 31)) &&& 1) = 0 then
        m_k_X9_countsHeld_55 rec_5 v3_5 v2_5
      else
        lE (m_k_X6_ruleAt rn rf v3_5) (fun t_37 =>
          oE (t_37) (
            lE (m_k_X9_countsHold_z) (fun t_41 =>
              if t_41 = 0 then
                m_k_X9_countsHeld_55 rec_5 v3_5 (v2_5 &&& (((1 : Int32) <<< (v3_5 &&& 31)) ^^^ (-1)))
              else
                m_k_X9_countsHeld_55 rec_5 v3_5 v2_5)) (fun o_37 =>
            lE (m_k_X9_countsHold pp obi sc o_37 a1) (fun t_41 =>
              if t_41 = 0 then
                m_k_X9_countsHeld_55 rec_5 v3_5 (v2_5 &&& (((1 : Int32) <<< (v3_5 &&& 31)) ^^^ (-1)))
              else
                m_k_X9_countsHeld_55 rec_5 v3_5 v2_5)))
def m_k_X9_countsHeld_5 (pp : pT) (rn : Int32) (rf : Nat → Option Nat) (cg : Int32) (obi : Nat → Int32) (sc : Nat → Int32) (a1 : Int32) : Nat → Int32 → Int32 → r_k_X9_countsHeld
  | 0, _, _ => (0)
  | n + 1, v2_5, v3_5 => m_k_X9_countsHeld_5s pp rn rf cg obi sc a1 (fun v2_5 v3_5 => m_k_X9_countsHeld_5 pp rn rf cg obi sc a1 n v2_5 v3_5) v2_5 v3_5
theorem m_k_X9_countsHeld_5_succ (pp : pT) (rn : Int32) (rf : Nat → Option Nat) (cg : Int32) (obi : Nat → Int32) (sc : Nat → Int32) (a1 : Int32) (n : Nat) (v2_5 : Int32) (v3_5 : Int32) : m_k_X9_countsHeld_5 pp rn rf cg obi sc a1 (n + 1) v2_5 v3_5 = m_k_X9_countsHeld_5s pp rn rf cg obi sc a1 (m_k_X9_countsHeld_5 pp rn rf cg obi sc a1 n) v2_5 v3_5 := rfl
def m_k_X9_countsHeld (pp : pT) (rn : Int32) (rf : Nat → Option Nat) (cg : Int32) (obi : Nat → Int32) (sc : Nat → Int32) (a1 : Int32) : r_k_X9_countsHeld :=
  m_k_X9_countsHeld_5 pp rn rf cg obi sc a1 wF 1048575 0
abbrev r_k_X9_isModel : Type := Int32 × Int32
def m_k_X9_isModel_40s (lb : Int32) (cn : Int32) (c1 : Nat → Int32) (c2 : Nat → Int32) (c3 : Nat → Int32) (c4 : Nat → Int32) (c5 : Nat → Int32) (c6 : Nat → Int32) (a1 : Int32) (t_2 : r_k_X9_countsHeld) (rec_40 : Int32 → r_k_X9_isModel) (v3_40 : Int32) : r_k_X9_isModel :=
  if cn ≤ v3_40 then
    (1, lb)
  else
    lE (m_k_X7_isBroken c1 c2 c3 c4 c5 c6 v3_40 a1 t_2) (fun t_58 =>
      if t_58 = 0 then
        rec_40 (v3_40 + 1)
      else
        (0, v3_40))
def m_k_X9_isModel_40 (lb : Int32) (cn : Int32) (c1 : Nat → Int32) (c2 : Nat → Int32) (c3 : Nat → Int32) (c4 : Nat → Int32) (c5 : Nat → Int32) (c6 : Nat → Int32) (a1 : Int32) (t_2 : r_k_X9_countsHeld) : Nat → Int32 → r_k_X9_isModel
  | 0, _ => (0, 0)
  | n + 1, v3_40 => m_k_X9_isModel_40s lb cn c1 c2 c3 c4 c5 c6 a1 t_2 (fun v3_40 => m_k_X9_isModel_40 lb cn c1 c2 c3 c4 c5 c6 a1 t_2 n v3_40) v3_40
theorem m_k_X9_isModel_40_succ (lb : Int32) (cn : Int32) (c1 : Nat → Int32) (c2 : Nat → Int32) (c3 : Nat → Int32) (c4 : Nat → Int32) (c5 : Nat → Int32) (c6 : Nat → Int32) (a1 : Int32) (t_2 : r_k_X9_countsHeld) (n : Nat) (v3_40 : Int32) : m_k_X9_isModel_40 lb cn c1 c2 c3 c4 c5 c6 a1 t_2 (n + 1) v3_40 = m_k_X9_isModel_40s lb cn c1 c2 c3 c4 c5 c6 a1 t_2 (m_k_X9_isModel_40 lb cn c1 c2 c3 c4 c5 c6 a1 t_2 n) v3_40 := rfl
def m_k_X9_isModel_38 (lb : Int32) (cn : Int32) (c1 : Nat → Int32) (c2 : Nat → Int32) (c3 : Nat → Int32) (c4 : Nat → Int32) (c5 : Nat → Int32) (c6 : Nat → Int32) (a1 : Int32) (t_2 : r_k_X9_countsHeld) : r_k_X9_isModel :=
  m_k_X9_isModel_40 lb cn c1 c2 c3 c4 c5 c6 a1 t_2 wF 0
def m_k_X9_isModel (pp : pT) (rn : Int32) (rf : Nat → Option Nat) (cg : Int32) (lb : Int32) (cn : Int32) (c1 : Nat → Int32) (c2 : Nat → Int32) (c3 : Nat → Int32) (c4 : Nat → Int32) (c5 : Nat → Int32) (c6 : Nat → Int32) (obi : Nat → Int32) (sc : Nat → Int32) (a1 : Int32) : r_k_X9_isModel :=
  lE (m_k_X9_countsHeld pp rn rf cg obi sc a1) (fun t_2 =>
    if cn ≤ lb then
      m_k_X9_isModel_38 lb cn c1 c2 c3 c4 c5 c6 a1 t_2
    else
      lE (m_k_X7_isBroken c1 c2 c3 c4 c5 c6 lb a1 t_2) (fun t_30 =>
        if t_30 = 0 then
          m_k_X9_isModel_38 lb cn c1 c2 c3 c4 c5 c6 a1 t_2
        else
          (0, lb)))
abbrev r_k_X9_listActive : Type := Int32 × (Nat → Int32)
def m_k_X9_listActive_92 (rec_13 : Int32 → Int32 → (Nat → Int32) → r_k_X9_listActive) (v3_13 : Int32) (x20_5_92 : Int32) (x35_f_92 : Nat → Int32) : r_k_X9_listActive :=
  rec_13 (v3_13 + 1) x20_5_92 x35_f_92
def m_k_X9_listActive_42 (c1 : Nat → Int32) (c2 : Nat → Int32) (c3 : Nat → Int32) (a1 : Int32) (rec_13 : Int32 → Int32 → (Nat → Int32) → r_k_X9_listActive) (t_2 : r_k_X9_countsHeld) (v3_13 : Int32) (x20_5_13 : Int32) (x35_f_13 : Nat → Int32) (s0_42 : Int32) : r_k_X9_listActive :=
  if s0_42 = 0 then
    m_k_X9_listActive_92 rec_13 v3_13 x20_5_13 x35_f_13
  else
    lE (m_k_X7_bodyHolds c1 c2 c3 v3_13 a1 t_2) (fun t_56 =>
      if t_56 = 0 then
        m_k_X9_listActive_92 rec_13 v3_13 x20_5_13 x35_f_13
      else
        if 300 ≤ x20_5_13 then
          m_k_X9_listActive_92 rec_13 v3_13 x20_5_13 x35_f_13
        else
          m_k_X9_listActive_92 rec_13 v3_13 (x20_5_13 + 1) (upd x35_f_13 x20_5_13.toNatClampNeg v3_13))
def m_k_X9_listActive_13s (cn : Int32) (c1 : Nat → Int32) (c2 : Nat → Int32) (c3 : Nat → Int32) (c4 : Nat → Int32) (a1 : Int32) (t_2 : r_k_X9_countsHeld) (rec_13 : Int32 → Int32 → (Nat → Int32) → r_k_X9_listActive) (v3_13 : Int32) (x20_5_13 : Int32) (x35_f_13 : Nat → Int32) : r_k_X9_listActive :=
  if cn ≤ v3_13 then
    (x20_5_13, x35_f_13)
  else
    lE (m_k_X7_headsAt c4 v3_13) (fun t_29 =>
      if (t_29 &&& a1) = 0 then
        m_k_X9_listActive_42 c1 c2 c3 a1 rec_13 t_2 v3_13 x20_5_13 x35_f_13 0
      else
        m_k_X9_listActive_42 c1 c2 c3 a1 rec_13 t_2 v3_13 x20_5_13 x35_f_13 1)
def m_k_X9_listActive_13 (cn : Int32) (c1 : Nat → Int32) (c2 : Nat → Int32) (c3 : Nat → Int32) (c4 : Nat → Int32) (a1 : Int32) (t_2 : r_k_X9_countsHeld) : Nat → Int32 → Int32 → (Nat → Int32) → r_k_X9_listActive
  | 0, _, _, _ => (0, (fun _ => 0))
  | n + 1, v3_13, x20_5_13, x35_f_13 => m_k_X9_listActive_13s cn c1 c2 c3 c4 a1 t_2 (fun v3_13 x20_5_13 x35_f_13 => m_k_X9_listActive_13 cn c1 c2 c3 c4 a1 t_2 n v3_13 x20_5_13 x35_f_13) v3_13 x20_5_13 x35_f_13
theorem m_k_X9_listActive_13_succ (cn : Int32) (c1 : Nat → Int32) (c2 : Nat → Int32) (c3 : Nat → Int32) (c4 : Nat → Int32) (a1 : Int32) (t_2 : r_k_X9_countsHeld) (n : Nat) (v3_13 : Int32) (x20_5_13 : Int32) (x35_f_13 : Nat → Int32) : m_k_X9_listActive_13 cn c1 c2 c3 c4 a1 t_2 (n + 1) v3_13 x20_5_13 x35_f_13 = m_k_X9_listActive_13s cn c1 c2 c3 c4 a1 t_2 (m_k_X9_listActive_13 cn c1 c2 c3 c4 a1 t_2 n) v3_13 x20_5_13 x35_f_13 := rfl
def m_k_X9_listActive (pp : pT) (rn : Int32) (rf : Nat → Option Nat) (cg : Int32) (cn : Int32) (c1 : Nat → Int32) (c2 : Nat → Int32) (c3 : Nat → Int32) (c4 : Nat → Int32) (ac : Nat → Int32) (obi : Nat → Int32) (sc : Nat → Int32) (a1 : Int32) : r_k_X9_listActive :=
  lE (m_k_X9_countsHeld pp rn rf cg obi sc a1) (fun t_2 =>
    m_k_X9_listActive_13 cn c1 c2 c3 c4 a1 t_2 wF 0 0 ac)
abbrev r_k_X9_grow : Type := Int32
def m_k_X9_grow_133 (rec_34 : Int32 → Int32 → r_k_X9_grow) (v8_34 : Int32) (v3_133 : Int32) : r_k_X9_grow :=
  rec_34 v3_133 (v8_34 + 1)
def m_k_X9_grow_97 (c1 : Nat → Int32) (c2 : Nat → Int32) (c3 : Nat → Int32) (ac : Nat → Int32) (a2 : Int32) (rec_34 : Int32 → Int32 → r_k_X9_grow) (t_26 : r_k_X9_countsHeld) (t_66 : r_k_X7_headsAt) (v3_34 : Int32) (v8_34 : Int32) (s0_97 : Int32) : r_k_X9_grow :=
  if s0_97 = 0 then
    m_k_X9_grow_133 rec_34 v8_34 v3_34
  else
    if ((t_66 &&& a2) &&& (v3_34 ^^^ (-1))) = 0 then
      m_k_X9_grow_133 rec_34 v8_34 v3_34
    else
      lE (m_k_X7_bodyHolds c1 c2 c3 (ac v8_34.toNatClampNeg) v3_34 t_26) (fun t_122 =>
        if t_122 = 0 then
          m_k_X9_grow_133 rec_34 v8_34 v3_34
        else
          m_k_X9_grow_133 rec_34 v8_34 (v3_34 ||| (t_66 &&& a2)))
def m_k_X9_grow_92 (c1 : Nat → Int32) (c2 : Nat → Int32) (c3 : Nat → Int32) (ac : Nat → Int32) (a2 : Int32) (rec_34 : Int32 → Int32 → r_k_X9_grow) (t_26 : r_k_X9_countsHeld) (t_66 : r_k_X7_headsAt) (v3_34 : Int32) (v8_34 : Int32) : r_k_X9_grow :=
  m_k_X9_grow_97 c1 c2 c3 ac a2 rec_34 t_26 t_66 v3_34 v8_34 1
def m_k_X9_grow_150 (rec_8 : Int32 → Int32 → Int32 → r_k_X9_grow) (v3_34 : Int32) (v5_8 : Int32) (s0_150 : Int32) : r_k_X9_grow :=
  rec_8 v3_34 s0_150 (v5_8 + 1)
def m_k_X9_grow_139 (rec_8 : Int32 → Int32 → Int32 → r_k_X9_grow) (v3_34 : Int32) (v3_8 : Int32) (v5_8 : Int32) : r_k_X9_grow :=
  if v3_34 = v3_8 then
    m_k_X9_grow_150 rec_8 v3_34 v5_8 0
  else
    m_k_X9_grow_150 rec_8 v3_34 v5_8 1
def m_k_X9_grow_34s (an : Int32) (ch : Int32) (c1 : Nat → Int32) (c2 : Nat → Int32) (c3 : Nat → Int32) (c4 : Nat → Int32) (ac : Nat → Int32) (a2 : Int32) (rec_8 : Int32 → Int32 → Int32 → r_k_X9_grow) (t_26 : r_k_X9_countsHeld) (v3_8 : Int32) (v5_8 : Int32) (rec_34 : Int32 → Int32 → r_k_X9_grow) (v3_34 : Int32) (v8_34 : Int32) : r_k_X9_grow :=
  if an ≤ v8_34 then
    m_k_X9_grow_139 rec_8 v3_34 v3_8 v5_8
  else
    if 300 ≤ v8_34 then
      m_k_X9_grow_139 rec_8 v3_34 v3_8 v5_8
    else
      lE (m_k_X7_headsAt c4 (ac v8_34.toNatClampNeg)) (fun t_66 =>
        lE (m_k_X9_isChoice ch c1 (ac v8_34.toNatClampNeg)) (fun t_76 =>
          if t_76 = 0 then
            if ((t_66 &&& a2) &&& ((t_66 &&& a2) - 1)) = 0 then
              m_k_X9_grow_92 c1 c2 c3 ac a2 rec_34 t_26 t_66 v3_34 v8_34
            else
              m_k_X9_grow_97 c1 c2 c3 ac a2 rec_34 t_26 t_66 v3_34 v8_34 0
          else
            m_k_X9_grow_92 c1 c2 c3 ac a2 rec_34 t_26 t_66 v3_34 v8_34))
def m_k_X9_grow_34 (an : Int32) (ch : Int32) (c1 : Nat → Int32) (c2 : Nat → Int32) (c3 : Nat → Int32) (c4 : Nat → Int32) (ac : Nat → Int32) (a2 : Int32) (rec_8 : Int32 → Int32 → Int32 → r_k_X9_grow) (t_26 : r_k_X9_countsHeld) (v3_8 : Int32) (v5_8 : Int32) : Nat → Int32 → Int32 → r_k_X9_grow
  | 0, _, _ => (0)
  | n + 1, v3_34, v8_34 => m_k_X9_grow_34s an ch c1 c2 c3 c4 ac a2 rec_8 t_26 v3_8 v5_8 (fun v3_34 v8_34 => m_k_X9_grow_34 an ch c1 c2 c3 c4 ac a2 rec_8 t_26 v3_8 v5_8 n v3_34 v8_34) v3_34 v8_34
theorem m_k_X9_grow_34_succ (an : Int32) (ch : Int32) (c1 : Nat → Int32) (c2 : Nat → Int32) (c3 : Nat → Int32) (c4 : Nat → Int32) (ac : Nat → Int32) (a2 : Int32) (rec_8 : Int32 → Int32 → Int32 → r_k_X9_grow) (t_26 : r_k_X9_countsHeld) (v3_8 : Int32) (v5_8 : Int32) (n : Nat) (v3_34 : Int32) (v8_34 : Int32) : m_k_X9_grow_34 an ch c1 c2 c3 c4 ac a2 rec_8 t_26 v3_8 v5_8 (n + 1) v3_34 v8_34 = m_k_X9_grow_34s an ch c1 c2 c3 c4 ac a2 rec_8 t_26 v3_8 v5_8 (m_k_X9_grow_34 an ch c1 c2 c3 c4 ac a2 rec_8 t_26 v3_8 v5_8 n) v3_34 v8_34 := rfl
def m_k_X9_grow_8s (pp : pT) (rn : Int32) (rf : Nat → Option Nat) (an : Int32) (ch : Int32) (cg : Int32) (c1 : Nat → Int32) (c2 : Nat → Int32) (c3 : Nat → Int32) (c4 : Nat → Int32) (ac : Nat → Int32) (obi : Nat → Int32) (sc : Nat → Int32) (a2 : Int32) (rec_8 : Int32 → Int32 → Int32 → r_k_X9_grow) (v3_8 : Int32) (v4_8 : Int32) (v5_8 : Int32) : r_k_X9_grow :=
  if v4_8 = 0 then
    v3_8
  else
    if 1000 ≤ v5_8 then
      v3_8
    else
      lE (m_k_X9_countsHeld pp rn rf cg obi sc v3_8) (fun t_26 =>
        m_k_X9_grow_34 an ch c1 c2 c3 c4 ac a2 rec_8 t_26 v3_8 v5_8 wF v3_8 0)
def m_k_X9_grow_8 (pp : pT) (rn : Int32) (rf : Nat → Option Nat) (an : Int32) (ch : Int32) (cg : Int32) (c1 : Nat → Int32) (c2 : Nat → Int32) (c3 : Nat → Int32) (c4 : Nat → Int32) (ac : Nat → Int32) (obi : Nat → Int32) (sc : Nat → Int32) (a2 : Int32) : Nat → Int32 → Int32 → Int32 → r_k_X9_grow
  | 0, _, _, _ => (0)
  | n + 1, v3_8, v4_8, v5_8 => m_k_X9_grow_8s pp rn rf an ch cg c1 c2 c3 c4 ac obi sc a2 (fun v3_8 v4_8 v5_8 => m_k_X9_grow_8 pp rn rf an ch cg c1 c2 c3 c4 ac obi sc a2 n v3_8 v4_8 v5_8) v3_8 v4_8 v5_8
theorem m_k_X9_grow_8_succ (pp : pT) (rn : Int32) (rf : Nat → Option Nat) (an : Int32) (ch : Int32) (cg : Int32) (c1 : Nat → Int32) (c2 : Nat → Int32) (c3 : Nat → Int32) (c4 : Nat → Int32) (ac : Nat → Int32) (obi : Nat → Int32) (sc : Nat → Int32) (a2 : Int32) (n : Nat) (v3_8 : Int32) (v4_8 : Int32) (v5_8 : Int32) : m_k_X9_grow_8 pp rn rf an ch cg c1 c2 c3 c4 ac obi sc a2 (n + 1) v3_8 v4_8 v5_8 = m_k_X9_grow_8s pp rn rf an ch cg c1 c2 c3 c4 ac obi sc a2 (m_k_X9_grow_8 pp rn rf an ch cg c1 c2 c3 c4 ac obi sc a2 n) v3_8 v4_8 v5_8 := rfl
def m_k_X9_grow (pp : pT) (rn : Int32) (rf : Nat → Option Nat) (an : Int32) (ch : Int32) (cg : Int32) (c1 : Nat → Int32) (c2 : Nat → Int32) (c3 : Nat → Int32) (c4 : Nat → Int32) (ac : Nat → Int32) (obi : Nat → Int32) (sc : Nat → Int32) (a1 : Int32) (a2 : Int32) : r_k_X9_grow :=
  m_k_X9_grow_8 pp rn rf an ch cg c1 c2 c3 c4 ac obi sc a2 wF a1 1 0
abbrev r_k_X9_headsToSplit : Type := Int32
def m_k_X9_headsToSplit_81 (rec_9 : Int32 → r_k_X9_headsToSplit) (v4_9 : Int32) : r_k_X9_headsToSplit :=
  rec_9 (v4_9 + 1)
def m_k_X9_headsToSplit_9s (an : Int32) (ch : Int32) (c1 : Nat → Int32) (c2 : Nat → Int32) (c3 : Nat → Int32) (c4 : Nat → Int32) (ac : Nat → Int32) (a1 : Int32) (a2 : Int32) (t_2 : r_k_X9_countsHeld) (rec_9 : Int32 → r_k_X9_headsToSplit) (v4_9 : Int32) : r_k_X9_headsToSplit :=
  if an ≤ v4_9 then
    0
  else
    if 300 ≤ v4_9 then
      0
    else
      lE (m_k_X7_headsAt c4 (ac v4_9.toNatClampNeg)) (fun t_41 =>
        lE (m_k_X9_isChoice ch c1 (ac v4_9.toNatClampNeg)) (fun t_51 =>
          if t_51 = 0 then
            if ((t_41 &&& a2) &&& a1) = 0 then
              lE (m_k_X7_bodyHolds c1 c2 c3 (ac v4_9.toNatClampNeg) a1 t_2) (fun t_72 =>
                if t_72 = 0 then
                  m_k_X9_headsToSplit_81 rec_9 v4_9
                else
                  (t_41 &&& a2))
            else
              m_k_X9_headsToSplit_81 rec_9 v4_9
          else
            m_k_X9_headsToSplit_81 rec_9 v4_9))
def m_k_X9_headsToSplit_9 (an : Int32) (ch : Int32) (c1 : Nat → Int32) (c2 : Nat → Int32) (c3 : Nat → Int32) (c4 : Nat → Int32) (ac : Nat → Int32) (a1 : Int32) (a2 : Int32) (t_2 : r_k_X9_countsHeld) : Nat → Int32 → r_k_X9_headsToSplit
  | 0, _ => (0)
  | n + 1, v4_9 => m_k_X9_headsToSplit_9s an ch c1 c2 c3 c4 ac a1 a2 t_2 (fun v4_9 => m_k_X9_headsToSplit_9 an ch c1 c2 c3 c4 ac a1 a2 t_2 n v4_9) v4_9
theorem m_k_X9_headsToSplit_9_succ (an : Int32) (ch : Int32) (c1 : Nat → Int32) (c2 : Nat → Int32) (c3 : Nat → Int32) (c4 : Nat → Int32) (ac : Nat → Int32) (a1 : Int32) (a2 : Int32) (t_2 : r_k_X9_countsHeld) (n : Nat) (v4_9 : Int32) : m_k_X9_headsToSplit_9 an ch c1 c2 c3 c4 ac a1 a2 t_2 (n + 1) v4_9 = m_k_X9_headsToSplit_9s an ch c1 c2 c3 c4 ac a1 a2 t_2 (m_k_X9_headsToSplit_9 an ch c1 c2 c3 c4 ac a1 a2 t_2 n) v4_9 := rfl
def m_k_X9_headsToSplit (pp : pT) (rn : Int32) (rf : Nat → Option Nat) (an : Int32) (ch : Int32) (cg : Int32) (c1 : Nat → Int32) (c2 : Nat → Int32) (c3 : Nat → Int32) (c4 : Nat → Int32) (ac : Nat → Int32) (obi : Nat → Int32) (sc : Nat → Int32) (a1 : Int32) (a2 : Int32) : r_k_X9_headsToSplit :=
  lE (m_k_X9_countsHeld pp rn rf cg obi sc a1) (fun t_2 =>
    m_k_X9_headsToSplit_9 an ch c1 c2 c3 c4 ac a1 a2 t_2 wF 0)
abbrev r_k_X9_hasSmaller : Type := Int32 × Int32 × (Nat → Int32) × (Nat → Int32)
def m_k_X9_hasSmaller_130 (rec_21 : Int32 → Int32 → (Nat → Int32) → r_k_X9_hasSmaller) (v3_21 : Int32) (v2_130 : Int32) (x38_f_130 : Nat → Int32) : r_k_X9_hasSmaller :=
  rec_21 v2_130 (v3_21 + 1) x38_f_130
def m_k_X9_hasSmaller_21s (pp : pT) (rn : Int32) (rf : Nat → Option Nat) (ch : Int32) (cg : Int32) (c1 : Nat → Int32) (c2 : Nat → Int32) (c3 : Nat → Int32) (c4 : Nat → Int32) (obi : Nat → Int32) (sc : Nat → Int32) (a1 : Int32) (t_2 : r_k_X9_listActive) (rec_21 : Int32 → Int32 → (Nat → Int32) → r_k_X9_hasSmaller) (v2_21 : Int32) (v3_21 : Int32) (x38_f_21 : Nat → Int32) : r_k_X9_hasSmaller :=
  if v2_21 ≤ 0 then
    (0, t_2.1, t_2.2, x38_f_21)
  else
    if 26 ≤ v2_21 then
      (0, t_2.1, t_2.2, x38_f_21)
    else
      if 1000000 ≤ v3_21 then
        (0, t_2.1, t_2.2, x38_f_21)
      else
        lE (m_k_X9_grow pp rn rf t_2.1 ch cg c1 c2 c3 c4 t_2.2 obi sc (x38_f_21 (v2_21 + (-1)).toNatClampNeg) a1) (fun t_52 =>
          lE (m_k_X9_headsToSplit pp rn rf t_2.1 ch cg c1 c2 c3 c4 t_2.2 obi sc t_52 a1) (fun t_61 =>
            if t_61 = 0 then
              if t_52 = a1 then
                m_k_X9_hasSmaller_130 rec_21 v3_21 (v2_21 + (-1)) x38_f_21
              else
                (1, t_2.1, t_2.2, x38_f_21)
            else
              if 26 ≤ ((v2_21 + (-1)) + 1) then
                m_k_X9_hasSmaller_130 rec_21 v3_21 (v2_21 + (-1)) x38_f_21
              else
                m_k_X9_hasSmaller_130 rec_21 v3_21 ((v2_21 + (-1)) + 2) (upd (upd x38_f_21 ((v2_21 + (-1)).toNatClampNeg) (t_52 ||| (t_61 &&& (-t_61)))) (((v2_21 + (-1)) + 1).toNatClampNeg) (t_52 ||| (t_61 &&& ((t_61 &&& (-t_61)) ^^^ (-1)))))))
def m_k_X9_hasSmaller_21 (pp : pT) (rn : Int32) (rf : Nat → Option Nat) (ch : Int32) (cg : Int32) (c1 : Nat → Int32) (c2 : Nat → Int32) (c3 : Nat → Int32) (c4 : Nat → Int32) (obi : Nat → Int32) (sc : Nat → Int32) (a1 : Int32) (t_2 : r_k_X9_listActive) : Nat → Int32 → Int32 → (Nat → Int32) → r_k_X9_hasSmaller
  | 0, _, _, _ => (0, 0, (fun _ => 0), (fun _ => 0))
  | n + 1, v2_21, v3_21, x38_f_21 => m_k_X9_hasSmaller_21s pp rn rf ch cg c1 c2 c3 c4 obi sc a1 t_2 (fun v2_21 v3_21 x38_f_21 => m_k_X9_hasSmaller_21 pp rn rf ch cg c1 c2 c3 c4 obi sc a1 t_2 n v2_21 v3_21 x38_f_21) v2_21 v3_21 x38_f_21
theorem m_k_X9_hasSmaller_21_succ (pp : pT) (rn : Int32) (rf : Nat → Option Nat) (ch : Int32) (cg : Int32) (c1 : Nat → Int32) (c2 : Nat → Int32) (c3 : Nat → Int32) (c4 : Nat → Int32) (obi : Nat → Int32) (sc : Nat → Int32) (a1 : Int32) (t_2 : r_k_X9_listActive) (n : Nat) (v2_21 : Int32) (v3_21 : Int32) (x38_f_21 : Nat → Int32) : m_k_X9_hasSmaller_21 pp rn rf ch cg c1 c2 c3 c4 obi sc a1 t_2 (n + 1) v2_21 v3_21 x38_f_21 = m_k_X9_hasSmaller_21s pp rn rf ch cg c1 c2 c3 c4 obi sc a1 t_2 (m_k_X9_hasSmaller_21 pp rn rf ch cg c1 c2 c3 c4 obi sc a1 t_2 n) v2_21 v3_21 x38_f_21 := rfl
def m_k_X9_hasSmaller (pp : pT) (rn : Int32) (rf : Nat → Option Nat) (ch : Int32) (cg : Int32) (fb : Int32) (cn : Int32) (c1 : Nat → Int32) (c2 : Nat → Int32) (c3 : Nat → Int32) (c4 : Nat → Int32) (ac : Nat → Int32) (obi : Nat → Int32) (sc : Nat → Int32) (br : Nat → Int32) (a1 : Int32) : r_k_X9_hasSmaller :=
  lE (m_k_X9_listActive pp rn rf cg cn c1 c2 c3 c4 ac obi sc a1) (fun t_2 =>
    m_k_X9_hasSmaller_21 pp rn rf ch cg c1 c2 c3 c4 obi sc a1 t_2 wF 1 0 (upd br ((0 : Int32).toNatClampNeg) (a1 &&& fb)))
abbrev r_k_X9_doesFor : Type := Int32
def m_k_X9_doesFor_124 (rec_24 : Int32 → r_k_X9_doesFor) (v4_24 : Int32) : r_k_X9_doesFor :=
  rec_24 (v4_24 + 1)
def m_k_X9_doesFor_101 (c1 : Nat → Int32) (c2 : Nat → Int32) (c3 : Nat → Int32) (ac : Nat → Int32) (a1 : Int32) (rec_24 : Int32 → r_k_X9_doesFor) (t_17 : r_k_X9_countsHeld) (v4_24 : Int32) (s0_101 : Int32) : r_k_X9_doesFor :=
  if s0_101 = 0 then
    lE (m_k_X7_bodyHolds c1 c2 c3 (ac v4_24.toNatClampNeg) a1 t_17) (fun t_116 =>
      if t_116 = 0 then
        m_k_X9_doesFor_124 rec_24 v4_24
      else
        0)
  else
    m_k_X9_doesFor_124 rec_24 v4_24
def m_k_X9_doesFor_24s (an : Int32) (ch : Int32) (c1 : Nat → Int32) (c2 : Nat → Int32) (c3 : Nat → Int32) (c4 : Nat → Int32) (ac : Nat → Int32) (a1 : Int32) (a2 : Int32) (t_17 : r_k_X9_countsHeld) (rec_24 : Int32 → r_k_X9_doesFor) (v4_24 : Int32) : r_k_X9_doesFor :=
  if an ≤ v4_24 then
    1
  else
    if 300 ≤ v4_24 then
      1
    else
      lE (m_k_X7_headsAt c4 (ac v4_24.toNatClampNeg)) (fun t_56 =>
        lE (m_k_X9_isChoice ch c1 (ac v4_24.toNatClampNeg)) (fun t_66 =>
          if t_66 = 0 then
            if ((t_56 &&& a2) &&& a1) = 0 then
              m_k_X9_doesFor_101 c1 c2 c3 ac a1 rec_24 t_17 v4_24 0
            else
              m_k_X9_doesFor_101 c1 c2 c3 ac a1 rec_24 t_17 v4_24 1
          else
            if ((t_56 &&& a2) &&& (a1 ^^^ (-1))) = 0 then
              m_k_X9_doesFor_101 c1 c2 c3 ac a1 rec_24 t_17 v4_24 1
            else
              m_k_X9_doesFor_101 c1 c2 c3 ac a1 rec_24 t_17 v4_24 0))
def m_k_X9_doesFor_24 (an : Int32) (ch : Int32) (c1 : Nat → Int32) (c2 : Nat → Int32) (c3 : Nat → Int32) (c4 : Nat → Int32) (ac : Nat → Int32) (a1 : Int32) (a2 : Int32) (t_17 : r_k_X9_countsHeld) : Nat → Int32 → r_k_X9_doesFor
  | 0, _ => (0)
  | n + 1, v4_24 => m_k_X9_doesFor_24s an ch c1 c2 c3 c4 ac a1 a2 t_17 (fun v4_24 => m_k_X9_doesFor_24 an ch c1 c2 c3 c4 ac a1 a2 t_17 n v4_24) v4_24
theorem m_k_X9_doesFor_24_succ (an : Int32) (ch : Int32) (c1 : Nat → Int32) (c2 : Nat → Int32) (c3 : Nat → Int32) (c4 : Nat → Int32) (ac : Nat → Int32) (a1 : Int32) (a2 : Int32) (t_17 : r_k_X9_countsHeld) (n : Nat) (v4_24 : Int32) : m_k_X9_doesFor_24 an ch c1 c2 c3 c4 ac a1 a2 t_17 (n + 1) v4_24 = m_k_X9_doesFor_24s an ch c1 c2 c3 c4 ac a1 a2 t_17 (m_k_X9_doesFor_24 an ch c1 c2 c3 c4 ac a1 a2 t_17 n) v4_24 := rfl
def m_k_X9_doesFor (pp : pT) (rn : Int32) (rf : Nat → Option Nat) (an : Int32) (ch : Int32) (cg : Int32) (fb : Int32) (c1 : Nat → Int32) (c2 : Nat → Int32) (c3 : Nat → Int32) (c4 : Nat → Int32) (ac : Nat → Int32) (obi : Nat → Int32) (sc : Nat → Int32) (a1 : Int32) (a2 : Int32) : r_k_X9_doesFor :=
  if ((a2 &&& fb) &&& (a1 ^^^ (-1))) = 0 then
    lE (m_k_X9_countsHeld pp rn rf cg obi sc a1) (fun t_17 =>
      m_k_X9_doesFor_24 an ch c1 c2 c3 c4 ac a1 a2 t_17 wF 0)
  else
    0
abbrev r_k_X9_hasSmallerByAll : Type := Int32 × Int32 × (Nat → Int32)
def m_k_X9_hasSmallerByAll_31 (rec_7 : Int32 → r_k_X9_hasSmallerByAll) (v2_7 : Int32) : r_k_X9_hasSmallerByAll :=
  rec_7 (v2_7 + 1)
def m_k_X9_hasSmallerByAll_7s (pp : pT) (rn : Int32) (rf : Nat → Option Nat) (ch : Int32) (cg : Int32) (fb : Int32) (c1 : Nat → Int32) (c2 : Nat → Int32) (c3 : Nat → Int32) (c4 : Nat → Int32) (obi : Nat → Int32) (sc : Nat → Int32) (a1 : Int32) (t_2 : r_k_X9_listActive) (rec_7 : Int32 → r_k_X9_hasSmallerByAll) (v2_7 : Int32) : r_k_X9_hasSmallerByAll :=
  if a1 ≤ v2_7 then
    (0, t_2.1, t_2.2)
  else
    if (v2_7 &&& (a1 ^^^ (-1))) = 0 then
      lE (m_k_X9_doesFor pp rn rf t_2.1 ch cg fb c1 c2 c3 c4 t_2.2 obi sc v2_7 a1) (fun t_23 =>
        if t_23 = 0 then
          m_k_X9_hasSmallerByAll_31 rec_7 v2_7
        else
          (1, t_2.1, t_2.2))
    else
      m_k_X9_hasSmallerByAll_31 rec_7 v2_7
def m_k_X9_hasSmallerByAll_7 (pp : pT) (rn : Int32) (rf : Nat → Option Nat) (ch : Int32) (cg : Int32) (fb : Int32) (c1 : Nat → Int32) (c2 : Nat → Int32) (c3 : Nat → Int32) (c4 : Nat → Int32) (obi : Nat → Int32) (sc : Nat → Int32) (a1 : Int32) (t_2 : r_k_X9_listActive) : Nat → Int32 → r_k_X9_hasSmallerByAll
  | 0, _ => (0, 0, (fun _ => 0))
  | n + 1, v2_7 => m_k_X9_hasSmallerByAll_7s pp rn rf ch cg fb c1 c2 c3 c4 obi sc a1 t_2 (fun v2_7 => m_k_X9_hasSmallerByAll_7 pp rn rf ch cg fb c1 c2 c3 c4 obi sc a1 t_2 n v2_7) v2_7
theorem m_k_X9_hasSmallerByAll_7_succ (pp : pT) (rn : Int32) (rf : Nat → Option Nat) (ch : Int32) (cg : Int32) (fb : Int32) (c1 : Nat → Int32) (c2 : Nat → Int32) (c3 : Nat → Int32) (c4 : Nat → Int32) (obi : Nat → Int32) (sc : Nat → Int32) (a1 : Int32) (t_2 : r_k_X9_listActive) (n : Nat) (v2_7 : Int32) : m_k_X9_hasSmallerByAll_7 pp rn rf ch cg fb c1 c2 c3 c4 obi sc a1 t_2 (n + 1) v2_7 = m_k_X9_hasSmallerByAll_7s pp rn rf ch cg fb c1 c2 c3 c4 obi sc a1 t_2 (m_k_X9_hasSmallerByAll_7 pp rn rf ch cg fb c1 c2 c3 c4 obi sc a1 t_2 n) v2_7 := rfl
def m_k_X9_hasSmallerByAll (pp : pT) (rn : Int32) (rf : Nat → Option Nat) (ch : Int32) (cg : Int32) (fb : Int32) (cn : Int32) (c1 : Nat → Int32) (c2 : Nat → Int32) (c3 : Nat → Int32) (c4 : Nat → Int32) (ac : Nat → Int32) (obi : Nat → Int32) (sc : Nat → Int32) (a1 : Int32) : r_k_X9_hasSmallerByAll :=
  lE (m_k_X9_listActive pp rn rf cg cn c1 c2 c3 c4 ac obi sc a1) (fun t_2 =>
    m_k_X9_hasSmallerByAll_7 pp rn rf ch cg fb c1 c2 c3 c4 obi sc a1 t_2 wF 0)
abbrev r_k_X9_costOf : Type := Int64
def m_k_X9_costOf_80 (rec_12 : Int64 → Int32 → r_k_X9_costOf) (v6_12 : Int32) (v3_80 : Int64) : r_k_X9_costOf :=
  rec_12 v3_80 (v6_12 + 1)
def m_k_X9_costOf_12s (pp : pT) (rn : Int32) (rf : Nat → Option Nat) (wn : Int32) (w1 : Nat → Int32) (w2 : Nat → Int32) (w3 : Nat → Int32) (a1 : Int32) (a2 : Int32) (t_4 : r_k_X9_countsHeld) (rec_12 : Int64 → Int32 → r_k_X9_costOf) (v3_12 : Int64) (v6_12 : Int32) : r_k_X9_costOf :=
  if wn ≤ v6_12 then
    v3_12
  else
    lE (m_k_X7_ruleAt w1 v6_12) (fun t_34 =>
      lE (m_k_X6_ruleAt rn rf t_34) (fun t_37 =>
        oE (t_37) (
          m_k_X9_costOf_80 rec_12 v6_12 v3_12) (fun o_37 =>
          if (pI pp o_37 6) = a2 then
            lE (m_k_X7_bodyHolds w1 w2 w3 v6_12 a1 t_4) (fun t_65 =>
              if t_65 = 0 then
                m_k_X9_costOf_80 rec_12 v6_12 v3_12
              else
                m_k_X9_costOf_80 rec_12 v6_12 (v3_12 + ((pI pp o_37 5).toInt64)))
          else
            m_k_X9_costOf_80 rec_12 v6_12 v3_12)))
def m_k_X9_costOf_12 (pp : pT) (rn : Int32) (rf : Nat → Option Nat) (wn : Int32) (w1 : Nat → Int32) (w2 : Nat → Int32) (w3 : Nat → Int32) (a1 : Int32) (a2 : Int32) (t_4 : r_k_X9_countsHeld) : Nat → Int64 → Int32 → r_k_X9_costOf
  | 0, _, _ => (0)
  | n + 1, v3_12, v6_12 => m_k_X9_costOf_12s pp rn rf wn w1 w2 w3 a1 a2 t_4 (fun v3_12 v6_12 => m_k_X9_costOf_12 pp rn rf wn w1 w2 w3 a1 a2 t_4 n v3_12 v6_12) v3_12 v6_12
theorem m_k_X9_costOf_12_succ (pp : pT) (rn : Int32) (rf : Nat → Option Nat) (wn : Int32) (w1 : Nat → Int32) (w2 : Nat → Int32) (w3 : Nat → Int32) (a1 : Int32) (a2 : Int32) (t_4 : r_k_X9_countsHeld) (n : Nat) (v3_12 : Int64) (v6_12 : Int32) : m_k_X9_costOf_12 pp rn rf wn w1 w2 w3 a1 a2 t_4 (n + 1) v3_12 v6_12 = m_k_X9_costOf_12s pp rn rf wn w1 w2 w3 a1 a2 t_4 (m_k_X9_costOf_12 pp rn rf wn w1 w2 w3 a1 a2 t_4 n) v3_12 v6_12 := rfl
def m_k_X9_costOf (pp : pT) (rn : Int32) (rf : Nat → Option Nat) (cg : Int32) (wn : Int32) (w1 : Nat → Int32) (w2 : Nat → Int32) (w3 : Nat → Int32) (obi : Nat → Int32) (sc : Nat → Int32) (a1 : Int32) (a2 : Int32) : r_k_X9_costOf :=
  lE (m_k_X9_countsHeld pp rn rf cg obi sc a1) (fun t_4 =>
    m_k_X9_costOf_12 pp rn rf wn w1 w2 w3 a1 a2 t_4 wF 0 0)
abbrev r_k_X9_countByAll : Type := Int32 × Int32 × Int32 × (Nat → Int32)
def m_k_X9_countByAll_38 (rec_7 : Int32 → Int32 → Int32 → Int32 → (Nat → Int32) → r_k_X9_countByAll) (v2_7 : Int32) (v1_38 : Int32) (x20_15_38 : Int32) (x20_5_38 : Int32) (x35_f_38 : Nat → Int32) : r_k_X9_countByAll :=
  rec_7 v1_38 (v2_7 + (-1)) x20_15_38 x20_5_38 x35_f_38
def m_k_X9_countByAll_7s (pp : pT) (rn : Int32) (rf : Nat → Option Nat) (ch : Int32) (cg : Int32) (fb : Int32) (mh : Int32) (ml : Int32) (ih : Int32) (cn : Int32) (c1 : Nat → Int32) (c2 : Nat → Int32) (c3 : Nat → Int32) (c4 : Nat → Int32) (c5 : Nat → Int32) (c6 : Nat → Int32) (obi : Nat → Int32) (sc : Nat → Int32) (rec_7 : Int32 → Int32 → Int32 → Int32 → (Nat → Int32) → r_k_X9_countByAll) (v1_7 : Int32) (v2_7 : Int32) (x20_15_7 : Int32) (x20_5_7 : Int32) (x35_f_7 : Nat → Int32) : r_k_X9_countByAll :=
  if v2_7 < 0 then
    (v1_7, x20_15_7, x20_5_7, x35_f_7)
  else
    lE (m_k_X9_fits mh ml ih v2_7) (fun t_13 =>
      if t_13 = 0 then
        m_k_X9_countByAll_38 rec_7 v2_7 v1_7 x20_15_7 x20_5_7 x35_f_7
      else
        lE (m_k_X9_isModel pp rn rf cg x20_15_7 cn c1 c2 c3 c4 c5 c6 obi sc v2_7) (fun t_21 =>
          if t_21.1 = 0 then
            m_k_X9_countByAll_38 rec_7 v2_7 v1_7 t_21.2 x20_5_7 x35_f_7
          else
            lE (m_k_X9_hasSmallerByAll pp rn rf ch cg fb cn c1 c2 c3 c4 x35_f_7 obi sc v2_7) (fun t_29 =>
              if t_29.1 = 0 then
                m_k_X9_countByAll_38 rec_7 v2_7 (v1_7 + 1) t_21.2 t_29.2.1 t_29.2.2
              else
                m_k_X9_countByAll_38 rec_7 v2_7 v1_7 t_21.2 t_29.2.1 t_29.2.2)))
def m_k_X9_countByAll_7 (pp : pT) (rn : Int32) (rf : Nat → Option Nat) (ch : Int32) (cg : Int32) (fb : Int32) (mh : Int32) (ml : Int32) (ih : Int32) (cn : Int32) (c1 : Nat → Int32) (c2 : Nat → Int32) (c3 : Nat → Int32) (c4 : Nat → Int32) (c5 : Nat → Int32) (c6 : Nat → Int32) (obi : Nat → Int32) (sc : Nat → Int32) : Nat → Int32 → Int32 → Int32 → Int32 → (Nat → Int32) → r_k_X9_countByAll
  | 0, _, _, _, _, _ => (0, 0, 0, (fun _ => 0))
  | n + 1, v1_7, v2_7, x20_15_7, x20_5_7, x35_f_7 => m_k_X9_countByAll_7s pp rn rf ch cg fb mh ml ih cn c1 c2 c3 c4 c5 c6 obi sc (fun v1_7 v2_7 x20_15_7 x20_5_7 x35_f_7 => m_k_X9_countByAll_7 pp rn rf ch cg fb mh ml ih cn c1 c2 c3 c4 c5 c6 obi sc n v1_7 v2_7 x20_15_7 x20_5_7 x35_f_7) v1_7 v2_7 x20_15_7 x20_5_7 x35_f_7
theorem m_k_X9_countByAll_7_succ (pp : pT) (rn : Int32) (rf : Nat → Option Nat) (ch : Int32) (cg : Int32) (fb : Int32) (mh : Int32) (ml : Int32) (ih : Int32) (cn : Int32) (c1 : Nat → Int32) (c2 : Nat → Int32) (c3 : Nat → Int32) (c4 : Nat → Int32) (c5 : Nat → Int32) (c6 : Nat → Int32) (obi : Nat → Int32) (sc : Nat → Int32) (n : Nat) (v1_7 : Int32) (v2_7 : Int32) (x20_15_7 : Int32) (x20_5_7 : Int32) (x35_f_7 : Nat → Int32) : m_k_X9_countByAll_7 pp rn rf ch cg fb mh ml ih cn c1 c2 c3 c4 c5 c6 obi sc (n + 1) v1_7 v2_7 x20_15_7 x20_5_7 x35_f_7 = m_k_X9_countByAll_7s pp rn rf ch cg fb mh ml ih cn c1 c2 c3 c4 c5 c6 obi sc (m_k_X9_countByAll_7 pp rn rf ch cg fb mh ml ih cn c1 c2 c3 c4 c5 c6 obi sc n) v1_7 v2_7 x20_15_7 x20_5_7 x35_f_7 := rfl
def m_k_X9_countByAll (pp : pT) (rn : Int32) (rf : Nat → Option Nat) (on : Int32) (an : Int32) (ch : Int32) (cg : Int32) (fb : Int32) (mh : Int32) (ml : Int32) (ih : Int32) (lb : Int32) (cn : Int32) (c1 : Nat → Int32) (c2 : Nat → Int32) (c3 : Nat → Int32) (c4 : Nat → Int32) (c5 : Nat → Int32) (c6 : Nat → Int32) (ac : Nat → Int32) (obi : Nat → Int32) (sc : Nat → Int32) : r_k_X9_countByAll :=
  lE (m_k_X9_fullSet on) (fun t_3 =>
    m_k_X9_countByAll_7 pp rn rf ch cg fb mh ml ih cn c1 c2 c3 c4 c5 c6 obi sc wF 0 t_3 lb an ac)
abbrev r_k_X9_findAnswers : Type := Int32 × Int32 × Int32 × (Nat → Int32) × (Nat → Int32) × Int32 × (Nat → Int32) × (Nat → Int64)
def m_k_X9_findAnswers_66 (rec_10 : Int32 → Int32 → Int32 → (Nat → Int32) → (Nat → Int32) → Int32 → (Nat → Int32) → (Nat → Int64) → r_k_X9_findAnswers) (v2_10 : Int32) (x20_15_66 : Int32) (x20_5_66 : Int32) (x35_f_66 : Nat → Int32) (x38_f_66 : Nat → Int32) (x45_2_66 : Int32) (x46_f_66 : Nat → Int32) (x47_f_66 : Nat → Int64) : r_k_X9_findAnswers :=
  rec_10 (v2_10 + (-1)) x20_15_66 x20_5_66 x35_f_66 x38_f_66 x45_2_66 x46_f_66 x47_f_66
def m_k_X9_findAnswers_10s (pp : pT) (rn : Int32) (rf : Nat → Option Nat) (ch : Int32) (cg : Int32) (fb : Int32) (mh : Int32) (ml : Int32) (ih : Int32) (cn : Int32) (c1 : Nat → Int32) (c2 : Nat → Int32) (c3 : Nat → Int32) (c4 : Nat → Int32) (c5 : Nat → Int32) (c6 : Nat → Int32) (wn : Int32) (w1 : Nat → Int32) (w2 : Nat → Int32) (w3 : Nat → Int32) (obi : Nat → Int32) (sc : Nat → Int32) (rec_10 : Int32 → Int32 → Int32 → (Nat → Int32) → (Nat → Int32) → Int32 → (Nat → Int32) → (Nat → Int64) → r_k_X9_findAnswers) (v2_10 : Int32) (x20_15_10 : Int32) (x20_5_10 : Int32) (x35_f_10 : Nat → Int32) (x38_f_10 : Nat → Int32) (x45_2_10 : Int32) (x46_f_10 : Nat → Int32) (x47_f_10 : Nat → Int64) : r_k_X9_findAnswers :=
  if v2_10 < 0 then
    (1, x20_15_10, x20_5_10, x35_f_10, x38_f_10, x45_2_10, x46_f_10, x47_f_10)
  else
    lE (m_k_X9_fits mh ml ih v2_10) (fun t_16 =>
      if t_16 = 0 then
        m_k_X9_findAnswers_66 rec_10 v2_10 x20_15_10 x20_5_10 x35_f_10 x38_f_10 x45_2_10 x46_f_10 x47_f_10
      else
        lE (m_k_X9_isModel pp rn rf cg x20_15_10 cn c1 c2 c3 c4 c5 c6 obi sc v2_10) (fun t_24 =>
          if t_24.1 = 0 then
            m_k_X9_findAnswers_66 rec_10 v2_10 t_24.2 x20_5_10 x35_f_10 x38_f_10 x45_2_10 x46_f_10 x47_f_10
          else
            lE (m_k_X9_hasSmaller pp rn rf ch cg fb cn c1 c2 c3 c4 x35_f_10 obi sc x38_f_10 v2_10) (fun t_32 =>
              if t_32.1 = 0 then
                lE (m_k_X9_costOf pp rn rf cg wn w1 w2 w3 obi sc v2_10 1) (fun t_43 =>
                  lE (m_k_X9_costOf pp rn rf cg wn w1 w2 w3 obi sc v2_10 2) (fun t_49 =>
                    lE (m_k_X9_costOf pp rn rf cg wn w1 w2 w3 obi sc v2_10 3) (fun t_55 =>
                      lE (m_k_X0_insert x45_2_10 x46_f_10 x47_f_10 v2_10 t_43 t_49 t_55) (fun t_58 =>
                        if t_58.1 = 0 then
                          (0, t_24.2, t_32.2.1, t_32.2.2.1, t_32.2.2.2, t_58.2.1, t_58.2.2.1, t_58.2.2.2)
                        else
                          m_k_X9_findAnswers_66 rec_10 v2_10 t_24.2 t_32.2.1 t_32.2.2.1 t_32.2.2.2 t_58.2.1 t_58.2.2.1 t_58.2.2.2))))
              else
                m_k_X9_findAnswers_66 rec_10 v2_10 t_24.2 t_32.2.1 t_32.2.2.1 t_32.2.2.2 x45_2_10 x46_f_10 x47_f_10)))
def m_k_X9_findAnswers_10 (pp : pT) (rn : Int32) (rf : Nat → Option Nat) (ch : Int32) (cg : Int32) (fb : Int32) (mh : Int32) (ml : Int32) (ih : Int32) (cn : Int32) (c1 : Nat → Int32) (c2 : Nat → Int32) (c3 : Nat → Int32) (c4 : Nat → Int32) (c5 : Nat → Int32) (c6 : Nat → Int32) (wn : Int32) (w1 : Nat → Int32) (w2 : Nat → Int32) (w3 : Nat → Int32) (obi : Nat → Int32) (sc : Nat → Int32) : Nat → Int32 → Int32 → Int32 → (Nat → Int32) → (Nat → Int32) → Int32 → (Nat → Int32) → (Nat → Int64) → r_k_X9_findAnswers
  | 0, _, _, _, _, _, _, _, _ => (0, 0, 0, (fun _ => 0), (fun _ => 0), 0, (fun _ => 0), (fun _ => 0))
  | n + 1, v2_10, x20_15_10, x20_5_10, x35_f_10, x38_f_10, x45_2_10, x46_f_10, x47_f_10 => m_k_X9_findAnswers_10s pp rn rf ch cg fb mh ml ih cn c1 c2 c3 c4 c5 c6 wn w1 w2 w3 obi sc (fun v2_10 x20_15_10 x20_5_10 x35_f_10 x38_f_10 x45_2_10 x46_f_10 x47_f_10 => m_k_X9_findAnswers_10 pp rn rf ch cg fb mh ml ih cn c1 c2 c3 c4 c5 c6 wn w1 w2 w3 obi sc n v2_10 x20_15_10 x20_5_10 x35_f_10 x38_f_10 x45_2_10 x46_f_10 x47_f_10) v2_10 x20_15_10 x20_5_10 x35_f_10 x38_f_10 x45_2_10 x46_f_10 x47_f_10
theorem m_k_X9_findAnswers_10_succ (pp : pT) (rn : Int32) (rf : Nat → Option Nat) (ch : Int32) (cg : Int32) (fb : Int32) (mh : Int32) (ml : Int32) (ih : Int32) (cn : Int32) (c1 : Nat → Int32) (c2 : Nat → Int32) (c3 : Nat → Int32) (c4 : Nat → Int32) (c5 : Nat → Int32) (c6 : Nat → Int32) (wn : Int32) (w1 : Nat → Int32) (w2 : Nat → Int32) (w3 : Nat → Int32) (obi : Nat → Int32) (sc : Nat → Int32) (n : Nat) (v2_10 : Int32) (x20_15_10 : Int32) (x20_5_10 : Int32) (x35_f_10 : Nat → Int32) (x38_f_10 : Nat → Int32) (x45_2_10 : Int32) (x46_f_10 : Nat → Int32) (x47_f_10 : Nat → Int64) : m_k_X9_findAnswers_10 pp rn rf ch cg fb mh ml ih cn c1 c2 c3 c4 c5 c6 wn w1 w2 w3 obi sc (n + 1) v2_10 x20_15_10 x20_5_10 x35_f_10 x38_f_10 x45_2_10 x46_f_10 x47_f_10 = m_k_X9_findAnswers_10s pp rn rf ch cg fb mh ml ih cn c1 c2 c3 c4 c5 c6 wn w1 w2 w3 obi sc (m_k_X9_findAnswers_10 pp rn rf ch cg fb mh ml ih cn c1 c2 c3 c4 c5 c6 wn w1 w2 w3 obi sc n) v2_10 x20_15_10 x20_5_10 x35_f_10 x38_f_10 x45_2_10 x46_f_10 x47_f_10 := rfl
def m_k_X9_findAnswers (pp : pT) (rn : Int32) (rf : Nat → Option Nat) (on : Int32) (an : Int32) (ch : Int32) (cg : Int32) (fb : Int32) (mh : Int32) (ml : Int32) (ih : Int32) (lb : Int32) (cn : Int32) (c1 : Nat → Int32) (c2 : Nat → Int32) (c3 : Nat → Int32) (c4 : Nat → Int32) (c5 : Nat → Int32) (c6 : Nat → Int32) (wn : Int32) (w1 : Nat → Int32) (w2 : Nat → Int32) (w3 : Nat → Int32) (ac : Nat → Int32) (obi : Nat → Int32) (sc : Nat → Int32) (br : Nat → Int32) (se : Nat → Int32) (co : Nat → Int64) : r_k_X9_findAnswers :=
  lE (m_k_X9_fullSet on) (fun t_6 =>
    m_k_X9_findAnswers_10 pp rn rf ch cg fb mh ml ih cn c1 c2 c3 c4 c5 c6 wn w1 w2 w3 obi sc wF t_6 lb an ac br 0 se co)
abbrev r_k_X9_noteRules : Type := Int32 × Int32
def m_k_X9_noteRules_79 (rec_12 : Int32 → Int32 → Int32 → r_k_X9_noteRules) (v1_12 : Int32) (x20_10_79 : Int32) (x20_9_79 : Int32) : r_k_X9_noteRules :=
  rec_12 (v1_12 + 1) x20_10_79 x20_9_79
def m_k_X9_noteRules_60 (pp : pT) (o_28 : Nat) (rec_12 : Int32 → Int32 → Int32 → r_k_X9_noteRules) (v1_12 : Int32) (x20_10_12 : Int32) (x20_9_60 : Int32) : r_k_X9_noteRules :=
  lE (m_k_X8_hasCounts pp o_28) (fun t_61 =>
    if t_61 = 0 then
      m_k_X9_noteRules_79 rec_12 v1_12 x20_10_12 x20_9_60
    else
      m_k_X9_noteRules_79 rec_12 v1_12 (x20_10_12 ||| ((1 : Int32) <<< (v1_12 &&& 31))) x20_9_60)
def m_k_X9_noteRules_12s (pp : pT) (rn : Int32) (rf : Nat → Option Nat) (rec_12 : Int32 → Int32 → Int32 → r_k_X9_noteRules) (v1_12 : Int32) (x20_10_12 : Int32) (x20_9_12 : Int32) : r_k_X9_noteRules :=
  if rn ≤ v1_12 then
    (x20_10_12, x20_9_12)
  else
    lE (m_k_X6_ruleAt rn rf v1_12) (fun t_28 =>
      oE (t_28) (
        m_k_X9_noteRules_79 rec_12 v1_12 x20_10_12 x20_9_12) (fun o_28 =>
        if (pI pp o_28 0) = 99 then
          m_k_X9_noteRules_60 pp o_28 rec_12 v1_12 x20_10_12 (x20_9_12 ||| ((1 : Int32) <<< (v1_12 &&& 31)))
        else
          m_k_X9_noteRules_60 pp o_28 rec_12 v1_12 x20_10_12 x20_9_12))
def m_k_X9_noteRules_12 (pp : pT) (rn : Int32) (rf : Nat → Option Nat) : Nat → Int32 → Int32 → Int32 → r_k_X9_noteRules
  | 0, _, _, _ => (0, 0)
  | n + 1, v1_12, x20_10_12, x20_9_12 => m_k_X9_noteRules_12s pp rn rf (fun v1_12 x20_10_12 x20_9_12 => m_k_X9_noteRules_12 pp rn rf n v1_12 x20_10_12 x20_9_12) v1_12 x20_10_12 x20_9_12
theorem m_k_X9_noteRules_12_succ (pp : pT) (rn : Int32) (rf : Nat → Option Nat) (n : Nat) (v1_12 : Int32) (x20_10_12 : Int32) (x20_9_12 : Int32) : m_k_X9_noteRules_12 pp rn rf (n + 1) v1_12 x20_10_12 x20_9_12 = m_k_X9_noteRules_12s pp rn rf (m_k_X9_noteRules_12 pp rn rf n) v1_12 x20_10_12 x20_9_12 := rfl
def m_k_X9_noteRules (pp : pT) (rn : Int32) (rf : Nat → Option Nat) : r_k_X9_noteRules :=
  m_k_X9_noteRules_12 pp rn rf wF 0 0 0
abbrev r_k_X9_compileHeads : Type := (Nat → Int32) × Int32 × (Nat → Int32) × (Nat → Int32) × (Nat → Int32) × (Nat → Int32) × (Nat → Int32) × (Nat → Int32) × Int32 × Int32
def m_k_X9_compileHeads_64 (rec_18 : Int32 → Int32 → Int32 → r_k_X9_compileHeads) (t_40 : r_k_X9_bitOf) (v5_18 : Int32) (v6_18 : Int32) (v7_18 : Int32) (s0_64 : Int32) : r_k_X9_compileHeads :=
  rec_18 (v5_18 ||| t_40) (v6_18 + s0_64) (v7_18 + 1)
def m_k_X9_compileHeads_159 (cn : Int32) (c1 : Nat → Int32) (c2 : Nat → Int32) (c3 : Nat → Int32) (c4 : Nat → Int32) (c5 : Nat → Int32) (c6 : Nat → Int32) (a1 : Int32) (a2 : Int32) (a3 : Int32) (s0_115 : Int32) (s0_90 : Int32) (t_5 : r_k_X3_listHeads) (v5_18 : Int32) (v6_18 : Int32) (s0_159 : Int32) : r_k_X9_compileHeads :=
  if s0_159 = 0 then
    lE (m_k_X7_add cn c1 c2 c3 c4 c5 c6 a1 a2 a3) (fun t_174 =>
      lE (m_k_X7_boundLast t_174.1 t_174.2.2.2.2.1 t_174.2.2.2.2.2.1 t_174.2.2.2.2.2.2 v5_18 (s0_90 - v6_18) s0_115) (fun t_187 =>
        (t_5.2.1, t_174.1, t_174.2.1, t_174.2.2.1, t_174.2.2.2.1, t_187.1, t_187.2.1, t_187.2.2, t_5.2.2.1, t_5.2.2.2)))
  else
    (t_5.2.1, cn, c1, c2, c3, c4, c5, c6, t_5.2.2.1, t_5.2.2.2)
def m_k_X9_compileHeads_158 (cn : Int32) (c1 : Nat → Int32) (c2 : Nat → Int32) (c3 : Nat → Int32) (c4 : Nat → Int32) (c5 : Nat → Int32) (c6 : Nat → Int32) (a1 : Int32) (a2 : Int32) (a3 : Int32) (s0_115 : Int32) (s0_90 : Int32) (t_5 : r_k_X3_listHeads) (v5_18 : Int32) (v6_18 : Int32) : r_k_X9_compileHeads :=
  m_k_X9_compileHeads_159 cn c1 c2 c3 c4 c5 c6 a1 a2 a3 s0_115 s0_90 t_5 v5_18 v6_18 0
def m_k_X9_compileHeads_115 (pp : pT) (cn : Int32) (c1 : Nat → Int32) (c2 : Nat → Int32) (c3 : Nat → Int32) (c4 : Nat → Int32) (c5 : Nat → Int32) (c6 : Nat → Int32) (a0 : Nat) (a1 : Int32) (a2 : Int32) (a3 : Int32) (s0_90 : Int32) (t_5 : r_k_X3_listHeads) (v5_18 : Int32) (v6_18 : Int32) (s0_115 : Int32) : r_k_X9_compileHeads :=
  if (pI pp a0 0) = 100 then
    if v6_18 ≤ 0 then
      m_k_X9_compileHeads_159 cn c1 c2 c3 c4 c5 c6 a1 a2 a3 s0_115 s0_90 t_5 v5_18 v6_18 0
    else
      m_k_X9_compileHeads_159 cn c1 c2 c3 c4 c5 c6 a1 a2 a3 s0_115 s0_90 t_5 v5_18 v6_18 1
  else
    if v5_18 = 0 then
      if 0 < (s0_90 - v6_18) then
        m_k_X9_compileHeads_158 cn c1 c2 c3 c4 c5 c6 a1 a2 a3 s0_115 s0_90 t_5 v5_18 v6_18
      else
        if s0_115 < 0 then
          m_k_X9_compileHeads_158 cn c1 c2 c3 c4 c5 c6 a1 a2 a3 s0_115 s0_90 t_5 v5_18 v6_18
        else
          m_k_X9_compileHeads_159 cn c1 c2 c3 c4 c5 c6 a1 a2 a3 s0_115 s0_90 t_5 v5_18 v6_18 1
    else
      m_k_X9_compileHeads_158 cn c1 c2 c3 c4 c5 c6 a1 a2 a3 s0_115 s0_90 t_5 v5_18 v6_18
def m_k_X9_compileHeads_90 (pp : pT) (cn : Int32) (c1 : Nat → Int32) (c2 : Nat → Int32) (c3 : Nat → Int32) (c4 : Nat → Int32) (c5 : Nat → Int32) (c6 : Nat → Int32) (a0 : Nat) (a1 : Int32) (a2 : Int32) (a3 : Int32) (t_5 : r_k_X3_listHeads) (v5_18 : Int32) (v6_18 : Int32) (s0_90 : Int32) : r_k_X9_compileHeads :=
  if (pI pp a0 0) = 100 then
    m_k_X9_compileHeads_115 pp cn c1 c2 c3 c4 c5 c6 a0 a1 a2 a3 s0_90 t_5 v5_18 v6_18 2
  else
    m_k_X9_compileHeads_115 pp cn c1 c2 c3 c4 c5 c6 a0 a1 a2 a3 s0_90 t_5 v5_18 v6_18 ((pI pp a0 3) - v6_18)
def m_k_X9_compileHeads_18s (pp : pT) (on : Int32) (ob : Nat → Int32) (cn : Int32) (c1 : Nat → Int32) (c2 : Nat → Int32) (c3 : Nat → Int32) (c4 : Nat → Int32) (c5 : Nat → Int32) (c6 : Nat → Int32) (a0 : Nat) (a1 : Int32) (a2 : Int32) (a3 : Int32) (t_5 : r_k_X3_listHeads) (rec_18 : Int32 → Int32 → Int32 → r_k_X9_compileHeads) (v5_18 : Int32) (v6_18 : Int32) (v7_18 : Int32) : r_k_X9_compileHeads :=
  if t_5.2.2.1 ≤ v7_18 then
    if (pI pp a0 0) = 100 then
      m_k_X9_compileHeads_90 pp cn c1 c2 c3 c4 c5 c6 a0 a1 a2 a3 t_5 v5_18 v6_18 1
    else
      m_k_X9_compileHeads_90 pp cn c1 c2 c3 c4 c5 c6 a0 a1 a2 a3 t_5 v5_18 v6_18 (pI pp a0 2)
  else
    lE (m_k_X3_headAtomAt t_5.2.1 v7_18) (fun t_37 =>
      lE (m_k_X9_bitOf on ob t_37) (fun t_40 =>
        if t_40 = 0 then
          m_k_X9_compileHeads_64 rec_18 t_40 v5_18 v6_18 v7_18 1
        else
          m_k_X9_compileHeads_64 rec_18 t_40 v5_18 v6_18 v7_18 0))
def m_k_X9_compileHeads_18 (pp : pT) (on : Int32) (ob : Nat → Int32) (cn : Int32) (c1 : Nat → Int32) (c2 : Nat → Int32) (c3 : Nat → Int32) (c4 : Nat → Int32) (c5 : Nat → Int32) (c6 : Nat → Int32) (a0 : Nat) (a1 : Int32) (a2 : Int32) (a3 : Int32) (t_5 : r_k_X3_listHeads) : Nat → Int32 → Int32 → Int32 → r_k_X9_compileHeads
  | 0, _, _, _ => ((fun _ => 0), 0, (fun _ => 0), (fun _ => 0), (fun _ => 0), (fun _ => 0), (fun _ => 0), (fun _ => 0), 0, 0)
  | n + 1, v5_18, v6_18, v7_18 => m_k_X9_compileHeads_18s pp on ob cn c1 c2 c3 c4 c5 c6 a0 a1 a2 a3 t_5 (fun v5_18 v6_18 v7_18 => m_k_X9_compileHeads_18 pp on ob cn c1 c2 c3 c4 c5 c6 a0 a1 a2 a3 t_5 n v5_18 v6_18 v7_18) v5_18 v6_18 v7_18
theorem m_k_X9_compileHeads_18_succ (pp : pT) (on : Int32) (ob : Nat → Int32) (cn : Int32) (c1 : Nat → Int32) (c2 : Nat → Int32) (c3 : Nat → Int32) (c4 : Nat → Int32) (c5 : Nat → Int32) (c6 : Nat → Int32) (a0 : Nat) (a1 : Int32) (a2 : Int32) (a3 : Int32) (t_5 : r_k_X3_listHeads) (n : Nat) (v5_18 : Int32) (v6_18 : Int32) (v7_18 : Int32) : m_k_X9_compileHeads_18 pp on ob cn c1 c2 c3 c4 c5 c6 a0 a1 a2 a3 t_5 (n + 1) v5_18 v6_18 v7_18 = m_k_X9_compileHeads_18s pp on ob cn c1 c2 c3 c4 c5 c6 a0 a1 a2 a3 t_5 (m_k_X9_compileHeads_18 pp on ob cn c1 c2 c3 c4 c5 c6 a0 a1 a2 a3 t_5 n) v5_18 v6_18 v7_18 := rfl
def m_k_X9_compileHeads (pp : pT) (on : Int32) (b_1 : Int32) (b_2 : Int32) (b_3 : Int32) (b_p : Int32) (su : Nat → Int64) (hds : Nat → Int32) (ob : Nat → Int32) (cn : Int32) (c1 : Nat → Int32) (c2 : Nat → Int32) (c3 : Nat → Int32) (c4 : Nat → Int32) (c5 : Nat → Int32) (c6 : Nat → Int32) (a0 : Nat) (a1 : Int32) (a2 : Int32) (a3 : Int32) : r_k_X9_compileHeads :=
  lE (m_k_X3_listHeads pp b_1 b_2 b_3 b_p su hds a0) (fun t_5 =>
    m_k_X9_compileHeads_18 pp on ob cn c1 c2 c3 c4 c5 c6 a0 a1 a2 a3 t_5 wF 0 0 0)
abbrev r_k_X9_compileInstance : Type := (Nat → Int32) × Int32 × (Nat → Int32) × (Nat → Int32) × (Nat → Int32) × (Nat → Int32) × (Nat → Int32) × (Nat → Int32) × Int32 × (Nat → Int32) × (Nat → Int32) × (Nat → Int32) × (Nat → Int32) × (Nat → Int32) × (Nat → Int32) × Int32 × Int32 × Int32 × Int32 × Int32
def m_k_X9_compileInstance_112 (rec_22 : Int32 → Int32 → Int32 → r_k_X9_compileInstance) (v5_22 : Int32) (v3_112 : Int32) (v4_112 : Int32) : r_k_X9_compileInstance :=
  rec_22 v3_112 v4_112 (v5_22 + 1)
def m_k_X9_compileInstance_76 (rec_22 : Int32 → Int32 → Int32 → r_k_X9_compileInstance) (v3_22 : Int32) (v4_22 : Int32) (v5_22 : Int32) : r_k_X9_compileInstance :=
  m_k_X9_compileInstance_112 rec_22 v5_22 v3_22 v4_22
def m_k_X9_compileInstance_76a (pp : pT) (on : Int32) (ob : Nat → Int32) (o_34 : Nat) (rec_22 : Int32 → Int32 → Int32 → r_k_X9_compileInstance) (t_5 : r_k_X3_bindKept) (v3_22 : Int32) (v4_22 : Int32) (v5_22 : Int32) : r_k_X9_compileInstance :=
  if (pI pp o_34 0) = 102 then
    lE (m_k_X2_atomOf pp t_5.2.1 t_5.2.2.1 t_5.2.2.2.1 t_5.2.2.2.2 o_34) (fun t_103 =>
      lE (m_k_X9_bitOf on ob t_103) (fun t_106 =>
        m_k_X9_compileInstance_112 rec_22 v5_22 v3_22 (v4_22 ||| t_106)))
  else
    m_k_X9_compileInstance_112 rec_22 v5_22 v3_22 v4_22
def m_k_X9_compileInstance_22s (pp : pT) (hn : Int32) (on : Int32) (su : Nat → Int64) (hds : Nat → Int32) (kr : Nat → Int32) (ob : Nat → Int32) (cn : Int32) (c1 : Nat → Int32) (c2 : Nat → Int32) (c3 : Nat → Int32) (c4 : Nat → Int32) (c5 : Nat → Int32) (c6 : Nat → Int32) (wn : Int32) (w1 : Nat → Int32) (w2 : Nat → Int32) (w3 : Nat → Int32) (w4 : Nat → Int32) (w5 : Nat → Int32) (w6 : Nat → Int32) (a1 : Int32) (o_5 : Nat) (t_5 : r_k_X3_bindKept) (rec_22 : Int32 → Int32 → Int32 → r_k_X9_compileInstance) (v3_22 : Int32) (v4_22 : Int32) (v5_22 : Int32) : r_k_X9_compileInstance :=
  if (pI pp o_5 10) ≤ v5_22 then
    if (v3_22 &&& v4_22) = 0 then
      if (pI pp o_5 0) = 119 then
        lE (m_k_X3_keptRuleAt kr a1) (fun t_144 =>
          lE (m_k_X7_add wn w1 w2 w3 w4 w5 w6 t_144 v3_22 v4_22) (fun t_150 =>
            (hds, cn, c1, c2, c3, c4, c5, c6, t_150.1, t_150.2.1, t_150.2.2.1, t_150.2.2.2.1, t_150.2.2.2.2.1, t_150.2.2.2.2.2.1, t_150.2.2.2.2.2.2, hn, t_5.2.1, t_5.2.2.1, t_5.2.2.2.1, t_5.2.2.2.2)))
      else
        lE (m_k_X3_keptRuleAt kr a1) (fun t_163 =>
          lE (m_k_X9_compileHeads pp on t_5.2.1 t_5.2.2.1 t_5.2.2.2.1 t_5.2.2.2.2 su hds ob cn c1 c2 c3 c4 c5 c6 o_5 t_163 v3_22 v4_22) (fun t_169 =>
            (t_169.1, t_169.2.1, t_169.2.2.1, t_169.2.2.2.1, t_169.2.2.2.2.1, t_169.2.2.2.2.2.1, t_169.2.2.2.2.2.2.1, t_169.2.2.2.2.2.2.2.1, wn, w1, w2, w3, w4, w5, w6, t_169.2.2.2.2.2.2.2.2.1, t_5.2.1, t_5.2.2.1, t_169.2.2.2.2.2.2.2.2.2, t_5.2.2.2.2)))
    else
      (hds, cn, c1, c2, c3, c4, c5, c6, wn, w1, w2, w3, w4, w5, w6, hn, t_5.2.1, t_5.2.2.1, t_5.2.2.2.1, t_5.2.2.2.2)
  else
    lE (m_k_X8_conditionAt pp o_5 v5_22) (fun t_34 =>
      oE (t_34) (
        m_k_X9_compileInstance_76 rec_22 v3_22 v4_22 v5_22) (fun o_34 =>
        if (pI pp o_34 0) = 116 then
          lE (m_k_X2_atomOf pp t_5.2.1 t_5.2.2.1 t_5.2.2.2.1 t_5.2.2.2.2 o_34) (fun t_65 =>
            lE (m_k_X9_bitOf on ob t_65) (fun t_68 =>
              m_k_X9_compileInstance_112 rec_22 v5_22 (v3_22 ||| t_68) v4_22))
        else
          m_k_X9_compileInstance_76a pp on ob o_34 rec_22 t_5 v3_22 v4_22 v5_22))
def m_k_X9_compileInstance_22 (pp : pT) (hn : Int32) (on : Int32) (su : Nat → Int64) (hds : Nat → Int32) (kr : Nat → Int32) (ob : Nat → Int32) (cn : Int32) (c1 : Nat → Int32) (c2 : Nat → Int32) (c3 : Nat → Int32) (c4 : Nat → Int32) (c5 : Nat → Int32) (c6 : Nat → Int32) (wn : Int32) (w1 : Nat → Int32) (w2 : Nat → Int32) (w3 : Nat → Int32) (w4 : Nat → Int32) (w5 : Nat → Int32) (w6 : Nat → Int32) (a1 : Int32) (o_5 : Nat) (t_5 : r_k_X3_bindKept) : Nat → Int32 → Int32 → Int32 → r_k_X9_compileInstance
  | 0, _, _, _ => ((fun _ => 0), 0, (fun _ => 0), (fun _ => 0), (fun _ => 0), (fun _ => 0), (fun _ => 0), (fun _ => 0), 0, (fun _ => 0), (fun _ => 0), (fun _ => 0), (fun _ => 0), (fun _ => 0), (fun _ => 0), 0, 0, 0, 0, 0)
  | n + 1, v3_22, v4_22, v5_22 => m_k_X9_compileInstance_22s pp hn on su hds kr ob cn c1 c2 c3 c4 c5 c6 wn w1 w2 w3 w4 w5 w6 a1 o_5 t_5 (fun v3_22 v4_22 v5_22 => m_k_X9_compileInstance_22 pp hn on su hds kr ob cn c1 c2 c3 c4 c5 c6 wn w1 w2 w3 w4 w5 w6 a1 o_5 t_5 n v3_22 v4_22 v5_22) v3_22 v4_22 v5_22
theorem m_k_X9_compileInstance_22_succ (pp : pT) (hn : Int32) (on : Int32) (su : Nat → Int64) (hds : Nat → Int32) (kr : Nat → Int32) (ob : Nat → Int32) (cn : Int32) (c1 : Nat → Int32) (c2 : Nat → Int32) (c3 : Nat → Int32) (c4 : Nat → Int32) (c5 : Nat → Int32) (c6 : Nat → Int32) (wn : Int32) (w1 : Nat → Int32) (w2 : Nat → Int32) (w3 : Nat → Int32) (w4 : Nat → Int32) (w5 : Nat → Int32) (w6 : Nat → Int32) (a1 : Int32) (o_5 : Nat) (t_5 : r_k_X3_bindKept) (n : Nat) (v3_22 : Int32) (v4_22 : Int32) (v5_22 : Int32) : m_k_X9_compileInstance_22 pp hn on su hds kr ob cn c1 c2 c3 c4 c5 c6 wn w1 w2 w3 w4 w5 w6 a1 o_5 t_5 (n + 1) v3_22 v4_22 v5_22 = m_k_X9_compileInstance_22s pp hn on su hds kr ob cn c1 c2 c3 c4 c5 c6 wn w1 w2 w3 w4 w5 w6 a1 o_5 t_5 (m_k_X9_compileInstance_22 pp hn on su hds kr ob cn c1 c2 c3 c4 c5 c6 wn w1 w2 w3 w4 w5 w6 a1 o_5 t_5 n) v3_22 v4_22 v5_22 := rfl
def m_k_X9_compileInstance (pp : pT) (rn : Int32) (rf : Nat → Option Nat) (hn : Int32) (on : Int32) (b_1 : Int32) (b_2 : Int32) (b_3 : Int32) (b_p : Int32) (su : Nat → Int64) (hds : Nat → Int32) (kr : Nat → Int32) (kv : Nat → Int32) (ob : Nat → Int32) (cn : Int32) (c1 : Nat → Int32) (c2 : Nat → Int32) (c3 : Nat → Int32) (c4 : Nat → Int32) (c5 : Nat → Int32) (c6 : Nat → Int32) (wn : Int32) (w1 : Nat → Int32) (w2 : Nat → Int32) (w3 : Nat → Int32) (w4 : Nat → Int32) (w5 : Nat → Int32) (w6 : Nat → Int32) (a1 : Int32) : r_k_X9_compileInstance :=
  lE (m_k_X3_bindKept rn rf b_1 b_2 b_3 b_p kr kv a1) (fun t_5 =>
    oE (t_5.1) (
      (hds, cn, c1, c2, c3, c4, c5, c6, wn, w1, w2, w3, w4, w5, w6, hn, t_5.2.1, t_5.2.2.1, t_5.2.2.2.1, t_5.2.2.2.2)) (fun o_5 =>
      m_k_X9_compileInstance_22 pp hn on su hds kr ob cn c1 c2 c3 c4 c5 c6 wn w1 w2 w3 w4 w5 w6 a1 o_5 t_5 wF 0 0 0))
abbrev r_k_X9_compile : Type := (Nat → Int32) × Int32 × Int32 × Int32 × Int32 × Int32 × (Nat → Int32) × (Nat → Int32) × (Nat → Int32) × (Nat → Int32) × (Nat → Int32) × (Nat → Int32) × Int32 × (Nat → Int32) × (Nat → Int32) × (Nat → Int32) × (Nat → Int32) × (Nat → Int32) × (Nat → Int32) × (Nat → Int32) × (Nat → Int32) × Int32 × Int32 × Int32 × Int32 × Int32
def m_k_X9_compile_88 (rec_40 : Int32 → (Nat → Int32) → r_k_X9_compile) (v1_40 : Int32) (x36_f_88 : Nat → Int32) : r_k_X9_compile :=
  rec_40 (v1_40 + 1) x36_f_88
def m_k_X9_compile_146 (rec_101 : Int32 → Int32 → r_k_X9_compile) (v1_101 : Int32) (x20_11_146 : Int32) : r_k_X9_compile :=
  rec_101 (v1_101 + 1) x20_11_146
def m_k_X9_compile_174s (pp : pT) (rn : Int32) (rf : Nat → Option Nat) (kn : Int32) (on : Int32) (su : Nat → Int64) (kr : Nat → Int32) (kv : Nat → Int32) (ob : Nat → Int32) (t_153 : r_k_X9_noteRules) (x20_11_101 : Int32) (x36_f_40 : Nat → Int32) (x37_f_2 : Nat → Int32) (rec_174 : Int32 → (Nat → Int32) → Int32 → (Nat → Int32) → (Nat → Int32) → (Nat → Int32) → (Nat → Int32) → (Nat → Int32) → (Nat → Int32) → Int32 → (Nat → Int32) → (Nat → Int32) → (Nat → Int32) → (Nat → Int32) → (Nat → Int32) → (Nat → Int32) → Int32 → Int32 → Int32 → Int32 → Int32 → r_k_X9_compile) (v1_174 : Int32) (x14_f_174 : Nat → Int32) (x21_6_174 : Int32) (x22_f_174 : Nat → Int32) (x23_f_174 : Nat → Int32) (x24_f_174 : Nat → Int32) (x25_f_174 : Nat → Int32) (x26_f_174 : Nat → Int32) (x27_f_174 : Nat → Int32) (x28_6_174 : Int32) (x29_f_174 : Nat → Int32) (x30_f_174 : Nat → Int32) (x31_f_174 : Nat → Int32) (x32_f_174 : Nat → Int32) (x33_f_174 : Nat → Int32) (x34_f_174 : Nat → Int32) (x8_5_174 : Int32) (x9_0_174 : Int32) (x9_1_174 : Int32) (x9_2_174 : Int32) (x9_3_174 : Int32) : r_k_X9_compile :=
  if kn ≤ v1_174 then
    (x14_f_174, t_153.1, x20_11_101, 0, t_153.2, x21_6_174, x22_f_174, x23_f_174, x24_f_174, x25_f_174, x26_f_174, x27_f_174, x28_6_174, x29_f_174, x30_f_174, x31_f_174, x32_f_174, x33_f_174, x34_f_174, x36_f_40, x37_f_2, x8_5_174, x9_0_174, x9_1_174, x9_2_174, x9_3_174)
  else
    lE (m_k_X9_compileInstance pp rn rf x8_5_174 on x9_0_174 x9_1_174 x9_2_174 x9_3_174 su x14_f_174 kr kv ob x21_6_174 x22_f_174 x23_f_174 x24_f_174 x25_f_174 x26_f_174 x27_f_174 x28_6_174 x29_f_174 x30_f_174 x31_f_174 x32_f_174 x33_f_174 x34_f_174 v1_174) (fun t_187 =>
      rec_174 (v1_174 + 1) t_187.1 t_187.2.1 t_187.2.2.1 t_187.2.2.2.1 t_187.2.2.2.2.1 t_187.2.2.2.2.2.1 t_187.2.2.2.2.2.2.1 t_187.2.2.2.2.2.2.2.1 t_187.2.2.2.2.2.2.2.2.1 t_187.2.2.2.2.2.2.2.2.2.1 t_187.2.2.2.2.2.2.2.2.2.2.1 t_187.2.2.2.2.2.2.2.2.2.2.2.1 t_187.2.2.2.2.2.2.2.2.2.2.2.2.1 t_187.2.2.2.2.2.2.2.2.2.2.2.2.2.1 t_187.2.2.2.2.2.2.2.2.2.2.2.2.2.2.1 t_187.2.2.2.2.2.2.2.2.2.2.2.2.2.2.2.1 t_187.2.2.2.2.2.2.2.2.2.2.2.2.2.2.2.2.1 t_187.2.2.2.2.2.2.2.2.2.2.2.2.2.2.2.2.2.1 t_187.2.2.2.2.2.2.2.2.2.2.2.2.2.2.2.2.2.2.1 t_187.2.2.2.2.2.2.2.2.2.2.2.2.2.2.2.2.2.2.2)
def m_k_X9_compile_174 (pp : pT) (rn : Int32) (rf : Nat → Option Nat) (kn : Int32) (on : Int32) (su : Nat → Int64) (kr : Nat → Int32) (kv : Nat → Int32) (ob : Nat → Int32) (t_153 : r_k_X9_noteRules) (x20_11_101 : Int32) (x36_f_40 : Nat → Int32) (x37_f_2 : Nat → Int32) : Nat → Int32 → (Nat → Int32) → Int32 → (Nat → Int32) → (Nat → Int32) → (Nat → Int32) → (Nat → Int32) → (Nat → Int32) → (Nat → Int32) → Int32 → (Nat → Int32) → (Nat → Int32) → (Nat → Int32) → (Nat → Int32) → (Nat → Int32) → (Nat → Int32) → Int32 → Int32 → Int32 → Int32 → Int32 → r_k_X9_compile
  | 0, _, _, _, _, _, _, _, _, _, _, _, _, _, _, _, _, _, _, _, _, _ => ((fun _ => 0), 0, 0, 0, 0, 0, (fun _ => 0), (fun _ => 0), (fun _ => 0), (fun _ => 0), (fun _ => 0), (fun _ => 0), 0, (fun _ => 0), (fun _ => 0), (fun _ => 0), (fun _ => 0), (fun _ => 0), (fun _ => 0), (fun _ => 0), (fun _ => 0), 0, 0, 0, 0, 0)
  | n + 1, v1_174, x14_f_174, x21_6_174, x22_f_174, x23_f_174, x24_f_174, x25_f_174, x26_f_174, x27_f_174, x28_6_174, x29_f_174, x30_f_174, x31_f_174, x32_f_174, x33_f_174, x34_f_174, x8_5_174, x9_0_174, x9_1_174, x9_2_174, x9_3_174 => m_k_X9_compile_174s pp rn rf kn on su kr kv ob t_153 x20_11_101 x36_f_40 x37_f_2 (fun v1_174 x14_f_174 x21_6_174 x22_f_174 x23_f_174 x24_f_174 x25_f_174 x26_f_174 x27_f_174 x28_6_174 x29_f_174 x30_f_174 x31_f_174 x32_f_174 x33_f_174 x34_f_174 x8_5_174 x9_0_174 x9_1_174 x9_2_174 x9_3_174 => m_k_X9_compile_174 pp rn rf kn on su kr kv ob t_153 x20_11_101 x36_f_40 x37_f_2 n v1_174 x14_f_174 x21_6_174 x22_f_174 x23_f_174 x24_f_174 x25_f_174 x26_f_174 x27_f_174 x28_6_174 x29_f_174 x30_f_174 x31_f_174 x32_f_174 x33_f_174 x34_f_174 x8_5_174 x9_0_174 x9_1_174 x9_2_174 x9_3_174) v1_174 x14_f_174 x21_6_174 x22_f_174 x23_f_174 x24_f_174 x25_f_174 x26_f_174 x27_f_174 x28_6_174 x29_f_174 x30_f_174 x31_f_174 x32_f_174 x33_f_174 x34_f_174 x8_5_174 x9_0_174 x9_1_174 x9_2_174 x9_3_174
theorem m_k_X9_compile_174_succ (pp : pT) (rn : Int32) (rf : Nat → Option Nat) (kn : Int32) (on : Int32) (su : Nat → Int64) (kr : Nat → Int32) (kv : Nat → Int32) (ob : Nat → Int32) (t_153 : r_k_X9_noteRules) (x20_11_101 : Int32) (x36_f_40 : Nat → Int32) (x37_f_2 : Nat → Int32) (n : Nat) (v1_174 : Int32) (x14_f_174 : Nat → Int32) (x21_6_174 : Int32) (x22_f_174 : Nat → Int32) (x23_f_174 : Nat → Int32) (x24_f_174 : Nat → Int32) (x25_f_174 : Nat → Int32) (x26_f_174 : Nat → Int32) (x27_f_174 : Nat → Int32) (x28_6_174 : Int32) (x29_f_174 : Nat → Int32) (x30_f_174 : Nat → Int32) (x31_f_174 : Nat → Int32) (x32_f_174 : Nat → Int32) (x33_f_174 : Nat → Int32) (x34_f_174 : Nat → Int32) (x8_5_174 : Int32) (x9_0_174 : Int32) (x9_1_174 : Int32) (x9_2_174 : Int32) (x9_3_174 : Int32) : m_k_X9_compile_174 pp rn rf kn on su kr kv ob t_153 x20_11_101 x36_f_40 x37_f_2 (n + 1) v1_174 x14_f_174 x21_6_174 x22_f_174 x23_f_174 x24_f_174 x25_f_174 x26_f_174 x27_f_174 x28_6_174 x29_f_174 x30_f_174 x31_f_174 x32_f_174 x33_f_174 x34_f_174 x8_5_174 x9_0_174 x9_1_174 x9_2_174 x9_3_174 = m_k_X9_compile_174s pp rn rf kn on su kr kv ob t_153 x20_11_101 x36_f_40 x37_f_2 (m_k_X9_compile_174 pp rn rf kn on su kr kv ob t_153 x20_11_101 x36_f_40 x37_f_2 n) v1_174 x14_f_174 x21_6_174 x22_f_174 x23_f_174 x24_f_174 x25_f_174 x26_f_174 x27_f_174 x28_6_174 x29_f_174 x30_f_174 x31_f_174 x32_f_174 x33_f_174 x34_f_174 x8_5_174 x9_0_174 x9_1_174 x9_2_174 x9_3_174 := rfl
def m_k_X9_compile_101s (pp : pT) (rn : Int32) (en : Int32) (rf : Nat → Option Nat) (ea : Nat → Int32) (es : Nat → Int32) (hn : Int32) (kn : Int32) (on : Int32) (b_1 : Int32) (b_2 : Int32) (b_3 : Int32) (b_p : Int32) (su : Nat → Int64) (hds : Nat → Int32) (kr : Nat → Int32) (kv : Nat → Int32) (ob : Nat → Int32) (c1 : Nat → Int32) (c2 : Nat → Int32) (c3 : Nat → Int32) (c4 : Nat → Int32) (c5 : Nat → Int32) (c6 : Nat → Int32) (w1 : Nat → Int32) (w2 : Nat → Int32) (w3 : Nat → Int32) (w4 : Nat → Int32) (w5 : Nat → Int32) (w6 : Nat → Int32) (x36_f_40 : Nat → Int32) (x37_f_2 : Nat → Int32) (rec_101 : Int32 → Int32 → r_k_X9_compile) (v1_101 : Int32) (x20_11_101 : Int32) : r_k_X9_compile :=
  if en ≤ v1_101 then
    lE (m_k_X9_noteRules pp rn rf) (fun t_153 =>
      m_k_X9_compile_174 pp rn rf kn on su kr kv ob t_153 x20_11_101 x36_f_40 x37_f_2 wF 0 hds 0 c1 c2 c3 c4 c5 c6 0 w1 w2 w3 w4 w5 w6 hn b_1 b_2 b_3 b_p)
  else
    lE (m_k_X6_externalState en es v1_101) (fun t_117 =>
      if t_117 = 117 then
        lE (m_k_X6_externalAtom en ea v1_101) (fun t_136 =>
          lE (m_k_X9_bitOf on ob t_136) (fun t_139 =>
            m_k_X9_compile_146 rec_101 v1_101 (x20_11_101 ||| t_139)))
      else
        m_k_X9_compile_146 rec_101 v1_101 x20_11_101)
def m_k_X9_compile_101 (pp : pT) (rn : Int32) (en : Int32) (rf : Nat → Option Nat) (ea : Nat → Int32) (es : Nat → Int32) (hn : Int32) (kn : Int32) (on : Int32) (b_1 : Int32) (b_2 : Int32) (b_3 : Int32) (b_p : Int32) (su : Nat → Int64) (hds : Nat → Int32) (kr : Nat → Int32) (kv : Nat → Int32) (ob : Nat → Int32) (c1 : Nat → Int32) (c2 : Nat → Int32) (c3 : Nat → Int32) (c4 : Nat → Int32) (c5 : Nat → Int32) (c6 : Nat → Int32) (w1 : Nat → Int32) (w2 : Nat → Int32) (w3 : Nat → Int32) (w4 : Nat → Int32) (w5 : Nat → Int32) (w6 : Nat → Int32) (x36_f_40 : Nat → Int32) (x37_f_2 : Nat → Int32) : Nat → Int32 → Int32 → r_k_X9_compile
  | 0, _, _ => ((fun _ => 0), 0, 0, 0, 0, 0, (fun _ => 0), (fun _ => 0), (fun _ => 0), (fun _ => 0), (fun _ => 0), (fun _ => 0), 0, (fun _ => 0), (fun _ => 0), (fun _ => 0), (fun _ => 0), (fun _ => 0), (fun _ => 0), (fun _ => 0), (fun _ => 0), 0, 0, 0, 0, 0)
  | n + 1, v1_101, x20_11_101 => m_k_X9_compile_101s pp rn en rf ea es hn kn on b_1 b_2 b_3 b_p su hds kr kv ob c1 c2 c3 c4 c5 c6 w1 w2 w3 w4 w5 w6 x36_f_40 x37_f_2 (fun v1_101 x20_11_101 => m_k_X9_compile_101 pp rn en rf ea es hn kn on b_1 b_2 b_3 b_p su hds kr kv ob c1 c2 c3 c4 c5 c6 w1 w2 w3 w4 w5 w6 x36_f_40 x37_f_2 n v1_101 x20_11_101) v1_101 x20_11_101
theorem m_k_X9_compile_101_succ (pp : pT) (rn : Int32) (en : Int32) (rf : Nat → Option Nat) (ea : Nat → Int32) (es : Nat → Int32) (hn : Int32) (kn : Int32) (on : Int32) (b_1 : Int32) (b_2 : Int32) (b_3 : Int32) (b_p : Int32) (su : Nat → Int64) (hds : Nat → Int32) (kr : Nat → Int32) (kv : Nat → Int32) (ob : Nat → Int32) (c1 : Nat → Int32) (c2 : Nat → Int32) (c3 : Nat → Int32) (c4 : Nat → Int32) (c5 : Nat → Int32) (c6 : Nat → Int32) (w1 : Nat → Int32) (w2 : Nat → Int32) (w3 : Nat → Int32) (w4 : Nat → Int32) (w5 : Nat → Int32) (w6 : Nat → Int32) (x36_f_40 : Nat → Int32) (x37_f_2 : Nat → Int32) (n : Nat) (v1_101 : Int32) (x20_11_101 : Int32) : m_k_X9_compile_101 pp rn en rf ea es hn kn on b_1 b_2 b_3 b_p su hds kr kv ob c1 c2 c3 c4 c5 c6 w1 w2 w3 w4 w5 w6 x36_f_40 x37_f_2 (n + 1) v1_101 x20_11_101 = m_k_X9_compile_101s pp rn en rf ea es hn kn on b_1 b_2 b_3 b_p su hds kr kv ob c1 c2 c3 c4 c5 c6 w1 w2 w3 w4 w5 w6 x36_f_40 x37_f_2 (m_k_X9_compile_101 pp rn en rf ea es hn kn on b_1 b_2 b_3 b_p su hds kr kv ob c1 c2 c3 c4 c5 c6 w1 w2 w3 w4 w5 w6 x36_f_40 x37_f_2 n) v1_101 x20_11_101 := rfl
def m_k_X9_compile_40s (pp : pT) (rn : Int32) (en : Int32) (rf : Nat → Option Nat) (ea : Nat → Int32) (es : Nat → Int32) (hn : Int32) (kn : Int32) (on : Int32) (b_1 : Int32) (b_2 : Int32) (b_3 : Int32) (b_p : Int32) (su : Nat → Int64) (hds : Nat → Int32) (kr : Nat → Int32) (kv : Nat → Int32) (oa : Nat → Int32) (ob : Nat → Int32) (c1 : Nat → Int32) (c2 : Nat → Int32) (c3 : Nat → Int32) (c4 : Nat → Int32) (c5 : Nat → Int32) (c6 : Nat → Int32) (w1 : Nat → Int32) (w2 : Nat → Int32) (w3 : Nat → Int32) (w4 : Nat → Int32) (w5 : Nat → Int32) (w6 : Nat → Int32) (x37_f_2 : Nat → Int32) (rec_40 : Int32 → (Nat → Int32) → r_k_X9_compile) (v1_40 : Int32) (x36_f_40 : Nat → Int32) : r_k_X9_compile :=
  if on ≤ v1_40 then
    m_k_X9_compile_101 pp rn en rf ea es hn kn on b_1 b_2 b_3 b_p su hds kr kv ob c1 c2 c3 c4 c5 c6 w1 w2 w3 w4 w5 w6 x36_f_40 x37_f_2 wF 0 0
  else
    lE (m_k_X3_openAtomAt oa v1_40) (fun t_56 =>
      if t_56 < 0 then
        m_k_X9_compile_88 rec_40 v1_40 x36_f_40
      else
        if 384 ≤ t_56 then
          m_k_X9_compile_88 rec_40 v1_40 x36_f_40
        else
          lE (m_k_X9_bitOf on ob t_56) (fun t_83 =>
            m_k_X9_compile_88 rec_40 v1_40 (upd x36_f_40 ((t_56 / 64).toNatClampNeg) ((x36_f_40 (t_56 / 64).toNatClampNeg) ||| t_83))))
def m_k_X9_compile_40 (pp : pT) (rn : Int32) (en : Int32) (rf : Nat → Option Nat) (ea : Nat → Int32) (es : Nat → Int32) (hn : Int32) (kn : Int32) (on : Int32) (b_1 : Int32) (b_2 : Int32) (b_3 : Int32) (b_p : Int32) (su : Nat → Int64) (hds : Nat → Int32) (kr : Nat → Int32) (kv : Nat → Int32) (oa : Nat → Int32) (ob : Nat → Int32) (c1 : Nat → Int32) (c2 : Nat → Int32) (c3 : Nat → Int32) (c4 : Nat → Int32) (c5 : Nat → Int32) (c6 : Nat → Int32) (w1 : Nat → Int32) (w2 : Nat → Int32) (w3 : Nat → Int32) (w4 : Nat → Int32) (w5 : Nat → Int32) (w6 : Nat → Int32) (x37_f_2 : Nat → Int32) : Nat → Int32 → (Nat → Int32) → r_k_X9_compile
  | 0, _, _ => ((fun _ => 0), 0, 0, 0, 0, 0, (fun _ => 0), (fun _ => 0), (fun _ => 0), (fun _ => 0), (fun _ => 0), (fun _ => 0), 0, (fun _ => 0), (fun _ => 0), (fun _ => 0), (fun _ => 0), (fun _ => 0), (fun _ => 0), (fun _ => 0), (fun _ => 0), 0, 0, 0, 0, 0)
  | n + 1, v1_40, x36_f_40 => m_k_X9_compile_40s pp rn en rf ea es hn kn on b_1 b_2 b_3 b_p su hds kr kv oa ob c1 c2 c3 c4 c5 c6 w1 w2 w3 w4 w5 w6 x37_f_2 (fun v1_40 x36_f_40 => m_k_X9_compile_40 pp rn en rf ea es hn kn on b_1 b_2 b_3 b_p su hds kr kv oa ob c1 c2 c3 c4 c5 c6 w1 w2 w3 w4 w5 w6 x37_f_2 n v1_40 x36_f_40) v1_40 x36_f_40
theorem m_k_X9_compile_40_succ (pp : pT) (rn : Int32) (en : Int32) (rf : Nat → Option Nat) (ea : Nat → Int32) (es : Nat → Int32) (hn : Int32) (kn : Int32) (on : Int32) (b_1 : Int32) (b_2 : Int32) (b_3 : Int32) (b_p : Int32) (su : Nat → Int64) (hds : Nat → Int32) (kr : Nat → Int32) (kv : Nat → Int32) (oa : Nat → Int32) (ob : Nat → Int32) (c1 : Nat → Int32) (c2 : Nat → Int32) (c3 : Nat → Int32) (c4 : Nat → Int32) (c5 : Nat → Int32) (c6 : Nat → Int32) (w1 : Nat → Int32) (w2 : Nat → Int32) (w3 : Nat → Int32) (w4 : Nat → Int32) (w5 : Nat → Int32) (w6 : Nat → Int32) (x37_f_2 : Nat → Int32) (n : Nat) (v1_40 : Int32) (x36_f_40 : Nat → Int32) : m_k_X9_compile_40 pp rn en rf ea es hn kn on b_1 b_2 b_3 b_p su hds kr kv oa ob c1 c2 c3 c4 c5 c6 w1 w2 w3 w4 w5 w6 x37_f_2 (n + 1) v1_40 x36_f_40 = m_k_X9_compile_40s pp rn en rf ea es hn kn on b_1 b_2 b_3 b_p su hds kr kv oa ob c1 c2 c3 c4 c5 c6 w1 w2 w3 w4 w5 w6 x37_f_2 (m_k_X9_compile_40 pp rn en rf ea es hn kn on b_1 b_2 b_3 b_p su hds kr kv oa ob c1 c2 c3 c4 c5 c6 w1 w2 w3 w4 w5 w6 x37_f_2 n) v1_40 x36_f_40 := rfl
def m_k_X9_compile_2s (pp : pT) (rn : Int32) (en : Int32) (rf : Nat → Option Nat) (ea : Nat → Int32) (es : Nat → Int32) (hn : Int32) (kn : Int32) (on : Int32) (b_1 : Int32) (b_2 : Int32) (b_3 : Int32) (b_p : Int32) (su : Nat → Int64) (hds : Nat → Int32) (kr : Nat → Int32) (kv : Nat → Int32) (oa : Nat → Int32) (ob : Nat → Int32) (c1 : Nat → Int32) (c2 : Nat → Int32) (c3 : Nat → Int32) (c4 : Nat → Int32) (c5 : Nat → Int32) (c6 : Nat → Int32) (w1 : Nat → Int32) (w2 : Nat → Int32) (w3 : Nat → Int32) (w4 : Nat → Int32) (w5 : Nat → Int32) (w6 : Nat → Int32) (rec_2 : Int32 → (Nat → Int32) → (Nat → Int32) → r_k_X9_compile) (v1_2 : Int32) (x36_f_2 : Nat → Int32) (x37_f_2 : Nat → Int32) : r_k_X9_compile :=
  if 6 ≤ v1_2 then
    m_k_X9_compile_40 pp rn en rf ea es hn kn on b_1 b_2 b_3 b_p su hds kr kv oa ob c1 c2 c3 c4 c5 c6 w1 w2 w3 w4 w5 w6 x37_f_2 wF 0 x36_f_2
  else
    lE (m_k_X1_countOf su v1_2) (fun t_28 =>
      rec_2 (v1_2 + 1) (upd x36_f_2 v1_2.toNatClampNeg 0) (upd x37_f_2 v1_2.toNatClampNeg t_28))
def m_k_X9_compile_2 (pp : pT) (rn : Int32) (en : Int32) (rf : Nat → Option Nat) (ea : Nat → Int32) (es : Nat → Int32) (hn : Int32) (kn : Int32) (on : Int32) (b_1 : Int32) (b_2 : Int32) (b_3 : Int32) (b_p : Int32) (su : Nat → Int64) (hds : Nat → Int32) (kr : Nat → Int32) (kv : Nat → Int32) (oa : Nat → Int32) (ob : Nat → Int32) (c1 : Nat → Int32) (c2 : Nat → Int32) (c3 : Nat → Int32) (c4 : Nat → Int32) (c5 : Nat → Int32) (c6 : Nat → Int32) (w1 : Nat → Int32) (w2 : Nat → Int32) (w3 : Nat → Int32) (w4 : Nat → Int32) (w5 : Nat → Int32) (w6 : Nat → Int32) : Nat → Int32 → (Nat → Int32) → (Nat → Int32) → r_k_X9_compile
  | 0, _, _, _ => ((fun _ => 0), 0, 0, 0, 0, 0, (fun _ => 0), (fun _ => 0), (fun _ => 0), (fun _ => 0), (fun _ => 0), (fun _ => 0), 0, (fun _ => 0), (fun _ => 0), (fun _ => 0), (fun _ => 0), (fun _ => 0), (fun _ => 0), (fun _ => 0), (fun _ => 0), 0, 0, 0, 0, 0)
  | n + 1, v1_2, x36_f_2, x37_f_2 => m_k_X9_compile_2s pp rn en rf ea es hn kn on b_1 b_2 b_3 b_p su hds kr kv oa ob c1 c2 c3 c4 c5 c6 w1 w2 w3 w4 w5 w6 (fun v1_2 x36_f_2 x37_f_2 => m_k_X9_compile_2 pp rn en rf ea es hn kn on b_1 b_2 b_3 b_p su hds kr kv oa ob c1 c2 c3 c4 c5 c6 w1 w2 w3 w4 w5 w6 n v1_2 x36_f_2 x37_f_2) v1_2 x36_f_2 x37_f_2
theorem m_k_X9_compile_2_succ (pp : pT) (rn : Int32) (en : Int32) (rf : Nat → Option Nat) (ea : Nat → Int32) (es : Nat → Int32) (hn : Int32) (kn : Int32) (on : Int32) (b_1 : Int32) (b_2 : Int32) (b_3 : Int32) (b_p : Int32) (su : Nat → Int64) (hds : Nat → Int32) (kr : Nat → Int32) (kv : Nat → Int32) (oa : Nat → Int32) (ob : Nat → Int32) (c1 : Nat → Int32) (c2 : Nat → Int32) (c3 : Nat → Int32) (c4 : Nat → Int32) (c5 : Nat → Int32) (c6 : Nat → Int32) (w1 : Nat → Int32) (w2 : Nat → Int32) (w3 : Nat → Int32) (w4 : Nat → Int32) (w5 : Nat → Int32) (w6 : Nat → Int32) (n : Nat) (v1_2 : Int32) (x36_f_2 : Nat → Int32) (x37_f_2 : Nat → Int32) : m_k_X9_compile_2 pp rn en rf ea es hn kn on b_1 b_2 b_3 b_p su hds kr kv oa ob c1 c2 c3 c4 c5 c6 w1 w2 w3 w4 w5 w6 (n + 1) v1_2 x36_f_2 x37_f_2 = m_k_X9_compile_2s pp rn en rf ea es hn kn on b_1 b_2 b_3 b_p su hds kr kv oa ob c1 c2 c3 c4 c5 c6 w1 w2 w3 w4 w5 w6 (m_k_X9_compile_2 pp rn en rf ea es hn kn on b_1 b_2 b_3 b_p su hds kr kv oa ob c1 c2 c3 c4 c5 c6 w1 w2 w3 w4 w5 w6 n) v1_2 x36_f_2 x37_f_2 := rfl
def m_k_X9_compile (pp : pT) (rn : Int32) (en : Int32) (rf : Nat → Option Nat) (ea : Nat → Int32) (es : Nat → Int32) (hn : Int32) (kn : Int32) (on : Int32) (b_1 : Int32) (b_2 : Int32) (b_3 : Int32) (b_p : Int32) (su : Nat → Int64) (hds : Nat → Int32) (kr : Nat → Int32) (kv : Nat → Int32) (oa : Nat → Int32) (ob : Nat → Int32) (c1 : Nat → Int32) (c2 : Nat → Int32) (c3 : Nat → Int32) (c4 : Nat → Int32) (c5 : Nat → Int32) (c6 : Nat → Int32) (w1 : Nat → Int32) (w2 : Nat → Int32) (w3 : Nat → Int32) (w4 : Nat → Int32) (w5 : Nat → Int32) (w6 : Nat → Int32) (obi : Nat → Int32) (sc : Nat → Int32) : r_k_X9_compile :=
  m_k_X9_compile_2 pp rn en rf ea es hn kn on b_1 b_2 b_3 b_p su hds kr kv oa ob c1 c2 c3 c4 c5 c6 w1 w2 w3 w4 w5 w6 wF 0 obi sc
abbrev r_k_X9_fitAssumptions : Type := Int32 × Int32 × Int32
def m_k_X9_fitAssumptions_128 (rec_17 : Int32 → Int32 → Int32 → Int32 → r_k_X9_fitAssumptions) (v3_17 : Int32) (x20_12_76 : Int32) (x20_13_128 : Int32) (x20_14_128 : Int32) : r_k_X9_fitAssumptions :=
  rec_17 (v3_17 + 1) x20_12_76 x20_13_128 x20_14_128
def m_k_X9_fitAssumptions_125 (rec_17 : Int32 → Int32 → Int32 → Int32 → r_k_X9_fitAssumptions) (t_91 : r_k_X9_bitOf) (v3_17 : Int32) (x20_12_76 : Int32) (x20_13_17 : Int32) (s0_125 : Int32) : r_k_X9_fitAssumptions :=
  m_k_X9_fitAssumptions_128 rec_17 v3_17 x20_12_76 (x20_13_17 ||| t_91) s0_125
def m_k_X9_fitAssumptions_120 (rec_17 : Int32 → Int32 → Int32 → Int32 → r_k_X9_fitAssumptions) (t_91 : r_k_X9_bitOf) (v3_17 : Int32) (x20_12_76 : Int32) (x20_13_17 : Int32) : r_k_X9_fitAssumptions :=
  m_k_X9_fitAssumptions_125 rec_17 t_91 v3_17 x20_12_76 x20_13_17 1
def m_k_X9_fitAssumptions_76 (on : Int32) (su : Nat → Int64) (ob : Nat → Int32) (ao : Nat → Int64) (rec_17 : Int32 → Int32 → Int32 → Int32 → r_k_X9_fitAssumptions) (v3_17 : Int32) (x20_13_17 : Int32) (x20_12_76 : Int32) (x20_14_76 : Int32) : r_k_X9_fitAssumptions :=
  lE (m_k_X1_contains ao v3_17) (fun t_78 =>
    if t_78 = 0 then
      m_k_X9_fitAssumptions_128 rec_17 v3_17 x20_12_76 x20_13_17 x20_14_76
    else
      lE (m_k_X9_bitOf on ob v3_17) (fun t_91 =>
        if x20_14_76 = 0 then
          lE (m_k_X1_contains su v3_17) (fun t_114 =>
            if t_114 = 0 then
              m_k_X9_fitAssumptions_125 rec_17 t_91 v3_17 x20_12_76 x20_13_17 0
            else
              m_k_X9_fitAssumptions_120 rec_17 t_91 v3_17 x20_12_76 x20_13_17)
        else
          m_k_X9_fitAssumptions_120 rec_17 t_91 v3_17 x20_12_76 x20_13_17))
