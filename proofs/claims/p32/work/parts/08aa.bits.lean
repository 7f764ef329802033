/-! the pure argument, 1: bits of ints (bt and its rows: the kit's), sets of at most six atoms -/
def bt (x : Int32) (i : Nat) : Bool := x.toBitVec.getLsbD i
theorem b_ext {x y : Int32} (h : ∀ i, i < 32 → bt x i = bt y i) : x = y := Int32.toBitVec_inj.mp (BitVec.eq_of_getLsbD_eq (fun i hi => h i hi))
theorem b_or (x y : Int32) (i : Nat) : bt (x ||| y) i = (bt x i || bt y i) := by unfold bt; rw [Int32.toBitVec_or, BitVec.getLsbD_or]
theorem b_and (x y : Int32) (i : Nat) : bt (x &&& y) i = (bt x i && bt y i) := by unfold bt; rw [Int32.toBitVec_and, BitVec.getLsbD_and]
theorem b_xor (x y : Int32) (i : Nat) : bt (x ^^^ y) i = (bt x i ^^ bt y i) := by unfold bt; rw [Int32.toBitVec_xor, BitVec.getLsbD_xor]
theorem b_big {x : Int32} {i : Nat} (h : 32 ≤ i) : bt x i = false := BitVec.getLsbD_of_ge _ _ h
theorem b_255 (i : Nat) : bt 255 i = decide (i < 8) := by
  rcases Nat.lt_or_ge i 32 with h | h
  · exact (by decide +kernel : ∀ i, i < 32 → bt 255 i = decide (i < 8)) i h
  · rw [b_big h, decide_eq_false (by omega)]
theorem b_65535 (i : Nat) : bt 65535 i = decide (i < 16) := by
  rcases Nat.lt_or_ge i 32 with h | h
  · exact (by decide +kernel : ∀ i, i < 32 → bt 65535 i = decide (i < 16)) i h
  · rw [b_big h, decide_eq_false (by omega)]
theorem b_m1 : ∀ i, i < 32 → bt (-1) i = true := by decide +kernel
theorem b_0 (i : Nat) : bt 0 i = false := BitVec.getLsbD_zero
theorem s_l : ∀ n, n < 32 → ((nI n &&& 31).toBitVec.smod 32).toNat = n := by decide +kernel
theorem s_u : ∀ n, n < 32 → (((nI n).toUInt32 &&& Int32.toUInt32 31).toBitVec % 32).toNat = n := by decide +kernel
theorem b_shl (n : Nat) (hn : n < 32) (x : Int32) {i : Nat} (hi : i < 32) : bt (x <<< (nI n &&& 31)) i = (decide (n ≤ i) && bt x (i - n)) := by
  unfold bt
  rw [Int32.toBitVec_shiftLeft]
  show (x.toBitVec <<< ((nI n &&& 31).toBitVec.smod 32).toNat).getLsbD i = _
  rw [s_l n hn, BitVec.getLsbD_shiftLeft]
  rcases Nat.lt_or_ge i n with h | h
  · simp [h, Nat.not_le.mpr h]
  · simp [hi, h, Nat.not_lt.mpr h]
theorem b_ushr (n : Nat) (hn : n < 32) (x : Int32) (i : Nat) : bt ((x.toUInt32 >>> ((nI n).toUInt32 &&& Int32.toUInt32 31)).toInt32) i = bt x (n + i) := by
  show (x.toUInt32 >>> ((nI n).toUInt32 &&& Int32.toUInt32 31)).toBitVec.getLsbD i = x.toUInt32.toBitVec.getLsbD (n + i)
  rw [UInt32.toBitVec_shiftRight]
  show (x.toUInt32.toBitVec >>> (((nI n).toUInt32 &&& Int32.toUInt32 31).toBitVec % 32).toNat).getLsbD i = _
  rw [s_u n hn, BitVec.getLsbD_ushiftRight]
theorem b_sshr (n : Nat) (hn : n < 32) (x : Int32) {i : Nat} (hi : i < 32) : bt (x >>> (nI n &&& 31)) i = if n + i < 32 then bt x (n + i) else bt x 31 := by
  unfold bt
  rw [Int32.toBitVec_shiftRight]
  show (x.toBitVec.sshiftRight ((nI n &&& 31).toBitVec.smod 32).toNat).getLsbD i = _
  rw [s_l n hn, BitVec.getLsbD_sshiftRight, BitVec.msb_eq_getLsbD_last]
  simp [hi]
theorem b_shl8 (x : Int32) {i : Nat} (hi : i < 32) : bt (x <<< ((8 : Int32) &&& 31)) i = (decide (8 ≤ i) && bt x (i - 8)) := b_shl 8 (by omega) x hi
theorem b_shl16 (x : Int32) {i : Nat} (hi : i < 32) : bt (x <<< ((16 : Int32) &&& 31)) i = (decide (16 ≤ i) && bt x (i - 16)) := b_shl 16 (by omega) x hi
theorem b_shl24 (x : Int32) {i : Nat} (hi : i < 32) : bt (x <<< ((24 : Int32) &&& 31)) i = (decide (24 ≤ i) && bt x (i - 24)) := b_shl 24 (by omega) x hi
theorem b_sshr8 (x : Int32) {i : Nat} (hi : i < 32) : bt (x >>> ((8 : Int32) &&& 31)) i = if 8 + i < 32 then bt x (8 + i) else bt x 31 := b_sshr 8 (by omega) x hi
theorem b_not (x : Int32) {i : Nat} (hi : i < 32) : bt (x ^^^ (-1)) i = !bt x i := by
  rw [b_xor, b_m1 i hi]
  cases bt x i <;> rfl
theorem b_one : ∀ k, k < 32 → ∀ i, i < 32 → bt ((1 : Int32) <<< (nI k &&& 31)) i = decide (i = k) := by decide +kernel
theorem b_one' {k : Nat} (hk : k < 32) (i : Nat) : bt ((1 : Int32) <<< (nI k &&& 31)) i = decide (i = k) := by
  by_cases hi : i < 32
  · exact b_one k hk i hi
  · rw [b_big (Nat.not_lt.mp hi)]
    exact (decide_eq_false (by omega)).symm
/-- x's bits are among y's -/
theorem b_sub {x y : Int32} : x &&& y = y ↔ ∀ i, bt y i = true → bt x i = true := by
  constructor
  · intro h i hy
    have h1 : bt (x &&& y) i = bt y i := by rw [h]
    rw [b_and, hy] at h1
    simpa using h1
  · intro h
    apply b_ext
    intro i _
    rw [b_and]
    cases hy : bt y i with
    | false => simp
    | true => rw [h i hy]; rfl
theorem b_dis {x y : Int32} : x &&& y = 0 ↔ ∀ i, bt y i = true → bt x i = false := by
  constructor
  · intro h i hy
    have h1 : bt (x &&& y) i = bt 0 i := by rw [h]
    rw [b_and, b_0, hy] at h1
    simpa using h1
  · intro h
    apply b_ext
    intro i _
    rw [b_and, b_0]
    cases hy : bt y i with
    | false => simp
    | true => rw [h i hy]; rfl
theorem b_ne {x : Int32} (h : ¬ x = 0) : ∃ i, i < 32 ∧ bt x i = true := by
  by_cases h1 : ∃ i, i < 32 ∧ bt x i = true
  · exact h1
  · refine absurd (b_ext fun i hi => ?_) h
    rw [b_0]
    cases hb : bt x i with
    | false => rfl
    | true => exact absurd ⟨i, hi, hb⟩ h1
/-- a set of the first six -/
def sm (x : Int32) : Prop := ∀ i, 6 ≤ i → bt x i = false
theorem sm_lt {x : Int32} (h : sm x) {p : Nat} (hp : bt x p = true) : p < 6 := by
  by_cases g : p < 6
  · exact g
  · rw [h p (by omega)] at hp
    cases hp
def mk6 (f : Nat → Bool) : Int32 := nI ((f 0).toNat + 2 * (f 1).toNat + 4 * (f 2).toNat + 8 * (f 3).toNat + 16 * (f 4).toNat + 32 * (f 5).toNat)
theorem mk6_dec : ∀ b0 b1 b2 b3 b4 b5 : Bool, ∀ i, i < 32 → bt (nI (b0.toNat + 2 * b1.toNat + 4 * b2.toNat + 8 * b3.toNat + 16 * b4.toNat + 32 * b5.toNat)) i = ((decide (i = 0) && b0) || (decide (i = 1) && b1) || (decide (i = 2) && b2) || (decide (i = 3) && b3) || (decide (i = 4) && b4) || (decide (i = 5) && b5)) := by decide +kernel
theorem mk6_b (f : Nat → Bool) (i : Nat) : bt (mk6 f) i = (decide (i < 6) && f i) := by
  by_cases hi : i < 32
  · rw [mk6, mk6_dec _ _ _ _ _ _ i hi]
    rcases (show i = 0 ∨ i = 1 ∨ i = 2 ∨ i = 3 ∨ i = 4 ∨ i = 5 ∨ 6 ≤ i by omega) with rfl | rfl | rfl | rfl | rfl | rfl | h
    · simp
    · simp
    · simp
    · simp
    · simp
    · simp
    · rw [decide_eq_false (by omega : ¬ i = 0), decide_eq_false (by omega : ¬ i = 1), decide_eq_false (by omega : ¬ i = 2), decide_eq_false (by omega : ¬ i = 3), decide_eq_false (by omega : ¬ i = 4), decide_eq_false (by omega : ¬ i = 5), decide_eq_false (by omega : ¬ i < 6)]
      rfl
  · rw [b_big (Nat.not_lt.mp hi), decide_eq_false (by omega : ¬ i < 6)]
    rfl
theorem mk6_sm (f : Nat → Bool) : sm (mk6 f) := fun i hi => by rw [mk6_b, decide_eq_false (by omega)]; rfl
theorem mk6_self {x : Int32} (h : sm x) : mk6 (bt x) = x := b_ext fun i _ => by
  rw [mk6_b]
  by_cases hi : i < 6
  · rw [decide_eq_true hi]; rfl
  · rw [decide_eq_false hi, h i (by omega)]; rfl
theorem mk6_cong {f g : Nat → Bool} (h : ∀ i, i < 6 → f i = g i) : mk6 f = mk6 g := b_ext fun i _ => by
  rw [mk6_b, mk6_b]
  by_cases hi : i < 6
  · rw [h i hi]
  · rw [decide_eq_false hi]; rfl
/-- how many of the first six -/
def cn (f : Nat → Bool) : Nat := (f 0).toNat + (f 1).toNat + (f 2).toNat + (f 3).toNat + (f 4).toNat + (f 5).toNat
theorem cn_dec : ∀ b0 b1 b2 b3 b4 b5 : Bool, m_k_J6_bitCount_0f7a4 (nI (b0.toNat + 2 * b1.toNat + 4 * b2.toNat + 8 * b3.toNat + 16 * b4.toNat + 32 * b5.toNat)) = nI (b0.toNat + b1.toNat + b2.toNat + b3.toNat + b4.toNat + b5.toNat) := by decide +kernel
theorem cn_mk6 (f : Nat → Bool) : m_k_J6_bitCount_0f7a4 (mk6 f) = nI (cn f) := cn_dec _ _ _ _ _ _
theorem cn_bc {x : Int32} (h : sm x) : m_k_J6_bitCount_0f7a4 x = nI (cn (bt x)) := by
  have h1 := cn_mk6 (bt x)
  rwa [mk6_self h] at h1
theorem cn_le (f : Nat → Bool) : cn f ≤ 6 := by
  unfold cn
  have h0 := Bool.toNat_le (f 0)
  have h1 := Bool.toNat_le (f 1)
  have h2 := Bool.toNat_le (f 2)
  have h3 := Bool.toNat_le (f 3)
  have h4 := Bool.toNat_le (f 4)
  have h5 := Bool.toNat_le (f 5)
  omega
theorem cn_cong {f g : Nat → Bool} (h : ∀ i, i < 6 → f i = g i) : cn f = cn g := by
  unfold cn
  rw [h 0 (by omega), h 1 (by omega), h 2 (by omega), h 3 (by omega), h 4 (by omega), h 5 (by omega)]
theorem cn_pos {f : Nat → Bool} : 0 < cn f ↔ ∃ i, i < 6 ∧ f i = true := by
  constructor
  · intro h
    by_cases h1 : ∃ i, i < 6 ∧ f i = true
    · exact h1
    · have h2 : ∀ i, i < 6 → f i = false := fun i hi => by
        cases hb : f i with
        | false => rfl
        | true => exact absurd ⟨i, hi, hb⟩ h1
      rw [cn_cong h2] at h
      exact absurd h (by decide)
  · rintro ⟨i, hi, h⟩
    unfold cn
    rcases (show i = 0 ∨ i = 1 ∨ i = 2 ∨ i = 3 ∨ i = 4 ∨ i = 5 by omega) with rfl | rfl | rfl | rfl | rfl | rfl <;> rw [h] <;> simp only [Bool.toNat_true] <;> omega
theorem kI_ti {k : Nat} (h : k < 2147483648) : (nI k).toInt = (k : Int) := Int32.toInt_ofNat_of_lt (by omega)
theorem kI_nat {k : Nat} (h : k < 2147483648) : (nI k).toNatClampNeg = k := by
  show (nI k).toInt.toNat = k
  rw [kI_ti h]
  rfl
theorem kI_of {x : Int32} (h : 0 ≤ x.toInt) : x = nI x.toInt.toNat := by
  have h1 := wi_rng x
  apply Int32.toInt_inj.mp
  rw [kI_ti (by omega)]
  omega
theorem kI_le {a b : Nat} (ha : a < 2147483648) (hb : b < 2147483648) : nI a ≤ nI b ↔ a ≤ b := by
  rw [Int32.le_iff_toInt_le, kI_ti ha, kI_ti hb]
  omega
theorem kI_lt {a b : Nat} (ha : a < 2147483648) (hb : b < 2147483648) : nI a < nI b ↔ a < b := by
  rw [Int32.lt_iff_toInt_lt, kI_ti ha, kI_ti hb]
  omega
theorem kI_eq {a b : Nat} (ha : a < 2147483648) (hb : b < 2147483648) : nI a = nI b ↔ a = b := by
  rw [← Int32.toInt_inj, kI_ti ha, kI_ti hb]
  omega

theorem kI_s (k : Nat) : nI k + 1 = nI (k + 1) := nI_1 k
theorem kL_ti {k : Nat} (h : k < 9223372036854775808) : (lN k).toInt = (k : Int) := Int64.toInt_ofNat_of_lt (by omega)
theorem nle {a b : Nat} (h : b < a) (ha : a < 2147483648) : ¬ nI a ≤ nI b := by
  rw [kI_le ha (by omega)]
  omega
/-- enough fuel is as good as more -/
theorem wF_s : ∃ n, wF = n + 1 := ⟨4294967296, rfl⟩
theorem b_shr0 {x : Int32} {k : Nat} (hk : k < 32) : (x >>> (nI k &&& 31)) &&& 1 = 0 ↔ bt x k = false := by
  constructor
  · intro h
    have h1 : bt ((x >>> (nI k &&& 31)) &&& 1) 0 = bt 0 0 := by rw [h]
    rw [b_and, b_0, b_sshr k hk x (by omega), if_pos (by omega)] at h1
    simpa [show bt 1 0 = true from by decide] using h1
  · intro h
    apply b_ext
    intro i hi
    rw [b_and, b_0]
    by_cases h0 : i = 0
    · subst h0
      rw [b_sshr k hk x (by omega), if_pos (by omega), Nat.add_zero, h]
      rfl
    · have h2 : ∀ i, i < 32 → ¬ i = 0 → bt 1 i = false := by decide +kernel
      rw [h2 i hi h0]
      simp
theorem b_shr1 {x : Int32} {k : Nat} (hk : k < 32) : (x >>> (nI k &&& 31)) &&& 1 = 1 ↔ bt x k = true := by
  constructor
  · intro h
    cases hb : bt x k with
    | true => rfl
    | false =>
      rw [(b_shr0 hk).mpr hb] at h
      exact absurd h (by decide)
  · intro h
    apply b_ext
    intro i hi
    rw [b_and]
    by_cases h0 : i = 0
    · subst h0
      rw [b_sshr k hk x (by omega), if_pos (by omega), Nat.add_zero, h]
      rfl
    · have h2 : ∀ i, i < 32 → ¬ i = 0 → bt 1 i = false := by decide +kernel
      rw [h2 i hi h0]
      simp
