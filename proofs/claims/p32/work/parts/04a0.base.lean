/-! base: fuel, the pool, counters, bounds, truth values -/
abbrev pT : Type := (List Nat × List Nat × List Nat) × (Nat → Nat → Int32) × (Nat → Nat → Nat) × (Nat → Nat → Nat → Option Nat)
def pRA (p : pT) : List Nat := p.1.1
def pLA (p : pT) : List Nat := p.1.2.1
def pZA (p : pT) : List Nat := p.1.2.2
def pI (p : pT) (a j : Nat) : Int32 := p.2.1 a j
def pA (p : pT) (a j : Nat) : Nat := p.2.2.1 a j
def pF (p : pT) (a j : Nat) : Nat → Option Nat := p.2.2.2 a j
def oE {α : Type} (o : Option Nat) (x : α) (f : Nat → α) : α := match o with
  | none => x
  | some a => f a
def lE {α β : Type} (x : α) (f : α → β) : β := f x
theorem lE_eq {α β : Type} {t x : α} (h : t = x) (f : α → β) : lE x f = f t := by
  rw [h]
  rfl
theorem oE_none {α : Type} (x : α) (f : Nat → α) : oE none x f = x := rfl
theorem oE_some {α : Type} (a : Nat) (x : α) (f : Nat → α) : oE (some a) x f = f a := rfl
/-! rows of this claim's generator: fuel, counters, bounds, truth values -/
def wF : Nat := 4294967297
theorem wi_rng (i : Int32) : -2147483648 ≤ i.toInt ∧ i.toInt < 2147483648 := by
  have h1 := Int32.le_toInt i
  have h2 := Int32.toInt_lt i
  omega
theorem wF_up (i : Int32) : (2147483648 - i.toInt).toNat < wF := by
  have h := wi_rng i
  show _ < 4294967297
  omega
theorem wF_dn (i : Int32) : (i.toInt + 2147483648).toNat < wF := by
  have h := wi_rng i
  show _ < 4294967297
  omega
theorem wi_add1 {i b : Int32} (h : i < b) : (i + 1).toInt = i.toInt + 1 := by
  have h1 := wi_rng i
  have h2 := wi_rng b
  have h3 := Int32.lt_iff_toInt_lt.mp h
  rw [Int32.toInt_add]
  show (i.toInt + 1).bmod (2 ^ 32) = _
  rw [Int.bmod_eq_of_le (by omega) (by omega)]
theorem wi_sub1 {i : Int32} (h : 0 ≤ i.toInt) : (i + (-1)).toInt = i.toInt - 1 := by
  have h1 := wi_rng i
  rw [Int32.toInt_add]
  show (i.toInt + (-1)).bmod (2 ^ 32) = _
  rw [Int.bmod_eq_of_le (by omega) (by omega)]
  omega
theorem wi_up {i b : Int32} {n : Nat} (hu : (2147483648 - i.toInt).toNat < n + 1) (h : i < b) : (2147483648 - (i + 1).toInt).toNat < n := by
  have h1 := wi_rng i
  rw [wi_add1 h]
  omega
theorem wi_dn {i : Int32} {n : Nat} (hu : (i.toInt + 2147483648).toNat < n + 1) (h : 0 ≤ i.toInt) : ((i + (-1)).toInt + 2147483648).toNat < n := by
  have h1 := wi_rng i
  rw [wi_sub1 h]
  omega
theorem wi_inc {i b : Int32} (h0 : 0 ≤ i.toInt) (h : i < b) : 0 ≤ (i + 1).toInt := by
  rw [wi_add1 h]
  omega
theorem wi_lo {i : Int32} (h : ¬ i < 0) : 0 ≤ i.toInt := by
  have := Int32.le_iff_toInt_le.mp (Int32.not_lt.mp h)
  simpa using this
theorem wi_pos {i : Int32} (h : 0 < i) : 0 ≤ i.toInt := by
  have := Int32.lt_iff_toInt_lt.mp h
  have h0 : (0 : Int32).toInt = 0 := rfl
  omega
theorem wi_hi {i c : Int32} {n : Nat} (h : ¬ c ≤ i) (hc : c.toInt ≤ (n : Int)) : i.toInt < (n : Int) := by
  have := Int32.lt_iff_toInt_lt.mp (Int32.not_le.mp h)
  omega
theorem wi_in {i : Int32} {n : Nat} (h0 : 0 ≤ i.toInt) (h1 : i.toInt < (n : Int)) : vp_in i n := by
  intro h
  rcases h with h | h
  · have := Int32.lt_iff_toInt_lt.mp h
    have h2 : (0 : Int32).toInt = 0 := rfl
    omega
  · have h2 : i.toNatClampNeg = i.toInt.toNat := rfl
    omega
theorem wi_add {a b : Int32} (h1 : -2147483648 ≤ a.toInt + b.toInt) (h2 : a.toInt + b.toInt < 2147483648) : (a + b).toInt = a.toInt + b.toInt := by
  rw [Int32.toInt_add, Int.bmod_eq_of_le (by omega) (by omega)]
theorem wi_sub {a b : Int32} (h1 : -2147483648 ≤ a.toInt - b.toInt) (h2 : a.toInt - b.toInt < 2147483648) : (a - b).toInt = a.toInt - b.toInt := by
  rw [Int32.toInt_sub, Int.bmod_eq_of_le (by omega) (by omega)]
theorem wi_mulc {a c : Int32} {z : Int} (hc : c.toInt = z) (h1 : -2147483648 ≤ a.toInt * z) (h2 : a.toInt * z < 2147483648) : (a * c).toInt = a.toInt * z := by
  rw [Int32.toInt_mul, hc, Int.bmod_eq_of_le (by omega) (by omega)]
theorem wi_pz {y : Int32} (h : ¬ y ≤ 0) : ¬ y = 0 := fun e => h (by rw [e]; exact Int32.le_refl 0)
theorem nn_fdiv (x y : Int32) (h : ¬ y = 0) : vf_n32 (FP.fdiv (FP.i2f x) (FP.i2f y)) := by
  have h1 := Jvm.FP.Core.i2f_big (Jvm.FP.Core.int32_ne h)
  have h2 := Jvm.FP.Core.fdiv_mag (Jvm.FP.Core.i2f_mag x) h1.1 h1.2 (by decide) (by decide)
  unfold vf_n32
  rw [UInt32.le_iff_toNat_le, UInt32.toNat_and]
  show (FP.fdiv (FP.i2f x) (FP.i2f y)).toNat &&& (2 ^ 31 - 1) ≤ 2139095040
  rw [Nat.and_two_pow_sub_one_eq_mod]
  exact Nat.le_of_lt (Nat.lt_of_lt_of_le h2 (by decide))
theorem nn_ddiv (x y : Int32) (h : ¬ y = 0) : vf_n64 (FP.ddiv (FP.i2d x) (FP.i2d y)) := by
  have h1 := Jvm.FP.Core.i2d_big (Jvm.FP.Core.int32_ne h)
  have h2 := Jvm.FP.Core.ddiv_mag (Jvm.FP.Core.i2d_mag x) h1.1 h1.2 (by decide) (by decide)
  unfold vf_n64
  rw [UInt64.le_iff_toNat_le, UInt64.toNat_and]
  show (FP.ddiv (FP.i2d x) (FP.i2d y)).toNat &&& (2 ^ 63 - 1) ≤ 9218868437227405312
  rw [Nat.and_two_pow_sub_one_eq_mod]
  exact Nat.le_of_lt (Nat.lt_of_lt_of_le h2 (by decide))
theorem f_self (x y : Int32) (h : ¬ y = 0) : Op.cmpValue (FP.fcmp (FP.fdiv (FP.i2f x) (FP.i2f y)) (FP.fdiv (FP.i2f x) (FP.i2f y))) .l = 0 := by
  have h1 := Jvm.FP.Core.i2f_big (Jvm.FP.Core.int32_ne h)
  have h2 := Jvm.FP.Core.fdiv_mag (Jvm.FP.Core.i2f_mag x) h1.1 h1.2 (by decide) (by decide)
  have h3 : FP.fcmp (FP.fdiv (FP.i2f x) (FP.i2f y)) (FP.fdiv (FP.i2f x) (FP.i2f y)) = some .eq := Jvm.FP.Core.fcmp_self ((Jvm.FP.Core.ne_nan32 _).mpr (Nat.le_of_lt (Nat.lt_of_lt_of_le h2 (by decide))))
  rw [h3]
  rfl
theorem d_self (x y : Int32) (h : ¬ y = 0) : Op.cmpValue (FP.dcmp (FP.ddiv (FP.i2d x) (FP.i2d y)) (FP.ddiv (FP.i2d x) (FP.i2d y))) .l = 0 := by
  have h1 := Jvm.FP.Core.i2d_big (Jvm.FP.Core.int32_ne h)
  have h2 := Jvm.FP.Core.ddiv_mag (Jvm.FP.Core.i2d_mag x) h1.1 h1.2 (by decide) (by decide)
  have h3 : FP.dcmp (FP.ddiv (FP.i2d x) (FP.i2d y)) (FP.ddiv (FP.i2d x) (FP.i2d y)) = some .eq := Jvm.FP.Core.dcmp_self ((Jvm.FP.Core.ne_nan _).mpr (Nat.le_of_lt (Nat.lt_of_lt_of_le h2 (by decide))))
  rw [h3]
  rfl
theorem wk_s {k a c : Nat} (h : a ≤ c) : k + a ≤ k + c := Nat.add_le_add_left h k
theorem wi_nn {i : Int32} (h : 0 ≤ i.toInt) : ¬ i < 0 := fun h1 => by
  have h2 := Int32.lt_iff_toInt_lt.mp h1
  have h3 : (0 : Int32).toInt = 0 := rfl
  omega
theorem wi_by {a c : Nat} (h : a ≤ c) (h1 : c * 4 ≤ 536870912) : a * 4 ≤ 536870912 := by omega
theorem wk_r0 {k d c L M : Nat} (h : k + d ≤ L) (h1 : c ≤ d) (h2 : L ≤ M) : k + c ≤ M := by omega
theorem wk_r {k d a m L M : Nat} (h : k + d ≤ L) (h1 : a + m ≤ d) (h2 : L ≤ M) : k + a + m ≤ M := by omega
theorem wk_w {k a m c : Nat} (h : a + m ≤ c) : k + a + m ≤ k + c := by omega
theorem wk_w0 {k a d : Nat} (h : a ≤ d) : k + a ≤ k + d + 0 := by omega
theorem wk_x {k d a L : Nat} (h : k + d ≤ L) (h1 : a ≤ d) : k + a ≤ L := by omega
theorem wk_e {k x L : Nat} (h : k + x ≤ L) : k + 0 ≤ L := by omega
theorem wk_0 {N : Nat} {v : Nat} (k d : Nat) : k + d * (N - v) ≤ k + d * N := Nat.add_le_add_left (Nat.mul_le_mul_left d (Nat.sub_le _ _)) k
theorem wk_in {k d N L : Nat} {v : Int32} (h : k + d * (N - v.toInt.toNat) ≤ L) (h0 : 0 ≤ v.toInt) (h1 : v.toInt < (N : Int)) : k + d ≤ L := by
  have h2 : d * 1 ≤ d * (N - v.toInt.toNat) := Nat.mul_le_mul_left d (by omega)
  omega
theorem wk_n {k d N L : Nat} {v w : Int32} (h : k + d * (N - v.toInt.toNat) ≤ L) (h0 : 0 ≤ v.toInt) (h1 : v.toInt < (N : Int)) (hw : w.toInt = v.toInt + 1) : k + d + d * (N - w.toInt.toNat) ≤ L := by
  have h2 : N - v.toInt.toNat = (N - w.toInt.toNat) + 1 := by omega
  rw [h2, Nat.mul_add] at h
  omega
theorem wi_ne {y : Int32} (h : 0 < y.toInt) : ¬ y = 0 := by
  rintro rfl
  exact absurd h (by decide)
theorem wi_inL {i : Int32} {L : Nat} (hL : L ≤ 260) (h0 : 0 ≤ i.toInt) (h : i < Int32.ofNat L) : vp_in i L := by
  have h1 := Int32.lt_iff_toInt_lt.mp h
  rw [Int32.toInt_ofNat_of_lt (by omega)] at h1
  exact wi_in h0 h1
theorem wi_inN {i n : Int32} (h0 : 0 ≤ i.toInt) (h1 : i.toInt < n.toInt) : vp_in i n.toNatClampNeg := by
  have h2 : n.toNatClampNeg = n.toInt.toNat := rfl
  exact wi_in h0 (by rw [h2]; omega)
theorem wi_div {i d : Int32} {n m : Nat} (h0 : 0 ≤ i.toInt) (h1 : i.toInt < (m : Int)) (hd : d.toInt = 64) (hm : m ≤ 64 * n) : vp_in (i / d) n := by
  have h2 : (i / d).toInt = i.toInt / 64 := by
    rw [Int32.toInt_div_of_ne_right _ _ (by rintro rfl; cases hd), hd, Int.tdiv_eq_ediv_of_nonneg h0]
  exact wi_in (by rw [h2]; omega) (by rw [h2]; omega)
theorem wz_i2c (x : Int32) : narrow .char (.int (x.toUInt32 % 65536).toInt32) = .int (x.toUInt32 % 65536).toInt32 ∧ fits .char (.int (x.toUInt32 % 65536).toInt32) = true := by
  have hy : (x.toUInt32 % 65536).toNat < 65536 := by
    rw [UInt32.toNat_mod]
    exact Nat.mod_lt _ (by decide)
  have e : (x.toUInt32 % 65536).toUInt16.toUInt32 = x.toUInt32 % 65536 := UInt32.toNat_inj.mp (by
    rw [UInt16.toNat_toUInt32, UInt32.toNat_toUInt16]
    exact Nat.mod_eq_of_lt hy)
  have hi : (x.toUInt32 % 65536).toInt32.toInt = ((x.toUInt32 % 65536).toNat : Int) := by
    rw [show (x.toUInt32 % 65536).toInt32.toInt = (x.toUInt32 % 65536).toBitVec.toInt from rfl, BitVec.toInt_eq_toNat_bmod]
    exact Int.bmod_eq_of_le (by omega) (by show ((x.toUInt32 % 65536).toNat : Int) < _; omega)
  refine ⟨congrArg Value.int (congrArg UInt32.toInt32 e), ?_⟩
  show (decide (0 ≤ (x.toUInt32 % 65536).toInt32) && decide ((x.toUInt32 % 65536).toInt32 ≤ 65535)) = true
  rw [decide_eq_true (by rw [Int32.le_iff_toInt_le, hi]; exact Int.natCast_nonneg _), decide_eq_true (by rw [Int32.le_iff_toInt_le, hi]; show _ ≤ (65535 : Int); omega)]
  rfl
theorem wz_fit {v : Int32} (h : v = 0 ∨ v = 1) : fits .boolean (.int v) = true := by
  rcases h with rfl | rfl <;> rfl
theorem wz_nar {v : Int32} (h : v = 0 ∨ v = 1) : narrow .boolean (.int v) = .int v := by
  rcases h with rfl | rfl <;> rfl
