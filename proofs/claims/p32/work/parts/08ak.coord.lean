/-! the pure argument, 11: sets of open atoms as the class has them, and counts -/
section CO
variable {pp : pT} {n many : Nat} {rf gf : Nat → Option Nat}
def oO (S Po : Nat → Bool) : Nat → Bool := fun p => Po p && !S p
/-- the bit of an open atom -/
def pos (O : Nat → Bool) (p : Nat) : Nat := rk O 6 - 1 - rk O p
theorem rk6 (O : Nat → Bool) : rk O 6 ≤ 6 := rk_le O 6
theorem pos_lt {O : Nat → Bool} {p : Nat} (hp : p < 6) (ho : O p = true) : pos O p < rk O 6 := by
  have := rk_lt hp ho
  unfold pos
  omega
theorem pos_inj {O : Nat → Bool} {p q : Nat} (hp : p < 6) (hq : q < 6) (h1 : O p = true) (h2 : O q = true) (h : pos O p = pos O q) : p = q := by
  have g1 := rk_lt hp h1
  have g2 := rk_lt hq h2
  unfold pos at h
  exact rk_inj h1 h2 (by omega)
theorem pos_onto {O : Nat → Bool} {j : Nat} (hj : j < rk O 6) : ∃ p, p < 6 ∧ O p = true ∧ pos O p = j := by
  obtain ⟨p, h1, h2, h3⟩ := rk_onto O 6 (rk O 6 - 1 - j) (by omega)
  exact ⟨p, h1, h2, by unfold pos; omega⟩
theorem pos_rev {O : Nat → Bool} {p q : Nat} (hq : q < 6) (h : p < q) (h1 : O p = true) (h2 : O q = true) : pos O q < pos O p := by
  have g1 := rk_lt h h1
  have g2 := rk_lt hq h2
  unfold pos
  omega
theorem c_bitOf {S Po : Nat → Bool} {oa ob : Nat → Int32} (ho : oN (oO S Po) oa ob) {p : Nat} (hp : p < 6) : m_k_X9_bitOf (nI (rk (oO S Po) 6)) ob (nI (64 * p)) = if oO S Po p then (1 : Int32) <<< (nI (pos (oO S Po) p) &&& 31) else 0 := by
  have h6 := rk6 (oO S Po)
  have hr := at_rng (show 64 * p < 384 by omega)
  unfold m_k_X9_bitOf m_k_X3_openNumberOf
  rw [if_neg hr.1, if_neg hr.2, kI_nat (by omega), lE, m_k_X9_bitOf_35]
  cases hO : oO S Po p with
  | false =>
    have h1 := ho.2 (64 * p) (by omega) (by rw [show 64 * p / 64 = p by omega, hO]; exact fun e => by cases e.2)
    rw [h1, if_pos (by decide)]
    rfl
  | true =>
    have h1 := (ho.1 p hp hO).1
    have h2 := rk_lt hp hO
    have e : (nI (rk (oO S Po) 6) - 1) - nI (rk (oO S Po) p) = nI (pos (oO S Po) p) := by
      obtain ⟨k, hk⟩ : ∃ k, rk (oO S Po) 6 = k + 1 := ⟨rk (oO S Po) 6 - 1, by omega⟩
      unfold pos
      rw [hk, nI_pred]
      apply Int32.toInt_inj.mp
      rw [wi_sub (by rw [kI_ti (by omega), kI_ti (by omega)]; omega) (by rw [kI_ti (by omega), kI_ti (by omega)]; omega), kI_ti (by omega), kI_ti (by omega), kI_ti (by omega)]
      omega
    have hp2 := pos_lt hp hO
    rw [h1, if_neg (by rw [show (0 : Int32) = nI 0 from rfl, kI_lt (by omega) (by omega)]; omega), e, if_neg (by rw [show (0 : Int32) = nI 0 from rfl, kI_lt (by omega) (by omega)]; omega), if_pos (by rw [show (12 : Int32) = nI 12 from rfl, kI_lt (by omega) (by omega)]; omega)]
    rfl
/-- a set of the open atoms as a set of atoms -/
def phi (S Po : Nat → Bool) (s : Int32) : Int32 := mk6 (fun p => S p || (oO S Po p && bt s (pos (oO S Po) p)))
theorem phi_b (S Po : Nat → Bool) (s : Int32) {p : Nat} (hp : p < 6) : bt (phi S Po s) p = (S p || (oO S Po p && bt s (pos (oO S Po) p))) := by
  unfold phi
  rw [mk6_b, decide_eq_true hp]
  rfl
theorem phi_sm (S Po : Nat → Bool) (s : Int32) : sm (phi S Po s) := mk6_sm _
theorem phi_S {S Po : Nat → Bool} {s : Int32} {p : Nat} (hp : p < 6) (h : S p = true) : bt (phi S Po s) p = true := by rw [phi_b S Po s hp, h]; rfl
theorem oO_S {S Po : Nat → Bool} {p : Nat} (h : oO S Po p = true) : S p = false ∧ Po p = true := by
  unfold oO at h
  have := (Bool.and_eq_true _ _).mp h
  refine ⟨?_, this.1⟩
  cases hs : S p with
  | false => rfl
  | true => rw [hs] at this; cases this.2
theorem oO_of {S Po : Nat → Bool} {p : Nat} (h1 : Po p = true) (h2 : S p = false) : oO S Po p = true := by unfold oO; rw [h1, h2]; rfl
theorem phi_O {S Po : Nat → Bool} {s : Int32} {p : Nat} (hp : p < 6) (h : oO S Po p = true) : bt (phi S Po s) p = bt s (pos (oO S Po) p) := by rw [phi_b S Po s hp, h, (oO_S h).1]; cases bt s (pos (oO S Po) p) <;> rfl
theorem phi_P {S Po : Nat → Bool} (hsp : ∀ p, S p = true → Po p = true) {s : Int32} {p : Nat} (h : bt (phi S Po s) p = true) : Po p = true := by
  have hp : p < 6 := by
    by_cases g : p < 6
    · exact g
    · rw [phi_sm S Po s p (by omega)] at h; cases h
  rw [phi_b S Po s hp, Bool.or_eq_true] at h
  rcases h with h | h
  · exact hsp p h
  · exact (oO_S ((Bool.and_eq_true _ _).mp h).1).2
/-- a set of open atoms: no bit beyond -/
def vS (O : Nat → Bool) (s : Int32) : Prop := ∀ j, rk O 6 ≤ j → bt s j = false
theorem vS_sm {O : Nat → Bool} {s : Int32} (h : vS O s) : sm s := fun i hi => h i (by have := rk6 O; omega)
theorem phi_inj {S Po : Nat → Bool} {s t : Int32} (hs : vS (oO S Po) s) (ht : vS (oO S Po) t) (h : phi S Po s = phi S Po t) : s = t := by
  apply b_ext
  intro j _
  by_cases hj : j < rk (oO S Po) 6
  · obtain ⟨p, h1, h2, h3⟩ := pos_onto hj
    rw [← h3, ← phi_O h1 h2, ← phi_O h1 h2, h]
  · rw [hs j (by omega), ht j (by omega)]
theorem phi_onto {S Po : Nat → Bool} {A : Int32} (hA : sm A) (h1 : ∀ p, S p = true → bt A p = true) (h2 : ∀ p, bt A p = true → Po p = true) : ∃ s, vS (oO S Po) s ∧ phi S Po s = A := by
  have hd : ∀ j, Decidable (∃ p, p < 6 ∧ oO S Po p = true ∧ pos (oO S Po) p = j ∧ bt A p = true) := fun j => Classical.propDecidable _
  refine ⟨mk6 (fun j => @decide (∃ p, p < 6 ∧ oO S Po p = true ∧ pos (oO S Po) p = j ∧ bt A p = true) (hd j)), fun j hj => ?_, ?_⟩
  · rw [mk6_b]
    cases h : @decide (∃ p, p < 6 ∧ oO S Po p = true ∧ pos (oO S Po) p = j ∧ bt A p = true) (hd j) with
    | false => simp
    | true =>
      obtain ⟨p, g1, g2, g3, g4⟩ := @of_decide_eq_true _ (hd j) h
      have := pos_lt g1 g2
      omega
  · apply b_ext
    intro p _
    by_cases hp : p < 6
    · rw [phi_b S Po _ hp, mk6_b, Bool.eq_iff_iff]
      constructor
      · intro h
        rw [Bool.or_eq_true] at h
        rcases h with h | h
        · exact h1 p h
        · have g := (Bool.and_eq_true _ _).mp h
          obtain ⟨q, g1, g2, g3, g4⟩ := @of_decide_eq_true _ (hd _) ((Bool.and_eq_true _ _).mp g.2).2
          rw [← pos_inj g1 hp g2 g.1 g3]
          exact g4
      · intro h
        rw [Bool.or_eq_true]
        cases hs : S p with
        | true => exact Or.inl rfl
        | false =>
          have ho := oO_of (h2 p h) hs
          refine Or.inr ((Bool.and_eq_true _ _).mpr ⟨ho, (Bool.and_eq_true _ _).mpr ⟨decide_eq_true ?_, @decide_eq_true _ (hd _) ⟨p, hp, ho, rfl, h⟩⟩⟩)
          have g1 := pos_lt hp ho
          have g2 := rk6 (oO S Po)
          omega
    · rw [phi_sm S Po _ p (by omega), hA p (by omega)]
theorem phi_sub {S Po : Nat → Bool} {s t : Int32} (ht : vS (oO S Po) t) : (∀ p, bt (phi S Po t) p = true → bt (phi S Po s) p = true) ↔ ∀ j, bt t j = true → bt s j = true := by
  constructor
  · intro h j hj
    have hj2 : j < rk (oO S Po) 6 := by
      by_cases g : j < rk (oO S Po) 6
      · exact g
      · rw [ht j (by omega)] at hj; cases hj
    obtain ⟨p, h1, h2, h3⟩ := pos_onto hj2
    have := h p (by rw [phi_O h1 h2, h3]; exact hj)
    rw [phi_O h1 h2, h3] at this
    exact this
  · intro h p hp
    have hp6 : p < 6 := by
      by_cases g : p < 6
      · exact g
      · rw [phi_sm S Po t p (by omega)] at hp; cases hp
    rw [phi_b S Po _ hp6, Bool.or_eq_true] at hp ⊢
    rcases hp with hp | hp
    · exact Or.inl hp
    · have g := (Bool.and_eq_true _ _).mp hp
      exact Or.inr ((Bool.and_eq_true _ _).mpr ⟨g.1, h _ g.2⟩)
/-- a set of atoms as a mask of open atoms -/
def cM (O M : Nat → Bool) (x : Int32) : Prop := ∀ j, bt x j = true ↔ ∃ p, p < 6 ∧ O p = true ∧ M p = true ∧ pos O p = j
theorem cM_v {O M : Nat → Bool} {x : Int32} (h : cM O M x) : vS O x := fun j hj => by
  cases hb : bt x j with
  | false => rfl
  | true =>
    obtain ⟨p, g1, g2, -, g4⟩ := (h j).mp hb
    have := pos_lt g1 g2
    omega
theorem cM_p {O M : Nat → Bool} {x : Int32} (h : cM O M x) {p : Nat} (hp : p < 6) (ho : O p = true) : bt x (pos O p) = M p := by
  rw [Bool.eq_iff_iff, h]
  constructor
  · rintro ⟨q, g1, g2, g3, g4⟩
    rw [← pos_inj g1 hp g2 ho g4]
    exact g3
  · exact fun e => ⟨p, hp, ho, e, rfl⟩
theorem cM_0 (O : Nat → Bool) : cM O (fun _ => false) 0 := fun j => by
  rw [b_0]
  exact ⟨fun e => (by cases e), fun ⟨p, _, _, e, _⟩ => by cases e⟩
/-- one more atom -/
theorem cM_or {S Po : Nat → Bool} {oa ob : Nat → Int32} (ho : oN (oO S Po) oa ob) {M : Nat → Bool} {x : Int32} (h : cM (oO S Po) M x) {p : Nat} (hp : p < 6) : cM (oO S Po) (fun q => M q || decide (q = p)) (x ||| m_k_X9_bitOf (nI (rk (oO S Po) 6)) ob (nI (64 * p))) := fun j => by
  rw [c_bitOf ho hp, b_or, Bool.or_eq_true, h j]
  cases hO : oO S Po p with
  | false =>
    rw [if_neg (by decide), b_0]
    constructor
    · rintro (⟨q, g1, g2, g3, g4⟩ | e)
      · exact ⟨q, g1, g2, by show (M q || decide (q = p)) = true; rw [g3]; rfl, g4⟩
      · cases e
    · rintro ⟨q, g1, g2, g3, g4⟩
      rw [Bool.or_eq_true, decide_eq_true_iff] at g3
      rcases g3 with g3 | rfl
      · exact Or.inl ⟨q, g1, g2, g3, g4⟩
      · rw [hO] at g2; cases g2
  | true =>
    have := pos_lt hp hO
    have := rk6 (oO S Po)
    rw [if_pos rfl, b_one' (by omega), decide_eq_true_iff]
    constructor
    · rintro (⟨q, g1, g2, g3, g4⟩ | e)
      · exact ⟨q, g1, g2, by show (M q || decide (q = p)) = true; rw [g3]; rfl, g4⟩
      · exact ⟨p, hp, hO, by show (M p || decide (p = p)) = true; rw [decide_eq_true rfl]; exact Bool.or_true _, e.symm⟩
    · rintro ⟨q, g1, g2, g3, g4⟩
      rw [Bool.or_eq_true, decide_eq_true_iff] at g3
      rcases g3 with g3 | rfl
      · exact Or.inl ⟨q, g1, g2, g3, g4⟩
      · exact Or.inr g4.symm
/-- what a set holds of a mask, in both ways of telling it -/
theorem cM_sub {S Po : Nat → Bool} {M : Nat → Bool} {x s : Int32} (h : cM (oO S Po) M x) (hM : ∀ p, M p = true → p < 6 ∧ Po p = true) : s &&& x = x ↔ ∀ p, M p = true → bt (phi S Po s) p = true := by
  rw [b_sub]
  constructor
  · intro e p hp
    obtain ⟨h6, hpo⟩ := hM p hp
    cases hs : S p with
    | true => exact phi_S h6 hs
    | false =>
      have ho := oO_of hpo hs
      rw [phi_O h6 ho]
      exact e _ ((h _).mpr ⟨p, h6, ho, hp, rfl⟩)
  · intro e j hj
    obtain ⟨p, g1, g2, g3, g4⟩ := (h j).mp hj
    rw [← g4, ← phi_O g1 g2]
    exact e p g3
theorem cM_dis {S Po : Nat → Bool} {M : Nat → Bool} {x s : Int32} (h : cM (oO S Po) M x) (hM : ∀ p, M p = true → p < 6 ∧ S p = false) : s &&& x = 0 ↔ ∀ p, M p = true → bt (phi S Po s) p = false := by
  rw [b_dis]
  constructor
  · intro e p hp
    obtain ⟨h6, hs⟩ := hM p hp
    rw [phi_b S Po s h6, hs]
    cases ho : oO S Po p with
    | false => rfl
    | true =>
      rw [e _ ((h _).mpr ⟨p, h6, ho, hp, rfl⟩)]
      rfl
  · intro e j hj
    obtain ⟨p, g1, g2, g3, g4⟩ := (h j).mp hj
    rw [← g4, ← phi_O g1 g2]
    exact e p g3
theorem cpm_dec : ∀ o0 o1 o2 o3 o4 o5 g0 g1 g2 g3 g4 g5 : Bool, (List.range 6).foldl (fun a j => a + (((o0 && g0) && decide (((((((0 + o0.toNat) + o1.toNat) + o2.toNat) + o3.toNat) + o4.toNat) + o5.toNat) - 1 - 0 = j)) || ((o1 && g1) && decide (((((((0 + o0.toNat) + o1.toNat) + o2.toNat) + o3.toNat) + o4.toNat) + o5.toNat) - 1 - (0 + o0.toNat) = j)) || ((o2 && g2) && decide (((((((0 + o0.toNat) + o1.toNat) + o2.toNat) + o3.toNat) + o4.toNat) + o5.toNat) - 1 - ((0 + o0.toNat) + o1.toNat) = j)) || ((o3 && g3) && decide (((((((0 + o0.toNat) + o1.toNat) + o2.toNat) + o3.toNat) + o4.toNat) + o5.toNat) - 1 - (((0 + o0.toNat) + o1.toNat) + o2.toNat) = j)) || ((o4 && g4) && decide (((((((0 + o0.toNat) + o1.toNat) + o2.toNat) + o3.toNat) + o4.toNat) + o5.toNat) - 1 - ((((0 + o0.toNat) + o1.toNat) + o2.toNat) + o3.toNat) = j)) || ((o5 && g5) && decide (((((((0 + o0.toNat) + o1.toNat) + o2.toNat) + o3.toNat) + o4.toNat) + o5.toNat) - 1 - (((((0 + o0.toNat) + o1.toNat) + o2.toNat) + o3.toNat) + o4.toNat) = j))).toNat) 0 = (o0 && g0).toNat + (o1 && g1).toNat + (o2 && g2).toNat + (o3 && g3).toNat + (o4 && g4).toNat + (o5 && g5).toNat := by decide +kernel
def cpO (O g : Nat → Bool) (j : Nat) : Bool := ((O 0 && g 0) && decide (pos O 0 = j)) || ((O 1 && g 1) && decide (pos O 1 = j)) || ((O 2 && g 2) && decide (pos O 2 = j)) || ((O 3 && g 3) && decide (pos O 3 = j)) || ((O 4 && g 4) && decide (pos O 4 = j)) || ((O 5 && g 5) && decide (pos O 5 = j))
theorem cpO_iff (O g : Nat → Bool) (j : Nat) : cpO O g j = true ↔ ∃ p, p < 6 ∧ (O p && g p) = true ∧ pos O p = j := by
  unfold cpO
  simp only [Bool.or_eq_true, Bool.and_eq_true, decide_eq_true_iff]
  constructor
  · rintro (((((h | h) | h) | h) | h) | h)
    · exact ⟨0, by omega, h⟩
    · exact ⟨1, by omega, h⟩
    · exact ⟨2, by omega, h⟩
    · exact ⟨3, by omega, h⟩
    · exact ⟨4, by omega, h⟩
    · exact ⟨5, by omega, h⟩
  · rintro ⟨p, hp, h⟩
    rcases (show p = 0 ∨ p = 1 ∨ p = 2 ∨ p = 3 ∨ p = 4 ∨ p = 5 by omega) with rfl | rfl | rfl | rfl | rfl | rfl
    · exact Or.inl (Or.inl (Or.inl (Or.inl (Or.inl h))))
    · exact Or.inl (Or.inl (Or.inl (Or.inl (Or.inr h))))
    · exact Or.inl (Or.inl (Or.inl (Or.inr h)))
    · exact Or.inl (Or.inl (Or.inr h))
    · exact Or.inl (Or.inr h)
    · exact Or.inr h
theorem cpO_cn (O g : Nat → Bool) : cn (cpO O g) = cn (fun p => O p && g p) := by
  have h := cpm_dec (O 0) (O 1) (O 2) (O 3) (O 4) (O 5) (g 0) (g 1) (g 2) (g 3) (g 4) (g 5)
  refine (show _ = _ from ?_).trans h
  show _ = ((((((0 + (cpO O g 0).toNat) + (cpO O g 1).toNat) + (cpO O g 2).toNat) + (cpO O g 3).toNat) + (cpO O g 4).toNat) + (cpO O g 5).toNat)
  unfold cn
  omega
/-- how many open atoms of a mask are in a set -/
theorem cM_cn {S Po : Nat → Bool} {M : Nat → Bool} {x s : Int32} (h : cM (oO S Po) M x) : m_k_J6_bitCount_0f7a4 (s &&& x) = nI (cn (fun p => oO S Po p && (M p && bt (phi S Po s) p))) := by
  have hx := vS_sm (cM_v h)
  rw [Int32.and_comm, bc_and hx, ← cpO_cn (oO S Po) (fun p => M p && bt (phi S Po s) p)]
  congr 1
  refine cn_cong fun j _ => ?_
  rw [Bool.eq_iff_iff, Bool.and_eq_true, h j, cpO_iff]
  constructor
  · rintro ⟨⟨p, g1, g2, g3, g4⟩, g5⟩
    exact ⟨p, g1, by rw [g2, g3, phi_O g1 g2, g4, g5]; rfl, g4⟩
  · rintro ⟨p, g1, g2, g3⟩
    have g4 := (Bool.and_eq_true _ _).mp g2
    have g5 := (Bool.and_eq_true _ _).mp g4.2
    refine ⟨⟨p, g1, g4.1, g5.1, g3⟩, ?_⟩
    rw [← g3, ← phi_O g1 g4.1]
    exact g5.2
end CO
