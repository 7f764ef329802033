/-! the pure argument, 15: which sets of open atoms are closed, which smaller ones are enough -/
section MO
variable {pp : pT} {n many : Nat} {rf gf : Nat → Option Nat}
theorem h_two (h : prOK pp n rf gf many) {r : Nat} (hr : r < many) (f : Nat → Bool) (hf : ∀ p, f p = true → zM pp gf 1 r p = true) : cn f ≤ 2 := by
  obtain ⟨-, hh, c, hk⟩ := h.2 r hr
  obtain ⟨h2, -, -, -, hm1⟩ := hk.2.2.2.2.2.2.2.1
  have e1 : ∀ a : Nat, cn (fun q => decide (q = a)) ≤ 1 := fun a => by
    by_cases g : a < 6
    · have := cn_one (fun _ => true) g
      simp only [Bool.true_and] at this
      rw [this]
      decide
    · have : cn (fun q => decide (q = a)) = cn (fun _ => false) := cn_cong fun i hi => decide_eq_false (by omega)
      rw [this]
      decide
  have e2 : ∀ f g : Nat → Bool, cn (fun q => f q || g q) ≤ cn f + cn g := fun f g => by
    have k : ∀ q, (f q || g q).toNat ≤ (f q).toNat + (g q).toNat := fun q => by cases f q <;> cases g q <;> decide
    have k0 := k 0
    have k1 := k 1
    have k2 := k 2
    have k3 := k 3
    have k4 := k 4
    have k5 := k 5
    unfold cn
    dsimp only
    omega
  have e3 := e2 (fun q => decide (q = pd pp (hA pp (rA rf r) 0))) (fun q => decide (q = pd pp (hA pp (rA rf r) 1)))
  have e4 := e1 (pd pp (hA pp (rA rf r) 0))
  have e5 := e1 (pd pp (hA pp (rA rf r) 1))
  have e6 : cn f ≤ cn (fun q => decide (q = pd pp (hA pp (rA rf r) 0)) || decide (q = pd pp (hA pp (rA rf r) 1))) := cn_mono fun q _ hq => by
    obtain ⟨i, i1, i2⟩ := (hm1 q).mp (hf q hq)
    rcases (show i = 0 ∨ i = 1 by omega) with rfl | rfl
    · rw [decide_eq_true i2.symm]; rfl
    · rw [decide_eq_true i2.symm]; exact Bool.or_true _
  omega
/-- the heads of a set: the sure ones and the open ones -/
theorem cn_split {S Po : Nat → Bool} (r : Nat) (s : Int32) : cn (fun p => zM pp gf 1 r p && bt (phi S Po s) p) = nS pp gf S r + cn (fun p => oO S Po p && (zM pp gf 1 r p && bt (phi S Po s) p)) := by
  have k : ∀ p, p < 6 → (zM pp gf 1 r p && bt (phi S Po s) p).toNat = (zM pp gf 1 r p && S p).toNat + (oO S Po p && (zM pp gf 1 r p && bt (phi S Po s) p)).toNat := fun p hp => by
    rw [phi_b S Po s hp]
    cases hs : S p with
    | true =>
      have : oO S Po p = false := by
        cases ho : oO S Po p with
        | false => rfl
        | true => have := (oO_S ho).1; rw [hs] at this; cases this
      rw [this]
      cases zM pp gf 1 r p <;> rfl
    | false =>
      cases oO S Po p <;> cases zM pp gf 1 r p <;> cases bt s (pos (oO S Po) p) <;> rfl
  have k0 := k 0 (by omega)
  have k1 := k 1 (by omega)
  have k2 := k 2 (by omega)
  have k3 := k 3 (by omega)
  have k4 := k 4 (by omega)
  have k5 := k 5 (by omega)
  unfold nS cn
  dsimp only
  omega
theorem zM_6 (h : prOK pp n rf gf many) {r : Nat} (hr : r < many) {p : Nat} (hp : zM pp gf 1 r p = true) : p < 6 := by
  by_cases g : p < 6
  · exact g
  · have := (h.1.at hr).2.2.2.2.1 p (by omega)
    rw [show bt (pI pp (zR gf r) 1) p = true from hp] at this
    cases this
theorem tH_pos (h : prOK pp n rf gf many) {r : Nat} (hr : r < many) (A : Nat → Bool) : (∃ p, zM pp gf 1 r p = true ∧ A p = true) ↔ 0 < cn (fun p => zM pp gf 1 r p && A p) := by
  rw [cn_pos]
  constructor
  · rintro ⟨p, h1, h2⟩
    exact ⟨p, zM_6 h hr h1, by rw [h1, h2]; rfl⟩
  · rintro ⟨p, -, h1⟩
    have g := (Bool.and_eq_true _ _).mp h1
    exact ⟨p, g.1, g.2⟩
/-- a row's bounds are its rule's -/
theorem row_ok (h : prOK pp n rf gf many) {S Po : Nat → Bool} {r : Nat} {x1 x2 x3 x4 x5 x6 : Int32} (hc : ckR pp gf many S Po r x1 x2 x3 x4 x5 x6) (s : Int32) : tH (zK pp gf) (zM pp gf 1) (zI pp gf 2) (zI pp gf 3) r (bt (phi S Po s)) ↔ ¬ (m_k_J6_bitCount_0f7a4 (s &&& x4) < x5 ∨ x6 < m_k_J6_bitCount_0f7a4 (s &&& x4)) := by
  obtain ⟨⟨hr, -⟩, -, h4, h5, h6, h7⟩ := hc
  have e := cn_split (pp := pp) (gf := gf) (S := S) (Po := Po) r s
  have h2 := h_two h hr (fun p => oO S Po p && (zM pp gf 1 r p && bt (phi S Po s) p)) fun p hp => ((Bool.and_eq_true _ _).mp ((Bool.and_eq_true _ _).mp hp).2).1
  rw [cM_cn h4, Int32.lt_iff_toInt_lt, Int32.lt_iff_toInt_lt, cn_ti, h5, h6]
  unfold tH
  by_cases hd : zK pp gf r = 100
  · rw [if_pos hd, if_pos hd, if_pos hd, tH_pos h hr, e]
    omega
  · rw [if_neg hd, if_neg hd, if_neg hd, e]
    omega
theorem hrm_ok (h : prOK pp n rf gf many) {S Po : Nat → Bool} {r : Nat} (hr : r < many) (hh : hrm pp gf S Po r) (s : Int32) (hb : tB (zM pp gf 4) (zM pp gf 5) (zM pp gf 8) (zM pp gf 9) r (bt (phi S Po s))) : tH (zK pp gf) (zM pp gf 1) (zI pp gf 2) (zI pp gf 3) r (bt (phi S Po s)) := by
  unfold tH
  rcases hh with ⟨p, h1, h2⟩ | ⟨hk, p, h1, h2⟩ | ⟨hk, h1, h2, h3⟩
  · have g1 := hb.1 p h1
    rw [hb.2.1 p h2] at g1
    cases g1
  · rw [if_pos hk]
    exact ⟨p, h1, phi_S (zM_6 h hr h1) h2⟩
  · have e := cn_split (pp := pp) (gf := gf) (S := S) (Po := Po) r s
    have e2 : cn (fun p => oO S Po p && (zM pp gf 1 r p && bt (phi S Po s) p)) = 0 := by
      have : cn (fun p => oO S Po p && (zM pp gf 1 r p && bt (phi S Po s) p)) = cn (fun _ => false) := cn_cong fun p _ => by
        cases hz : zM pp gf 1 r p with
        | false => rw [Bool.false_and, Bool.and_false]
        | true => rw [h1 p hz]; rfl
      rw [this]
      rfl
    rw [if_neg hk, e, e2]
    omega
theorem k_broken (h : prOK pp n rf gf many) {S Po : Nat → Bool} {obi sc : Nat → Int32} (ho : oB S Po obi sc) {cg : Int32} (hg : cgOK pp rf many cg) {c1 c2 c3 c4 c5 c6 : Nat → Int32} {j r : Nat} (hj : j < 300) (hc : ckR pp gf many S Po r (c1 j) (c2 j) (c3 j) (c4 j) (c5 j) (c6 j)) (s : Int32) : tv (m_k_X7_isBroken c1 c2 c3 c4 c5 c6 (nI j) s (m_k_X9_countsHeld pp (nI many) rf cg obi sc s)) (tB (zM pp gf 4) (zM pp gf 5) (zM pp gf 8) (zM pp gf 9) r (bt (phi S Po s)) ∧ ¬ tH (zK pp gf) (zM pp gf 1) (zI pp gf 2) (zI pp gf 3) r (bt (phi S Po s))) := by
  have hb := k_row h ho hg hj hc.1 s
  have hr := row_ok h hc s
  unfold m_k_X7_isBroken m_k_X7_isBroken_58
  rw [if_neg (by rw [show (0 : Int32) = nI 0 from rfl, kI_lt (by omega) (by omega)]; omega), if_neg (by rw [show (300 : Int32) = nI 300 from rfl, kI_le (by omega) (by omega)]; omega), kI_nat (by omega), lE, lE]
  by_cases d1 : m_k_X7_bodyHolds c1 c2 c3 (nI j) s (m_k_X9_countsHeld pp (nI many) rf cg obi sc s) = 0
  · rw [if_pos d1]
    exact tv.zero fun e => hb.z.mp d1 e.1
  · rw [if_neg d1]
    have h1 := hb.nz.mp d1
    by_cases d2 : m_k_J6_bitCount_0f7a4 (s &&& c4 j) < c5 j
    · rw [if_pos d2]
      exact tv.one ⟨h1, fun e => hr.mp e (Or.inl d2)⟩
    · rw [if_neg d2]
      by_cases d3 : m_k_J6_bitCount_0f7a4 (s &&& c4 j) ≤ c6 j
      · rw [if_pos d3]
        exact tv.zero fun e => e.2 (hr.mpr fun e2 => e2.elim d2 fun e3 => absurd d3 (Int32.not_le.mpr e3))
      · rw [if_neg d3]
        exact tv.one ⟨h1, fun e => hr.mp e (Or.inr (Int32.not_le.mp d3))⟩
/-- closed sets are those that break no row -/
theorem closed_rows (h : prOK pp n rf gf many) {S Po : Nat → Bool} {su po : Nat → Int64} {kr kv : Nat → Int32} {k : Nat} {q : Nat → Nat} {oa ob : Nat → Int32} (hg : gR pp rf gf many S Po su po kr kv k q oa ob) {c : Nat} {c1 c2 c3 c4 c5 c6 : Nat → Int32} (hc : CK pp gf many S Po q k c c1 c2 c3 c4 c5 c6) (s : Int32) : tC many (zK pp gf) (zM pp gf 1) (zM pp gf 4) (zM pp gf 5) (zM pp gf 8) (zM pp gf 9) (zI pp gf 2) (zI pp gf 3) (bt (phi S Po s)) ↔ ∀ j r, j < c → ckR pp gf many S Po r (c1 j) (c2 j) (c3 j) (c4 j) (c5 j) (c6 j) → ¬ (tB (zM pp gf 4) (zM pp gf 5) (zM pp gf 8) (zM pp gf 9) r (bt (phi S Po s)) ∧ ¬ tH (zK pp gf) (zM pp gf 1) (zI pp gf 2) (zI pp gf 3) r (bt (phi S Po s))) := by
  obtain ⟨hs, hp, hS, hP, hk, ho⟩ := hg
  have hm := h.1.1
  have hD := p_def h
  have hsp := tS_sub hD hS hP
  constructor
  · intro hC j r hj hr e
    exact e.2 (hC r hr.1.1 hr.2.1 e.1)
  · intro hR r hr hk' hb
    have hkk : tK (zM pp gf 4) (zM pp gf 5) S Po r := tB_K (fun p hp => by
      by_cases g : p < 6
      · exact phi_S g hp
      · -- a sure atom is one of six
        have : S p = false := by
          have h6 : ∀ p, S p = true → p < 6 := hS.2 (fun p => p < 6) fun r hr _ _ p hp => zM_6 h hr hp
          cases hb : S p with
          | false => rfl
          | true => exact absurd (h6 p hb) g
        rw [this] at hp
        cases hp) (fun p hp => phi_P hsp hp) hb
    obtain ⟨i, hi, hie⟩ := hk.2.2.2 r hr hkk
    have h3 := hc.2.2 i hi (by rw [hie]; exact hk')
    rw [hie] at h3
    rcases h3 with ⟨l, hl, hle⟩ | h3
    · obtain ⟨r2, hr2⟩ := hc.2.1 l hl
      have e : r2 = r := by
        have := hr2.1.2.1
        rw [hle, kI_eq (by omega) (by have := hr2.1.1; omega)] at this
        exact this.symm
      subst e
      by_cases hh : tH (zK pp gf) (zM pp gf 1) (zI pp gf 2) (zI pp gf 3) r2 (bt (phi S Po s))
      · exact hh
      · exact absurd ⟨hb, hh⟩ (hR l r2 hl hr2)
    · exact hrm_ok h hr h3 s hb
theorem k_model (h : prOK pp n rf gf many) {S Po : Nat → Bool} {su po : Nat → Int64} {kr kv : Nat → Int32} {k : Nat} {q : Nat → Nat} {oa ob : Nat → Int32} (hg : gR pp rf gf many S Po su po kr kv k q oa ob) {c w : Nat} {ch cg : Int32} {c1 c2 c3 c4 c5 c6 w1 w2 w3 obi sc : Nat → Int32} (hc : cP pp rf gf many S Po q k ch cg c w c1 c2 c3 c4 c5 c6 w1 w2 w3 obi sc) (lb : Int32) (s : Int32) : tv (m_k_X9_isModel pp (nI many) rf cg lb (nI c) c1 c2 c3 c4 c5 c6 obi sc s).1 (tC many (zK pp gf) (zM pp gf 1) (zM pp gf 4) (zM pp gf 5) (zM pp gf 8) (zM pp gf 9) (zI pp gf 2) (zI pp gf 3) (bt (phi S Po s))) := by
  obtain ⟨hck, hwk, hob, hcg, hch⟩ := hc
  have hcl := closed_rows h hg hck s
  have hm := h.1.1
  have hkm := hg.2.2.2.2.1.1
  have hck1 := hck.1
  obtain ⟨m0, hm0⟩ := wF_ge
  have brk : ∀ j, j < c → tv (m_k_X7_isBroken c1 c2 c3 c4 c5 c6 (nI j) s (m_k_X9_countsHeld pp (nI many) rf cg obi sc s)) (∃ r, ckR pp gf many S Po r (c1 j) (c2 j) (c3 j) (c4 j) (c5 j) (c6 j) ∧ tB (zM pp gf 4) (zM pp gf 5) (zM pp gf 8) (zM pp gf 9) r (bt (phi S Po s)) ∧ ¬ tH (zK pp gf) (zM pp gf 1) (zI pp gf 2) (zI pp gf 3) r (bt (phi S Po s))) := fun j hj => by
    obtain ⟨r, hr⟩ := hck.2.1 j hj
    refine (k_broken h hob hcg (by omega) hr s).iff ⟨fun e => ⟨r, hr, e⟩, fun ⟨r2, hr2, e⟩ => ?_⟩
    have : r2 = r := by
      have h1 := hr2.1.2.1
      rw [hr.1.2.1, kI_eq (by have := hr.1.1; omega) (by have := hr2.1.1; omega)] at h1
      exact h1.symm
    rw [← this]
    exact e
  have lp : ∀ d m i, c - i = d → d < m → i ≤ c → tv (m_k_X9_isModel_40 lb (nI c) c1 c2 c3 c4 c5 c6 s (m_k_X9_countsHeld pp (nI many) rf cg obi sc s) m (nI i)).1 (∀ j, i ≤ j → j < c → ¬ ∃ r, ckR pp gf many S Po r (c1 j) (c2 j) (c3 j) (c4 j) (c5 j) (c6 j) ∧ tB (zM pp gf 4) (zM pp gf 5) (zM pp gf 8) (zM pp gf 9) r (bt (phi S Po s)) ∧ ¬ tH (zK pp gf) (zM pp gf 1) (zI pp gf 2) (zI pp gf 3) r (bt (phi S Po s))) := by
    intro d
    induction d with
    | zero =>
      intro m i hd hm' hi
      obtain ⟨m, rfl⟩ : ∃ q, m = q + 1 := ⟨m - 1, by omega⟩
      have hi' : i = c := by omega
      subst hi'
      rw [m_k_X9_isModel_40_succ, m_k_X9_isModel_40s, if_pos (Int32.le_refl _)]
      exact tv.one fun j h1 h2 => by omega
    | succ d ih =>
      intro m i hd hm' hi
      obtain ⟨m, rfl⟩ : ∃ q, m = q + 1 := ⟨m - 1, by omega⟩
      have hi' : i < c := by omega
      have hb := brk i hi'
      rw [m_k_X9_isModel_40_succ, m_k_X9_isModel_40s, if_neg (by rw [kI_le (by omega) (by omega)]; omega), lE]
      by_cases d1 : m_k_X7_isBroken c1 c2 c3 c4 c5 c6 (nI i) s (m_k_X9_countsHeld pp (nI many) rf cg obi sc s) = 0
      · rw [if_pos d1, kI_s]
        refine (ih m (i + 1) (by omega) (by omega) (by omega)).iff ⟨fun e j g1 g2 => ?_, fun e j g1 g2 => e j (by omega) g2⟩
        rcases (show j = i ∨ i + 1 ≤ j by omega) with rfl | g
        · exact hb.z.mp d1
        · exact e j g g2
      · rw [if_neg d1]
        exact tv.zero fun e => e i (Nat.le_refl _) hi' (hb.nz.mp d1)
  have fin : tv (m_k_X9_isModel_38 lb (nI c) c1 c2 c3 c4 c5 c6 s (m_k_X9_countsHeld pp (nI many) rf cg obi sc s)).1 (tC many (zK pp gf) (zM pp gf 1) (zM pp gf 4) (zM pp gf 5) (zM pp gf 8) (zM pp gf 9) (zI pp gf 2) (zI pp gf 3) (bt (phi S Po s))) := by
    refine (lp (c - 0) wF 0 rfl (by rw [hm0]; omega) (Nat.zero_le _)).iff ?_
    rw [hcl]
    exact ⟨fun e j r hj hr e2 => e j (Nat.zero_le _) hj ⟨r, hr, e2⟩, fun e j _ hj ⟨r, hr, e2⟩ => e j r hj hr e2⟩
  unfold m_k_X9_isModel
  rw [lE]
  by_cases d1 : nI c ≤ lb
  · rw [if_pos d1]
    exact fin
  · rw [if_neg d1, lE]
    by_cases d2 : m_k_X7_isBroken c1 c2 c3 c4 c5 c6 lb s (m_k_X9_countsHeld pp (nI many) rf cg obi sc s) = 0
    · rw [if_pos d2]
      exact fin
    · rw [if_neg d2]
      refine tv.zero fun e => ?_
      have hlb : ¬ lb < 0 := fun hn => d2 (by unfold m_k_X7_isBroken; rw [if_pos hn])
      have h0 : 0 ≤ lb.toInt := wi_lo hlb
      have e1 := kI_of h0
      have h1 := Int32.lt_iff_toInt_lt.mp (Int32.not_le.mp d1)
      rw [kI_ti (by omega)] at h1
      have hj : lb.toInt.toNat < c := by omega
      rw [e1] at d2
      obtain ⟨r, hr, e2⟩ := (brk _ hj).nz.mp d2
      exact hcl.mp e _ r hj hr e2
theorem k_choice {c1 : Nat → Int32} {ch : Int32} (hch : ∀ r, bt ch r = true ↔ r < many ∧ zK pp gf r = 99) (hm : many ≤ 10) {j r : Nat} (hj : j < 300) (hr : r < many) (he : c1 j = nI r) : tv (m_k_X9_isChoice ch c1 (nI j)) (zK pp gf r = 99) := by
  unfold m_k_X9_isChoice m_k_X7_ruleAt
  rw [if_neg (by rw [show (0 : Int32) = nI 0 from rfl, kI_lt (by omega) (by omega)]; omega), if_neg (by rw [show (300 : Int32) = nI 300 from rfl, kI_le (by omega) (by omega)]; omega), kI_nat (by omega), he, lE, if_neg (by rw [show (0 : Int32) = nI 0 from rfl, kI_lt (by omega) (by omega)]; omega)]
  by_cases d : (ch >>> (nI r &&& 31)) &&& 1 = 0
  · rw [if_pos d]
    refine tv.zero fun e => ?_
    have := (hch r).mpr ⟨hr, e⟩
    rw [(b_shr0 (by omega)).mp d] at this
    cases this
  · rw [if_neg d]
    refine tv.one ?_
    cases hb : bt ch r with
    | true => exact ((hch r).mp hb).2
    | false => exact absurd ((b_shr0 (by omega)).mpr hb) d
theorem k_headsAt {c4 : Nat → Int32} {j : Nat} (hj : j < 300) : m_k_X7_headsAt c4 (nI j) = c4 j := by
  unfold m_k_X7_headsAt
  rw [if_neg (by rw [show (0 : Int32) = nI 0 from rfl, kI_lt (by omega) (by omega)]; omega), if_neg (by rw [show (300 : Int32) = nI 300 from rfl, kI_le (by omega) (by omega)]; omega), kI_nat (by omega)]
end MO
