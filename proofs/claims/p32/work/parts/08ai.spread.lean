/-! the pure argument, 9: the program, rules that wait, spreading -/
def rA (rf : Nat → Option Nat) (r : Nat) : Nat := (rf r).getD 0
/-- the program's rules and the law's rows -/
def prOK (pp : pT) (n : Nat) (rf gf : Nat → Option Nat) (many : Nat) : Prop := zsOK pp gf many ∧ ∀ r, r < many → rf r = some (rA rf r) ∧ ∃ h c, rOK pp n (rA rf r) (zR gf r) h c
theorem cn_mono {f g : Nat → Bool} (h : ∀ i, i < 6 → f i = true → g i = true) : cn f ≤ cn g := by
  have k : ∀ i, i < 6 → (f i).toNat ≤ (g i).toNat := fun i hi => by
    cases h1 : f i with
    | false => exact Nat.zero_le _
    | true => rw [h i hi h1]; exact Nat.le_refl _
  have k0 := k 0 (by omega)
  have k1 := k 1 (by omega)
  have k2 := k 2 (by omega)
  have k3 := k 3 (by omega)
  have k4 := k 4 (by omega)
  have k5 := k 5 (by omega)
  unfold cn
  omega
theorem cn_lt {f g : Nat → Bool} (h : ∀ i, i < 6 → f i = true → g i = true) {j : Nat} (hj : j < 6) (h1 : f j = false) (h2 : g j = true) : cn f < cn g := by
  have k : ∀ i, i < 6 → (f i).toNat ≤ (g i).toNat := fun i hi => by
    cases h1 : f i with
    | false => exact Nat.zero_le _
    | true => rw [h i hi h1]; exact Nat.le_refl _
  have k0 := k 0 (by omega)
  have k1 := k 1 (by omega)
  have k2 := k 2 (by omega)
  have k3 := k 3 (by omega)
  have k4 := k 4 (by omega)
  have k5 := k 5 (by omega)
  unfold cn
  rcases (show j = 0 ∨ j = 1 ∨ j = 2 ∨ j = 3 ∨ j = 4 ∨ j = 5 by omega) with rfl | rfl | rfl | rfl | rfl | rfl <;> rw [h1, h2] <;> simp only [Bool.toNat_true, Bool.toNat_false] <;> omega
section SP
variable {pp : pT} {n many : Nat} {rf gf : Nat → Option Nat}
theorem p_rule (h : prOK pp n rf gf many) {r : Nat} (hr : r < many) : m_k_X6_ruleAt (nI many) rf (nI r) = some (rA rf r) := by
  have hm := h.1.1
  unfold m_k_X6_ruleAt
  rw [if_neg (by rw [show (0 : Int32) = nI 0 from rfl, kI_lt (by omega) (by omega)]; omega), if_neg (by rw [kI_le (by omega) (by omega)]; omega), if_neg (by rw [show (20 : Int32) = nI 20 from rfl, kI_le (by omega) (by omega)]; omega), kI_nat (by omega), (h.2 r hr).1, oE_some]
theorem p_norule (hm : many ≤ 10) {r : Nat} (hr : many ≤ r) (hb : r < 100) : m_k_X6_ruleAt (nI many) rf (nI r) = none := by
  unfold m_k_X6_ruleAt
  rw [if_neg (by rw [show (0 : Int32) = nI 0 from rfl, kI_lt (by omega) (by omega)]; omega), if_pos (by rw [kI_le (by omega) (by omega)]; omega)]
def pDf (pp : pT) (rf : Nat → Option Nat) (r : Nat) : Bool := decide (m_k_X8_isDefinite pp (rA rf r) = 1)
theorem p_kind (h : prOK pp n rf gf many) {r : Nat} (hr : r < many) : zK pp gf r = pI pp (rA rf r) 0 := by
  obtain ⟨-, h1, c1, hk⟩ := h.2 r hr
  exact hk.2.2.1
theorem p_def (h : prOK pp n rf gf many) : tD many (zK pp gf) (zM pp gf 1) (zM pp gf 5) (zM pp gf 8) (zM pp gf 9) (pDf pp rf) := by
  intro r hr hd
  obtain ⟨-, hh, c, hk⟩ := h.2 r hr
  have h1 := (r_isDefinite hk).2.mp (of_decide_eq_true hd)
  obtain ⟨⟨e1, e2⟩, e3⟩ := h1
  obtain ⟨-, -, -, -, h5, h8, h9⟩ := hk.2.2.2.2.2.2.2.2
  have no : ∀ {P : Prop} {k : Int32}, ¬ (116 : Int32) = k → (∃ i, i < c ∧ pI pp (cA pp (rA rf r) i) 0 = k ∧ P) → False := fun hne ⟨i, g1, g2, _⟩ => hne ((e3 i g1).symm.trans g2)
  refine ⟨(p_kind h hr).trans e1, fun p => ?_, fun p => ?_, fun p => ?_, fun p q hp hq => ?_⟩
  · cases hb : zM pp gf 5 r p with
    | false => rfl
    | true =>
      obtain ⟨i, g1, g2, -⟩ := (h5 p).mp hb
      exact absurd ((e3 i g1).symm.trans g2) (by decide)
  · cases hb : zM pp gf 8 r p with
    | false => rfl
    | true =>
      obtain ⟨i, g1, g2, -⟩ := (h8 p).mp hb
      exact absurd ((e3 i g1).symm.trans g2) (by decide)
  · cases hb : zM pp gf 9 r p with
    | false => rfl
    | true =>
      obtain ⟨i, g1, g2, -⟩ := (h9 p).mp hb
      exact absurd ((e3 i g1).symm.trans g2) (by decide)
  · obtain ⟨-, -, -, -, hm1⟩ := hk.2.2.2.2.2.2.2.1
    obtain ⟨i, i1, i2⟩ := (hm1 p).mp hp
    obtain ⟨j, j1, j2⟩ := (hm1 q).mp hq
    rw [← i2, ← j2, show i = j by omega]
theorem p_needing (h : prOK pp n rf gf many) (pu g : Int32) (r : Nat) : bt (m_k_X3_rulesNeeding pp (nI many) rf pu g) r = true ↔ r < many ∧ ¬ zK pp gf r = 119 ∧ (pu = 0 → pDf pp rf r = true) ∧ (g = -1 ∨ ¬ pI pp (zR gf r) 4 &&& g = 0) := by
  have hm := h.1.1
  have key : ∀ d m i (v : Int32), many - i = d → d < m → i ≤ many → (∀ q, bt v q = true ↔ q < i ∧ ¬ zK pp gf q = 119 ∧ (pu = 0 → pDf pp rf q = true) ∧ (g = -1 ∨ ¬ pI pp (zR gf q) 4 &&& g = 0)) → ∀ q, bt (m_k_X3_rulesNeeding_4 pp (nI many) rf pu g m v (nI i)) q = true ↔ q < many ∧ ¬ zK pp gf q = 119 ∧ (pu = 0 → pDf pp rf q = true) ∧ (g = -1 ∨ ¬ pI pp (zR gf q) 4 &&& g = 0) := by
    intro d
    induction d with
    | zero =>
      intro m i v hd hm' hi hv q
      obtain ⟨m, rfl⟩ : ∃ q, m = q + 1 := ⟨m - 1, by omega⟩
      have : i = many := by omega
      subst this
      rw [m_k_X3_rulesNeeding_4_succ, m_k_X3_rulesNeeding_4s, if_pos (Int32.le_refl _)]
      exact hv q
    | succ d ih =>
      intro m i v hd hm' hi hv
      obtain ⟨m, rfl⟩ : ∃ q, m = q + 1 := ⟨m - 1, by omega⟩
      have hi' : i < many := by omega
      obtain ⟨-, hh, c, hk⟩ := h.2 i hi'
      have hkd := p_kind h hi'
      have hdf := r_isDefinite hk
      rw [m_k_X3_rulesNeeding_4_succ, m_k_X3_rulesNeeding_4s, if_neg (by rw [kI_le (by omega) (by omega)]; omega), lE, p_rule h hi', oE_some]
      simp only [m_k_X3_rulesNeeding_79, m_k_X3_rulesNeeding_73, m_k_X3_rulesNeeding_58, lE, kI_s, r_needed hk]
      have no : ¬ (¬ zK pp gf i = 119 ∧ (pu = 0 → pDf pp rf i = true) ∧ (g = -1 ∨ ¬ pI pp (zR gf i) 4 &&& g = 0)) → ∀ q, bt (m_k_X3_rulesNeeding_4 pp (nI many) rf pu g m v (nI (i + 1))) q = true ↔ q < many ∧ ¬ zK pp gf q = 119 ∧ (pu = 0 → pDf pp rf q = true) ∧ (g = -1 ∨ ¬ pI pp (zR gf q) 4 &&& g = 0) := fun hno => by
        refine ih m (i + 1) v (by omega) (by omega) (by omega) fun q => ?_
        rw [hv q]
        refine ⟨fun e => ⟨by omega, e.2⟩, fun e => ⟨?_, e.2⟩⟩
        rcases (show q = i ∨ q < i by omega) with rfl | g
        · exact absurd e.2 hno
        · exact g
      have yes : (¬ zK pp gf i = 119 ∧ (pu = 0 → pDf pp rf i = true) ∧ (g = -1 ∨ ¬ pI pp (zR gf i) 4 &&& g = 0)) → ∀ q, bt (m_k_X3_rulesNeeding_4 pp (nI many) rf pu g m (v ||| ((1 : Int32) <<< (nI i &&& 31))) (nI (i + 1))) q = true ↔ q < many ∧ ¬ zK pp gf q = 119 ∧ (pu = 0 → pDf pp rf q = true) ∧ (g = -1 ∨ ¬ pI pp (zR gf q) 4 &&& g = 0) := fun hyes => by
        refine ih m (i + 1) _ (by omega) (by omega) (by omega) fun q => ?_
        rw [b_or, b_one' (by omega), Bool.or_eq_true, hv q, decide_eq_true_iff]
        constructor
        · rintro (e | rfl)
          · exact ⟨by omega, e.2⟩
          · exact ⟨by omega, hyes⟩
        · intro e
          rcases (show q = i ∨ q < i by omega) with rfl | g
          · exact Or.inr rfl
          · exact Or.inl ⟨g, e.2⟩
      by_cases c1 : pI pp (rA rf i) 0 = 119
      · rw [if_pos c1]
        exact no fun e => e.1 (hkd.trans c1)
      · rw [if_neg c1]
        have c1' : ¬ zK pp gf i = 119 := fun e => c1 (hkd.symm.trans e)
        have tail : (pu = 0 → pDf pp rf i = true) → ∀ q, bt (if g = -1 then m_k_X3_rulesNeeding_4 pp (nI many) rf pu g m (v ||| ((1 : Int32) <<< (nI i &&& 31))) (nI (i + 1)) else if pI pp (zR gf i) 4 &&& g = 0 then m_k_X3_rulesNeeding_4 pp (nI many) rf pu g m v (nI (i + 1)) else m_k_X3_rulesNeeding_4 pp (nI many) rf pu g m (v ||| ((1 : Int32) <<< (nI i &&& 31))) (nI (i + 1))) q = true ↔ q < many ∧ ¬ zK pp gf q = 119 ∧ (pu = 0 → pDf pp rf q = true) ∧ (g = -1 ∨ ¬ pI pp (zR gf q) 4 &&& g = 0) := fun hd => by
          by_cases c3 : g = -1
          · rw [if_pos c3]
            exact yes ⟨c1', hd, Or.inl c3⟩
          · rw [if_neg c3]
            by_cases c4 : pI pp (zR gf i) 4 &&& g = 0
            · rw [if_pos c4]
              exact no fun e => e.2.2.elim c3 fun e => e c4
            · rw [if_neg c4]
              exact yes ⟨c1', hd, Or.inr c4⟩
        by_cases c2 : pu = 0
        · rw [if_pos c2]
          by_cases c3 : m_k_X8_isDefinite pp (rA rf i) = 0
          · rw [if_pos c3]
            refine no fun e => ?_
            have := of_decide_eq_true (e.2.1 c2)
            exact absurd (c3.symm.trans this) (by decide)
          · rw [if_neg c3]
            exact tail fun _ => decide_eq_true (hdf.1.resolve_left c3)
        · rw [if_neg c2]
          exact tail fun e => absurd e c2
  obtain ⟨m, hm'⟩ := wF_ge
  exact key (many - 0) wF 0 0 rfl (by rw [hm']; omega) (Nat.zero_le _) (fun q => by rw [b_0]; exact ⟨fun e => (by cases e), fun e => by omega⟩) r
theorem p_param {tp tq : Nat → Int32} (ht : tp 0 = 0) (hq : tq 0 = 0) : m_k_X6_parameterAt tp tq 0 0 = 0 := by
  unfold m_k_X6_parameterAt
  rw [if_neg (by decide), if_neg (by decide), z0, if_pos ht, hq]
theorem pass_0 (h : prOK pp n rf gf many) {tp tq : Nat → Int32} (ht : tp 0 = 0) (hq : tq 0 = 0) {po : Nat → Int64} {Po : Nat → Bool} (hp : ws6 po Po) (I : (Nat → Bool) → Prop) (hI : ∀ X X' r, r < many → (¬ zK pp gf r = 119 ∧ ((0 : Int32) = 0 → pDf pp rf r = true)) → I X → ((∀ p, bt (pI pp (zR gf r) 4) p = true → X p = true) ∧ ∀ p, bt (pI pp (zR gf r) 5) p = true → X p = false) → (∀ p, X' p = true ↔ X p = true ∨ bt (pI pp (zR gf r) 1) p = true) → I X') (X0 : Nat → Bool) (rc : Int32 → Int32 → (Nat → Int64) → (Nat → Int64) → (Nat → Int32) → (Nat → Int32) → (Nat → Int32) → (Nat → Int32) → Int32 → Int32 → Int32 → Int32 → Int32 → Int32 → Int32 → r_k_X3_spread) (v2 : Int32) (kr kv kb : Nat → Int32) (kn : Int32) :
    ∀ d m i W (X : Nat → Bool) su hds gw hn b0 b1 b2 b3, many - i = d → d < m → i ≤ many → ws6 su X → I X → (∀ p, X0 p = true → X p = true) → (∀ r, bt W r = true → r < many ∧ (¬ zK pp gf r = 119 ∧ ((0 : Int32) = 0 → pDf pp rf r = true))) → (∀ r, r < many → (¬ zK pp gf r = 119 ∧ ((0 : Int32) = 0 → pDf pp rf r = true)) → bt W r = false → ((∀ p, bt (pI pp (zR gf r) 4) p = true → X p = true) ∧ ∀ p, bt (pI pp (zR gf r) 5) p = true → X p = false) → ∀ p, bt (pI pp (zR gf r) 1) p = true → X p = true) → (∀ r, r < i → bt W r = true → cn X0 < cn X) →
      ∃ W' X' x' hds' gw' hn' b0' b1' b2' b3', m_k_X3_spread_21 pp (nI many) 1 rf tp tq 0 rc v2 m W (nI i) su po hds kr kv kb gw hn kn b0 b1 b2 b3 = rc W' (v2 + 1) x' po hds' kr kv kb gw' hn' kn b0' b1' b2' b3' ∧ ws6 x' X' ∧ I X' ∧ (∀ p, X0 p = true → X' p = true) ∧ (∀ r, bt W' r = true → r < many ∧ (¬ zK pp gf r = 119 ∧ ((0 : Int32) = 0 → pDf pp rf r = true))) ∧ (∀ r, r < many → (¬ zK pp gf r = 119 ∧ ((0 : Int32) = 0 → pDf pp rf r = true)) → bt W' r = false → ((∀ p, bt (pI pp (zR gf r) 4) p = true → X' p = true) ∧ ∀ p, bt (pI pp (zR gf r) 5) p = true → X' p = false) → ∀ p, bt (pI pp (zR gf r) 1) p = true → X' p = true) ∧ ∀ r, bt W' r = true → cn X0 < cn X' := by
  have hm := h.1.1
  intro d
  induction d with
  | zero =>
    intro m i W X su hds gw hn b0 b1 b2 b3 hd hm' hi hw hi1 hi2 hi3 hi4 hi5
    obtain ⟨m, rfl⟩ : ∃ q, m = q + 1 := ⟨m - 1, by omega⟩
    have : i = many := by omega
    subst this
    refine ⟨W, X, su, hds, gw, hn, b0, b1, b2, b3, ?_, hw, hi1, hi2, hi3, hi4, fun r hr => hi5 r (hi3 r hr).1 hr⟩
    rw [m_k_X3_spread_21_succ, m_k_X3_spread_21s, if_pos (Int32.le_refl _)]
  | succ d ih =>
    intro m i W X su hds gw hn b0 b1 b2 b3 hd hm' hi hw hi1 hi2 hi3 hi4 hi5
    obtain ⟨m, rfl⟩ : ∃ q, m = q + 1 := ⟨m - 1, by omega⟩
    have hi' : i < many := by omega
    obtain ⟨-, hh, c, hk⟩ := h.2 i hi'
    rw [m_k_X3_spread_21_succ, m_k_X3_spread_21s, if_neg (by rw [kI_le (by omega) (by omega)]; omega), lE, p_rule h hi', oE_some]
    by_cases c1 : (W >>> (nI i &&& 31)) &&& 1 = 0
    · rw [if_pos c1, m_k_X3_spread_135, kI_s]
      have c1' := (b_shr0 (by omega)).mp c1
      refine ih m (i + 1) W X su hds gw hn b0 b1 b2 b3 (by omega) (by omega) (by omega) hw hi1 hi2 hi3 hi4 fun r hr hb => ?_
      rcases (show r = i ∨ r < i by omega) with rfl | g
      · rw [c1'] at hb
        cases hb
      · exact hi5 r g hb
    · rw [if_neg c1]
      have c1' : bt W i = true := by
        cases hb : bt W i with
        | true => rfl
        | false => exact absurd ((b_shr0 (by omega)).mpr hb) c1
      have hact := (hi3 i c1').2
      obtain ⟨m0, hm0⟩ := wF_ge
      obtain ⟨x', g', hds', hn', b1', b2', b3', X', e, f1, f2, f3⟩ := each_0 hk hn kn b0 b1 b2 hds kr kv kb (nI i) hw hp
      rw [hm0, show m0 + 1000 = (m0 + 998) + 1 + 1 from rfl, m_k_X3_spread_74_succ, m_k_X3_spread_74s, if_neg (by decide), lE, hk.2.2.2.1, p_param ht hq, lE, e]
      dsimp only
      rw [m_k_X3_spread_74_succ, m_k_X3_spread_74s, if_pos (by decide)]
      have hsub : ∀ p, X p = true → X' p = true := fun p hp => (f2 p).mpr (Or.inl hp)
      have small : ∀ p, bt (pI pp (zR gf i) 1) p = true → p < 6 := fun p hp => by
        by_cases g : p < 6
        · exact g
        · have := (h.1.at hi').2.2.2.2.1 p (by omega)
          rw [hp] at this
          cases this
      have grow : ¬ g' = 0 → cn X < cn X' := fun hg => by
        obtain ⟨p, -, hp⟩ := b_ne hg
        have g := (f3 p).mp hp
        have g2 := (f2 p).mp g.2
        rcases g2 with g2 | g2
        · rw [g.1] at g2
          cases g2
        · exact cn_lt (fun q _ hq => hsub q hq) (small p g2.2) g.1 g.2
      have hcm : cn X0 ≤ cn X := cn_mono fun q _ hq => hi2 q hq
      have hIX : I X' := by
        by_cases hc : ((∀ p, bt (pI pp (zR gf i) 4) p = true → X p = true) ∧ ∀ p, bt (pI pp (zR gf i) 5) p = true → X p = false)
        · refine hI X X' i hi' hact hi1 hc fun p => ?_
          rw [f2 p]
          exact ⟨fun e => e.elim Or.inl fun e => Or.inr e.2, fun e => e.elim Or.inl fun e => Or.inr ⟨hc, e⟩⟩
        · have : X' = X := funext fun p => by
            rw [Bool.eq_iff_iff, f2 p]
            exact ⟨fun e => e.elim id fun e => absurd e.1 hc, Or.inl⟩
          rw [this]
          exact hi1
      have go : ∀ s9 : Int32, (∀ r, bt s9 r = true → r < many ∧ (¬ zK pp gf r = 119 ∧ ((0 : Int32) = 0 → pDf pp rf r = true))) → (∀ r, r < many → (¬ zK pp gf r = 119 ∧ ((0 : Int32) = 0 → pDf pp rf r = true)) → bt s9 r = false → ∀ p, bt (pI pp (zR gf r) 4) p = true → X' p = true → X p = true) → (¬ s9 = 0 → ¬ g' = 0) →
          ∃ W' X' xz hdz gwz hnz bz0 bz1 bz2 bz3, m_k_X3_spread_21 pp (nI many) 1 rf tp tq 0 rc v2 m ((W &&& (((1 : Int32) <<< (nI i &&& 31)) ^^^ (-1))) ||| s9) (nI (i + 1)) x' po hds' kr kv kb g' hn' kn b1' b2' b3' 0 = rc W' (v2 + 1) xz po hdz kr kv kb gwz hnz kn bz0 bz1 bz2 bz3 ∧ ws6 xz X' ∧ I X' ∧ (∀ p, X0 p = true → X' p = true) ∧ (∀ r, bt W' r = true → r < many ∧ (¬ zK pp gf r = 119 ∧ ((0 : Int32) = 0 → pDf pp rf r = true))) ∧ (∀ r, r < many → (¬ zK pp gf r = 119 ∧ ((0 : Int32) = 0 → pDf pp rf r = true)) → bt W' r = false → ((∀ p, bt (pI pp (zR gf r) 4) p = true → X' p = true) ∧ ∀ p, bt (pI pp (zR gf r) 5) p = true → X' p = false) → ∀ p, bt (pI pp (zR gf r) 1) p = true → X' p = true) ∧ ∀ r, bt W' r = true → cn X0 < cn X' := fun s9 h9 h10 h11 => by
        have hb : ∀ r, bt ((W &&& (((1 : Int32) <<< (nI i &&& 31)) ^^^ (-1))) ||| s9) r = ((bt W r && !decide (r = i)) || bt s9 r) := fun r => by
          by_cases hr : r < 32
          · rw [b_or, b_and, b_not _ hr, b_one' (by omega)]
          · rw [b_big (Nat.not_lt.mp hr), b_big (Nat.not_lt.mp hr), b_big (Nat.not_lt.mp hr)]
            rfl
        refine ih m (i + 1) _ X' x' hds' g' hn' b1' b2' b3' 0 (by omega) (by omega) (by omega) f1 hIX (fun p hp => hsub p (hi2 p hp)) (fun r hr => ?_) (fun r hr ha hbr hc => ?_) (fun r hr hbr => ?_)
        · rw [hb r, Bool.or_eq_true] at hr
          rcases hr with hr | hr
          · exact hi3 r ((Bool.and_eq_true _ _).mp hr).1
          · exact h9 r hr
        · rw [hb r, Bool.or_eq_false_iff] at hbr
          have hcX : ((∀ p, bt (pI pp (zR gf r) 4) p = true → X p = true) ∧ ∀ p, bt (pI pp (zR gf r) 5) p = true → X p = false) := ⟨fun p hp => h10 r hr ha hbr.2 p hp (hc.1 p hp), fun p hp => by
            cases hx : X p with
            | false => rfl
            | true =>
              have := hc.2 p hp
              rw [hsub p hx] at this
              cases this⟩
          intro p hp
          by_cases er : r = i
          · subst er
            exact (f2 p).mpr (Or.inr ⟨hcX, hp⟩)
          · have hbr1 := hbr.1
            rw [decide_eq_false er] at hbr1
            refine hsub p (hi4 r hr ha ?_ hcX p hp)
            cases hz : bt W r with
            | false => rfl
            | true => rw [hz] at hbr1; cases hbr1
        · rw [hb r, Bool.or_eq_true] at hbr
          rcases hbr with hbr | hbr
          · have h12 := (Bool.and_eq_true _ _).mp hbr
            rcases (show r = i ∨ r < i by omega) with rfl | g
            · have := h12.2
              rw [decide_eq_true rfl] at this
              cases this
            · have h13 := hi5 r g h12.1
              have h14 : cn X ≤ cn X' := cn_mono fun q _ hq => hsub q hq
              omega
          · have h13 : ¬ s9 = 0 := fun e0 => by rw [e0, b_0] at hbr; cases hbr
            have := grow (h11 h13)
            omega
      by_cases c2 : g' = 0
      · rw [if_pos c2, m_k_X3_spread_133, m_k_X3_spread_135, kI_s]
        refine go 0 (fun r hr => by rw [b_0] at hr; cases hr) (fun r _ _ _ p _ hp => ?_) (fun e0 => absurd rfl e0)
        cases hx : X p with
        | true => rfl
        | false =>
          have := (f3 p).mpr ⟨hx, hp⟩
          rw [c2, b_0] at this
          cases this
      · rw [if_neg c2, lE, m_k_X3_spread_133, m_k_X3_spread_135, kI_s]
        refine go _ (fun r hr => ?_) (fun r hr ha hb p hp hx' => ?_) (fun _ => c2)
        · have g := (p_needing h 0 g' r).mp hr
          exact ⟨g.1, g.2.1, g.2.2.1⟩
        · cases hx : X p with
          | true => rfl
          | false =>
            have hg := (f3 p).mpr ⟨hx, hx'⟩
            have := (p_needing h 0 g' r).mpr ⟨hr, ha.1, ha.2, Or.inr fun e0 => by
              have h15 := b_dis.mp e0 p hg
              rw [hp] at h15
              cases h15⟩
            rw [hb] at this
            cases this
theorem spread_0 (h : prOK pp n rf gf many) {tp tq : Nat → Int32} (ht : tp 0 = 0) (hq : tq 0 = 0) {po : Nat → Int64} {Po : Nat → Bool} (hp : ws6 po Po) (I : (Nat → Bool) → Prop) (hI : ∀ X X' r, r < many → (¬ zK pp gf r = 119 ∧ ((0 : Int32) = 0 → pDf pp rf r = true)) → I X → ((∀ p, bt (pI pp (zR gf r) 4) p = true → X p = true) ∧ ∀ p, bt (pI pp (zR gf r) 5) p = true → X p = false) → (∀ p, X' p = true ↔ X p = true ∨ bt (pI pp (zR gf r) 1) p = true) → I X') (kr kv kb : Nat → Int32) (kn : Int32) (hn gw b0 b1 b2 b3 : Int32) (hds : Nat → Int32) {X : Nat → Bool} {su : Nat → Int64} (hw : ws6 su X) (hi1 : I X) :
    ∃ X' x' hds' gw' hn' b0' b1' b2' b3', m_k_X3_spread pp (nI many) 1 rf tp tq hn kn 0 gw b0 b1 b2 b3 su po hds kr kv kb = (x', po, hds', kr, kv, kb, gw', hn', kn, b0', b1', b2', b3') ∧ ws6 x' X' ∧ I X' ∧ (∀ p, X p = true → X' p = true) ∧ ∀ r, r < many → (¬ zK pp gf r = 119 ∧ ((0 : Int32) = 0 → pDf pp rf r = true)) → ((∀ p, bt (pI pp (zR gf r) 4) p = true → X' p = true) ∧ ∀ p, bt (pI pp (zR gf r) 5) p = true → X' p = false) → ∀ p, bt (pI pp (zR gf r) 1) p = true → X' p = true := by
  have hm := h.1.1
  have key : ∀ k m (v : Nat) W (X : Nat → Bool) su hds gw hn b0 b1 b2 b3, 6 - cn X ≤ k → v + k + 2 < 1000 → k + 2 < m → ws6 su X → I X → (∀ r, bt W r = true → r < many ∧ (¬ zK pp gf r = 119 ∧ ((0 : Int32) = 0 → pDf pp rf r = true))) → (∀ r, r < many → (¬ zK pp gf r = 119 ∧ ((0 : Int32) = 0 → pDf pp rf r = true)) → bt W r = false → ((∀ p, bt (pI pp (zR gf r) 4) p = true → X p = true) ∧ ∀ p, bt (pI pp (zR gf r) 5) p = true → X p = false) → ∀ p, bt (pI pp (zR gf r) 1) p = true → X p = true) →
      ∃ X' x' hds' gw' hn' b0' b1' b2' b3', m_k_X3_spread_8 pp (nI many) 1 rf tp tq 0 m W (nI v) su po hds kr kv kb gw hn kn b0 b1 b2 b3 = (x', po, hds', kr, kv, kb, gw', hn', kn, b0', b1', b2', b3') ∧ ws6 x' X' ∧ I X' ∧ (∀ p, X p = true → X' p = true) ∧ ∀ r, r < many → (¬ zK pp gf r = 119 ∧ ((0 : Int32) = 0 → pDf pp rf r = true)) → ((∀ p, bt (pI pp (zR gf r) 4) p = true → X' p = true) ∧ ∀ p, bt (pI pp (zR gf r) 5) p = true → X' p = false) → ∀ p, bt (pI pp (zR gf r) 1) p = true → X' p = true := by
    intro k
    induction k with
    | zero =>
      intro m v W X su hds gw hn b0 b1 b2 b3 hk hv hmm hw hi1 hi3 hi4
      obtain ⟨m, rfl⟩ : ∃ q, m = q + 1 + 1 := ⟨m - 2, by omega⟩
      rw [m_k_X3_spread_8_succ, m_k_X3_spread_8s]
      by_cases c1 : W = 0
      · rw [if_pos c1]
        refine ⟨X, su, hds, gw, hn, b0, b1, b2, b3, rfl, hw, hi1, fun _ hp => hp, fun r hr ha hc => hi4 r hr ha (by rw [c1, b_0]) hc⟩
      · rw [if_neg c1, if_neg (by rw [show (1000 : Int32) = nI 1000 from rfl, kI_le (by omega) (by omega)]; omega)]
        obtain ⟨m0, hm0⟩ := wF_ge
        obtain ⟨W', X', x', hds', gw', hn', b0', b1', b2', b3', e, f1, f2, f3, f4, f5, f6⟩ := pass_0 h ht hq hp I hI X (m_k_X3_spread_8 pp (nI many) 1 rf tp tq 0 (m + 1)) (nI v) kr kv kb kn (many - 0) wF 0 W X su hds gw hn b0 b1 b2 b3 rfl (by rw [hm0]; omega) (Nat.zero_le _) hw hi1 (fun _ hp => hp) hi3 hi4 (fun r hr => absurd hr (Nat.not_lt_zero r))
        rw [show nI 0 = (0 : Int32) from rfl] at e
        rw [e, kI_s]
        by_cases c2 : W' = 0
        · rw [m_k_X3_spread_8_succ, m_k_X3_spread_8s, if_pos c2]
          exact ⟨X', x', hds', gw', hn', b0', b1', b2', b3', rfl, f1, f2, f3, fun r hr ha hc => f5 r hr ha (by rw [c2, b_0]) hc⟩
        · obtain ⟨r, -, hr⟩ := b_ne c2
          have hlt := f6 r hr
          have h2 := cn_le X'
          omega
    | succ k ih =>
      intro m v W X su hds gw hn b0 b1 b2 b3 hk hv hmm hw hi1 hi3 hi4
      obtain ⟨m, rfl⟩ : ∃ q, m = q + 1 + 1 := ⟨m - 2, by omega⟩
      rw [m_k_X3_spread_8_succ, m_k_X3_spread_8s]
      by_cases c1 : W = 0
      · rw [if_pos c1]
        refine ⟨X, su, hds, gw, hn, b0, b1, b2, b3, rfl, hw, hi1, fun _ hp => hp, fun r hr ha hc => hi4 r hr ha (by rw [c1, b_0]) hc⟩
      · rw [if_neg c1, if_neg (by rw [show (1000 : Int32) = nI 1000 from rfl, kI_le (by omega) (by omega)]; omega)]
        obtain ⟨m0, hm0⟩ := wF_ge
        obtain ⟨W', X', x', hds', gw', hn', b0', b1', b2', b3', e, f1, f2, f3, f4, f5, f6⟩ := pass_0 h ht hq hp I hI X (m_k_X3_spread_8 pp (nI many) 1 rf tp tq 0 (m + 1)) (nI v) kr kv kb kn (many - 0) wF 0 W X su hds gw hn b0 b1 b2 b3 rfl (by rw [hm0]; omega) (Nat.zero_le _) hw hi1 (fun _ hp => hp) hi3 hi4 (fun r hr => absurd hr (Nat.not_lt_zero r))
        rw [show nI 0 = (0 : Int32) from rfl] at e
        rw [e, kI_s]
        by_cases c2 : W' = 0
        · rw [m_k_X3_spread_8_succ, m_k_X3_spread_8s, if_pos c2]
          exact ⟨X', x', hds', gw', hn', b0', b1', b2', b3', rfl, f1, f2, f3, fun r hr ha hc => f5 r hr ha (by rw [c2, b_0]) hc⟩
        · obtain ⟨r, -, hr⟩ := b_ne c2
          have hlt := f6 r hr
          obtain ⟨X2, x2, hds2, gw2, hn2, b02, b12, b22, b32, e2, q1, q2, q3, q4⟩ := ih (m + 1) (v + 1) W' X' x' hds' gw' hn' b0' b1' b2' b3' (by omega) (by omega) (by omega) f1 f2 f4 f5
          exact ⟨X2, x2, hds2, gw2, hn2, b02, b12, b22, b32, e2, q1, q2, fun p hp => q3 p (f3 p hp), q4⟩
  obtain ⟨m0, hm0⟩ := wF_ge
  unfold m_k_X3_spread
  rw [lE]
  have hn6 := cn_le X
  refine key 6 wF 0 _ X su hds gw hn b0 b1 b2 b3 (by omega) (by omega) (by rw [hm0]; omega) hw hi1 (fun r hr => ?_) (fun r hr ha hb => ?_)
  · have g := (p_needing h 0 (-1) r).mp hr
    exact ⟨g.1, g.2.1, g.2.2.1⟩
  · have := (p_needing h 0 (-1) r).mpr ⟨hr, ha.1, ha.2, Or.inl rfl⟩
    rw [hb] at this
    cases this
theorem pass_1 (h : prOK pp n rf gf many) {tp tq : Nat → Int32} (ht : tp 0 = 0) (hq : tq 0 = 0) {su : Nat → Int64} {S : Nat → Bool} (hs : ws6 su S) (I : (Nat → Bool) → Prop) (hI : ∀ X X' r, r < many → (¬ zK pp gf r = 119 ∧ ((1 : Int32) = 0 → pDf pp rf r = true)) → I X → ((∀ p, bt (pI pp (zR gf r) 4) p = true → X p = true) ∧ ∀ p, bt (pI pp (zR gf r) 5) p = true → S p = false) → (∀ p, X' p = true ↔ X p = true ∨ bt (pI pp (zR gf r) 1) p = true) → I X') (X0 : Nat → Bool) (rc : Int32 → Int32 → (Nat → Int64) → (Nat → Int64) → (Nat → Int32) → (Nat → Int32) → (Nat → Int32) → (Nat → Int32) → Int32 → Int32 → Int32 → Int32 → Int32 → Int32 → Int32 → r_k_X3_spread) (v2 : Int32) (kr kv kb : Nat → Int32) (kn : Int32) :
    ∀ d m i W (X : Nat → Bool) po hds gw hn b0 b1 b2 b3, many - i = d → d < m → i ≤ many → ws6 po X → I X → (∀ p, X0 p = true → X p = true) → (∀ r, bt W r = true → r < many ∧ (¬ zK pp gf r = 119 ∧ ((1 : Int32) = 0 → pDf pp rf r = true))) → (∀ r, r < many → (¬ zK pp gf r = 119 ∧ ((1 : Int32) = 0 → pDf pp rf r = true)) → bt W r = false → ((∀ p, bt (pI pp (zR gf r) 4) p = true → X p = true) ∧ ∀ p, bt (pI pp (zR gf r) 5) p = true → S p = false) → ∀ p, bt (pI pp (zR gf r) 1) p = true → X p = true) → (∀ r, r < i → bt W r = true → cn X0 < cn X) →
      ∃ W' X' x' hds' gw' hn' b0' b1' b2' b3', m_k_X3_spread_21 pp (nI many) 1 rf tp tq 1 rc v2 m W (nI i) su po hds kr kv kb gw hn kn b0 b1 b2 b3 = rc W' (v2 + 1) su x' hds' kr kv kb gw' hn' kn b0' b1' b2' b3' ∧ ws6 x' X' ∧ I X' ∧ (∀ p, X0 p = true → X' p = true) ∧ (∀ r, bt W' r = true → r < many ∧ (¬ zK pp gf r = 119 ∧ ((1 : Int32) = 0 → pDf pp rf r = true))) ∧ (∀ r, r < many → (¬ zK pp gf r = 119 ∧ ((1 : Int32) = 0 → pDf pp rf r = true)) → bt W' r = false → ((∀ p, bt (pI pp (zR gf r) 4) p = true → X' p = true) ∧ ∀ p, bt (pI pp (zR gf r) 5) p = true → S p = false) → ∀ p, bt (pI pp (zR gf r) 1) p = true → X' p = true) ∧ ∀ r, bt W' r = true → cn X0 < cn X' := by
  have hm := h.1.1
  intro d
  induction d with
  | zero =>
    intro m i W X po hds gw hn b0 b1 b2 b3 hd hm' hi hw hi1 hi2 hi3 hi4 hi5
    obtain ⟨m, rfl⟩ : ∃ q, m = q + 1 := ⟨m - 1, by omega⟩
    have : i = many := by omega
    subst this
    refine ⟨W, X, po, hds, gw, hn, b0, b1, b2, b3, ?_, hw, hi1, hi2, hi3, hi4, fun r hr => hi5 r (hi3 r hr).1 hr⟩
    rw [m_k_X3_spread_21_succ, m_k_X3_spread_21s, if_pos (Int32.le_refl _)]
  | succ d ih =>
    intro m i W X po hds gw hn b0 b1 b2 b3 hd hm' hi hw hi1 hi2 hi3 hi4 hi5
    obtain ⟨m, rfl⟩ : ∃ q, m = q + 1 := ⟨m - 1, by omega⟩
    have hi' : i < many := by omega
    obtain ⟨-, hh, c, hk⟩ := h.2 i hi'
    rw [m_k_X3_spread_21_succ, m_k_X3_spread_21s, if_neg (by rw [kI_le (by omega) (by omega)]; omega), lE, p_rule h hi', oE_some]
    by_cases c1 : (W >>> (nI i &&& 31)) &&& 1 = 0
    · rw [if_pos c1, m_k_X3_spread_135, kI_s]
      have c1' := (b_shr0 (by omega)).mp c1
      refine ih m (i + 1) W X po hds gw hn b0 b1 b2 b3 (by omega) (by omega) (by omega) hw hi1 hi2 hi3 hi4 fun r hr hb => ?_
      rcases (show r = i ∨ r < i by omega) with rfl | g
      · rw [c1'] at hb
        cases hb
      · exact hi5 r g hb
    · rw [if_neg c1]
      have c1' : bt W i = true := by
        cases hb : bt W i with
        | true => rfl
        | false => exact absurd ((b_shr0 (by omega)).mpr hb) c1
      have hact := (hi3 i c1').2
      obtain ⟨m0, hm0⟩ := wF_ge
      obtain ⟨x', g', hds', hn', b1', b2', b3', X', e, f1, f2, f3⟩ := each_1 hk hn kn b0 b1 b2 hds kr kv kb (nI i) hs hw
      rw [hm0, show m0 + 1000 = (m0 + 998) + 1 + 1 from rfl, m_k_X3_spread_74_succ, m_k_X3_spread_74s, if_neg (by decide), lE, hk.2.2.2.1, p_param ht hq, lE, e]
      dsimp only
      rw [m_k_X3_spread_74_succ, m_k_X3_spread_74s, if_pos (by decide)]
      have hsub : ∀ p, X p = true → X' p = true := fun p hp => (f2 p).mpr (Or.inl hp)
      have small : ∀ p, bt (pI pp (zR gf i) 1) p = true → p < 6 := fun p hp => by
        by_cases g : p < 6
        · exact g
        · have := (h.1.at hi').2.2.2.2.1 p (by omega)
          rw [hp] at this
          cases this
      have grow : ¬ g' = 0 → cn X < cn X' := fun hg => by
        obtain ⟨p, -, hp⟩ := b_ne hg
        have g := (f3 p).mp hp
        have g2 := (f2 p).mp g.2
        rcases g2 with g2 | g2
        · rw [g.1] at g2
          cases g2
        · exact cn_lt (fun q _ hq => hsub q hq) (small p g2.2) g.1 g.2
      have hcm : cn X0 ≤ cn X := cn_mono fun q _ hq => hi2 q hq
      have hIX : I X' := by
        by_cases hc : ((∀ p, bt (pI pp (zR gf i) 4) p = true → X p = true) ∧ ∀ p, bt (pI pp (zR gf i) 5) p = true → S p = false)
        · refine hI X X' i hi' hact hi1 hc fun p => ?_
          rw [f2 p]
          exact ⟨fun e => e.elim Or.inl fun e => Or.inr e.2, fun e => e.elim Or.inl fun e => Or.inr ⟨hc, e⟩⟩
        · have : X' = X := funext fun p => by
            rw [Bool.eq_iff_iff, f2 p]
            exact ⟨fun e => e.elim id fun e => absurd e.1 hc, Or.inl⟩
          rw [this]
          exact hi1
      have go : ∀ s9 : Int32, (∀ r, bt s9 r = true → r < many ∧ (¬ zK pp gf r = 119 ∧ ((1 : Int32) = 0 → pDf pp rf r = true))) → (∀ r, r < many → (¬ zK pp gf r = 119 ∧ ((1 : Int32) = 0 → pDf pp rf r = true)) → bt s9 r = false → ∀ p, bt (pI pp (zR gf r) 4) p = true → X' p = true → X p = true) → (¬ s9 = 0 → ¬ g' = 0) →
          ∃ W' X' xz hdz gwz hnz bz0 bz1 bz2 bz3, m_k_X3_spread_21 pp (nI many) 1 rf tp tq 1 rc v2 m ((W &&& (((1 : Int32) <<< (nI i &&& 31)) ^^^ (-1))) ||| s9) (nI (i + 1)) su x' hds' kr kv kb g' hn' kn b1' b2' b3' 0 = rc W' (v2 + 1) su xz hdz kr kv kb gwz hnz kn bz0 bz1 bz2 bz3 ∧ ws6 xz X' ∧ I X' ∧ (∀ p, X0 p = true → X' p = true) ∧ (∀ r, bt W' r = true → r < many ∧ (¬ zK pp gf r = 119 ∧ ((1 : Int32) = 0 → pDf pp rf r = true))) ∧ (∀ r, r < many → (¬ zK pp gf r = 119 ∧ ((1 : Int32) = 0 → pDf pp rf r = true)) → bt W' r = false → ((∀ p, bt (pI pp (zR gf r) 4) p = true → X' p = true) ∧ ∀ p, bt (pI pp (zR gf r) 5) p = true → S p = false) → ∀ p, bt (pI pp (zR gf r) 1) p = true → X' p = true) ∧ ∀ r, bt W' r = true → cn X0 < cn X' := fun s9 h9 h10 h11 => by
        have hb : ∀ r, bt ((W &&& (((1 : Int32) <<< (nI i &&& 31)) ^^^ (-1))) ||| s9) r = ((bt W r && !decide (r = i)) || bt s9 r) := fun r => by
          by_cases hr : r < 32
          · rw [b_or, b_and, b_not _ hr, b_one' (by omega)]
          · rw [b_big (Nat.not_lt.mp hr), b_big (Nat.not_lt.mp hr), b_big (Nat.not_lt.mp hr)]
            rfl
        refine ih m (i + 1) _ X' x' hds' g' hn' b1' b2' b3' 0 (by omega) (by omega) (by omega) f1 hIX (fun p hp => hsub p (hi2 p hp)) (fun r hr => ?_) (fun r hr ha hbr hc => ?_) (fun r hr hbr => ?_)
        · rw [hb r, Bool.or_eq_true] at hr
          rcases hr with hr | hr
          · exact hi3 r ((Bool.and_eq_true _ _).mp hr).1
          · exact h9 r hr
        · rw [hb r, Bool.or_eq_false_iff] at hbr
          have hcX : ((∀ p, bt (pI pp (zR gf r) 4) p = true → X p = true) ∧ ∀ p, bt (pI pp (zR gf r) 5) p = true → S p = false) := ⟨fun p hp => h10 r hr ha hbr.2 p hp (hc.1 p hp), hc.2⟩
          intro p hp
          by_cases er : r = i
          · subst er
            exact (f2 p).mpr (Or.inr ⟨hcX, hp⟩)
          · have hbr1 := hbr.1
            rw [decide_eq_false er] at hbr1
            refine hsub p (hi4 r hr ha ?_ hcX p hp)
            cases hz : bt W r with
            | false => rfl
            | true => rw [hz] at hbr1; cases hbr1
        · rw [hb r, Bool.or_eq_true] at hbr
          rcases hbr with hbr | hbr
          · have h12 := (Bool.and_eq_true _ _).mp hbr
            rcases (show r = i ∨ r < i by omega) with rfl | g
            · have := h12.2
              rw [decide_eq_true rfl] at this
              cases this
            · have h13 := hi5 r g h12.1
              have h14 : cn X ≤ cn X' := cn_mono fun q _ hq => hsub q hq
              omega
          · have h13 : ¬ s9 = 0 := fun e0 => by rw [e0, b_0] at hbr; cases hbr
            have := grow (h11 h13)
            omega
      by_cases c2 : g' = 0
      · rw [if_pos c2, m_k_X3_spread_133, m_k_X3_spread_135, kI_s]
        refine go 0 (fun r hr => by rw [b_0] at hr; cases hr) (fun r _ _ _ p _ hp => ?_) (fun e0 => absurd rfl e0)
        cases hx : X p with
        | true => rfl
        | false =>
          have := (f3 p).mpr ⟨hx, hp⟩
          rw [c2, b_0] at this
          cases this
      · rw [if_neg c2, lE, m_k_X3_spread_133, m_k_X3_spread_135, kI_s]
        refine go _ (fun r hr => ?_) (fun r hr ha hb p hp hx' => ?_) (fun _ => c2)
        · have g := (p_needing h 1 g' r).mp hr
          exact ⟨g.1, g.2.1, g.2.2.1⟩
        · cases hx : X p with
          | true => rfl
          | false =>
            have hg := (f3 p).mpr ⟨hx, hx'⟩
            have := (p_needing h 1 g' r).mpr ⟨hr, ha.1, ha.2, Or.inr fun e0 => by
              have h15 := b_dis.mp e0 p hg
              rw [hp] at h15
              cases h15⟩
            rw [hb] at this
            cases this
theorem spread_1 (h : prOK pp n rf gf many) {tp tq : Nat → Int32} (ht : tp 0 = 0) (hq : tq 0 = 0) {su : Nat → Int64} {S : Nat → Bool} (hs : ws6 su S) (I : (Nat → Bool) → Prop) (hI : ∀ X X' r, r < many → (¬ zK pp gf r = 119 ∧ ((1 : Int32) = 0 → pDf pp rf r = true)) → I X → ((∀ p, bt (pI pp (zR gf r) 4) p = true → X p = true) ∧ ∀ p, bt (pI pp (zR gf r) 5) p = true → S p = false) → (∀ p, X' p = true ↔ X p = true ∨ bt (pI pp (zR gf r) 1) p = true) → I X') (kr kv kb : Nat → Int32) (kn : Int32) (hn gw b0 b1 b2 b3 : Int32) (hds : Nat → Int32) {X : Nat → Bool} {po : Nat → Int64} (hw : ws6 po X) (hi1 : I X) :
    ∃ X' x' hds' gw' hn' b0' b1' b2' b3', m_k_X3_spread pp (nI many) 1 rf tp tq hn kn 1 gw b0 b1 b2 b3 su po hds kr kv kb = (su, x', hds', kr, kv, kb, gw', hn', kn, b0', b1', b2', b3') ∧ ws6 x' X' ∧ I X' ∧ (∀ p, X p = true → X' p = true) ∧ ∀ r, r < many → (¬ zK pp gf r = 119 ∧ ((1 : Int32) = 0 → pDf pp rf r = true)) → ((∀ p, bt (pI pp (zR gf r) 4) p = true → X' p = true) ∧ ∀ p, bt (pI pp (zR gf r) 5) p = true → S p = false) → ∀ p, bt (pI pp (zR gf r) 1) p = true → X' p = true := by
  have hm := h.1.1
  have key : ∀ k m (v : Nat) W (X : Nat → Bool) po hds gw hn b0 b1 b2 b3, 6 - cn X ≤ k → v + k + 2 < 1000 → k + 2 < m → ws6 po X → I X → (∀ r, bt W r = true → r < many ∧ (¬ zK pp gf r = 119 ∧ ((1 : Int32) = 0 → pDf pp rf r = true))) → (∀ r, r < many → (¬ zK pp gf r = 119 ∧ ((1 : Int32) = 0 → pDf pp rf r = true)) → bt W r = false → ((∀ p, bt (pI pp (zR gf r) 4) p = true → X p = true) ∧ ∀ p, bt (pI pp (zR gf r) 5) p = true → S p = false) → ∀ p, bt (pI pp (zR gf r) 1) p = true → X p = true) →
      ∃ X' x' hds' gw' hn' b0' b1' b2' b3', m_k_X3_spread_8 pp (nI many) 1 rf tp tq 1 m W (nI v) su po hds kr kv kb gw hn kn b0 b1 b2 b3 = (su, x', hds', kr, kv, kb, gw', hn', kn, b0', b1', b2', b3') ∧ ws6 x' X' ∧ I X' ∧ (∀ p, X p = true → X' p = true) ∧ ∀ r, r < many → (¬ zK pp gf r = 119 ∧ ((1 : Int32) = 0 → pDf pp rf r = true)) → ((∀ p, bt (pI pp (zR gf r) 4) p = true → X' p = true) ∧ ∀ p, bt (pI pp (zR gf r) 5) p = true → S p = false) → ∀ p, bt (pI pp (zR gf r) 1) p = true → X' p = true := by
    intro k
    induction k with
    | zero =>
      intro m v W X po hds gw hn b0 b1 b2 b3 hk hv hmm hw hi1 hi3 hi4
      obtain ⟨m, rfl⟩ : ∃ q, m = q + 1 + 1 := ⟨m - 2, by omega⟩
      rw [m_k_X3_spread_8_succ, m_k_X3_spread_8s]
      by_cases c1 : W = 0
      · rw [if_pos c1]
        refine ⟨X, po, hds, gw, hn, b0, b1, b2, b3, rfl, hw, hi1, fun _ hp => hp, fun r hr ha hc => hi4 r hr ha (by rw [c1, b_0]) hc⟩
      · rw [if_neg c1, if_neg (by rw [show (1000 : Int32) = nI 1000 from rfl, kI_le (by omega) (by omega)]; omega)]
        obtain ⟨m0, hm0⟩ := wF_ge
        obtain ⟨W', X', x', hds', gw', hn', b0', b1', b2', b3', e, f1, f2, f3, f4, f5, f6⟩ := pass_1 h ht hq hs I hI X (m_k_X3_spread_8 pp (nI many) 1 rf tp tq 1 (m + 1)) (nI v) kr kv kb kn (many - 0) wF 0 W X po hds gw hn b0 b1 b2 b3 rfl (by rw [hm0]; omega) (Nat.zero_le _) hw hi1 (fun _ hp => hp) hi3 hi4 (fun r hr => absurd hr (Nat.not_lt_zero r))
        rw [show nI 0 = (0 : Int32) from rfl] at e
        rw [e, kI_s]
        by_cases c2 : W' = 0
        · rw [m_k_X3_spread_8_succ, m_k_X3_spread_8s, if_pos c2]
          exact ⟨X', x', hds', gw', hn', b0', b1', b2', b3', rfl, f1, f2, f3, fun r hr ha hc => f5 r hr ha (by rw [c2, b_0]) hc⟩
        · obtain ⟨r, -, hr⟩ := b_ne c2
          have hlt := f6 r hr
          have h2 := cn_le X'
          omega
    | succ k ih =>
      intro m v W X po hds gw hn b0 b1 b2 b3 hk hv hmm hw hi1 hi3 hi4
      obtain ⟨m, rfl⟩ : ∃ q, m = q + 1 + 1 := ⟨m - 2, by omega⟩
      rw [m_k_X3_spread_8_succ, m_k_X3_spread_8s]
      by_cases c1 : W = 0
      · rw [if_pos c1]
        refine ⟨X, po, hds, gw, hn, b0, b1, b2, b3, rfl, hw, hi1, fun _ hp => hp, fun r hr ha hc => hi4 r hr ha (by rw [c1, b_0]) hc⟩
      · rw [if_neg c1, if_neg (by rw [show (1000 : Int32) = nI 1000 from rfl, kI_le (by omega) (by omega)]; omega)]
        obtain ⟨m0, hm0⟩ := wF_ge
        obtain ⟨W', X', x', hds', gw', hn', b0', b1', b2', b3', e, f1, f2, f3, f4, f5, f6⟩ := pass_1 h ht hq hs I hI X (m_k_X3_spread_8 pp (nI many) 1 rf tp tq 1 (m + 1)) (nI v) kr kv kb kn (many - 0) wF 0 W X po hds gw hn b0 b1 b2 b3 rfl (by rw [hm0]; omega) (Nat.zero_le _) hw hi1 (fun _ hp => hp) hi3 hi4 (fun r hr => absurd hr (Nat.not_lt_zero r))
        rw [show nI 0 = (0 : Int32) from rfl] at e
        rw [e, kI_s]
        by_cases c2 : W' = 0
        · rw [m_k_X3_spread_8_succ, m_k_X3_spread_8s, if_pos c2]
          exact ⟨X', x', hds', gw', hn', b0', b1', b2', b3', rfl, f1, f2, f3, fun r hr ha hc => f5 r hr ha (by rw [c2, b_0]) hc⟩
        · obtain ⟨r, -, hr⟩ := b_ne c2
          have hlt := f6 r hr
          obtain ⟨X2, x2, hds2, gw2, hn2, b02, b12, b22, b32, e2, q1, q2, q3, q4⟩ := ih (m + 1) (v + 1) W' X' x' hds' gw' hn' b0' b1' b2' b3' (by omega) (by omega) (by omega) f1 f2 f4 f5
          exact ⟨X2, x2, hds2, gw2, hn2, b02, b12, b22, b32, e2, q1, q2, fun p hp => q3 p (f3 p hp), q4⟩
  obtain ⟨m0, hm0⟩ := wF_ge
  unfold m_k_X3_spread
  rw [lE]
  have hn6 := cn_le X
  refine key 6 wF 0 _ X po hds gw hn b0 b1 b2 b3 (by omega) (by omega) (by rw [hm0]; omega) hw hi1 (fun r hr => ?_) (fun r hr ha hb => ?_)
  · have g := (p_needing h 1 (-1) r).mp hr
    exact ⟨g.1, g.2.1, g.2.2.1⟩
  · have := (p_needing h 1 (-1) r).mpr ⟨hr, ha.1, ha.2, Or.inl rfl⟩
    rw [hb] at this
    cases this
end SP
