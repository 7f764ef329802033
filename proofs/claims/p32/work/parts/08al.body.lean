/-! the pure argument, 12: counts and bodies in the solver -/
section BO
variable {pp : pT} {n many : Nat} {rf gf : Nat → Option Nat}
def oB (S Po : Nat → Bool) (obi sc : Nat → Int32) : Prop := (∀ p, p < 6 → cM (oO S Po) (fun q => decide (q = p)) (obi p)) ∧ ∀ p, p < 6 → sc p = nI (S p).toNat
theorem cn_one (f : Nat → Bool) {p : Nat} (hp : p < 6) : cn (fun q => f q && decide (q = p)) = (f p).toNat := by
  unfold cn
  rcases (show p = 0 ∨ p = 1 ∨ p = 2 ∨ p = 3 ∨ p = 4 ∨ p = 5 by omega) with rfl | rfl | rfl | rfl | rfl | rfl <;> simp
theorem k_found {S Po : Nat → Bool} {obi sc : Nat → Int32} (ho : oB S Po obi sc) (s : Int32) {p : Nat} (hp : p < 6) : sc p + m_k_J6_bitCount_0f7a4 (s &&& obi p) = nI (bt (phi S Po s) p).toNat := by
  rw [cM_cn (ho.1 p hp), ho.2 p hp, nI_add]
  congr 1
  have e : cn (fun q => oO S Po q && (decide (q = p) && bt (phi S Po s) q)) = (oO S Po p && bt (phi S Po s) p).toNat := by
    rw [← cn_one (fun q => oO S Po q && bt (phi S Po s) q) hp]
    refine cn_cong fun q _ => ?_
    cases oO S Po q <;> cases bt (phi S Po s) q <;> cases decide (q = p) <;> rfl
  rw [e, phi_b S Po s hp]
  cases hs : S p with
  | true =>
    have : oO S Po p = false := by
      cases ho : oO S Po p with
      | false => rfl
      | true => have := (oO_S ho).1; rw [hs] at this; cases this
    rw [this]
    rfl
  | false =>
    cases oO S Po p <;> cases bt s (pos (oO S Po) p) <;> rfl
theorem k_countHolds {S Po : Nat → Bool} {obi sc : Nat → Int32} (ho : oB S Po obi sc) (s : Int32) {b : Nat} (hb : lOK pp n b) (hn : n ≤ 6) (hk : pI pp b 0 = 103 ∧ pI pp b 2 = 1 ∨ pI pp b 0 = 108 ∧ pI pp b 2 = 0) : tv (m_k_X9_countHolds pp obi sc b s) ((pI pp b 0 = 103 → bt (phi S Po s) (pd pp b) = true) ∧ (pI pp b 0 = 108 → bt (phi S Po s) (pd pp b) = false)) := by
  obtain ⟨e1, e2⟩ := l_pd hb hn
  have hf := k_found ho s e2
  unfold m_k_X9_countHolds
  rw [e1, if_neg (by rw [show (0 : Int32) = nI 0 from rfl, kI_lt (by omega) (by omega)]; omega), if_pos (by rw [show (6 : Int32) = nI 6 from rfl, kI_lt (by omega) (by omega)]; omega), kI_nat (by omega), lE, hf]
  rcases hk with ⟨h0, h2⟩ | ⟨h0, h2⟩
  · rw [if_pos h0, h2]
    cases hp : bt (phi S Po s) (pd pp b) with
    | true =>
      rw [if_neg (by decide)]
      exact tv.one ⟨fun _ => rfl, fun e => absurd (h0.symm.trans e) (by decide)⟩
    | false =>
      rw [if_pos (by decide)]
      exact tv.zero fun e => by have := e.1 h0; cases this
  · rw [if_neg (by rw [h0]; decide), h2]
    cases hp : bt (phi S Po s) (pd pp b) with
    | true =>
      rw [if_pos (by decide)]
      exact tv.zero fun e => by have := e.2 h0; cases this
    | false =>
      rw [if_neg (by decide)]
      exact tv.one ⟨fun e => absurd (h0.symm.trans e) (by decide), fun _ => rfl⟩
theorem k_countsHold {a z h c : Nat} (hr : rOK pp n a z h c) {S Po : Nat → Bool} {obi sc : Nat → Int32} (ho : oB S Po obi sc) (s : Int32) : tv (m_k_X9_countsHold pp obi sc a s) ((∀ p, bt (pI pp z 8) p = true → bt (phi S Po s) p = true) ∧ ∀ p, bt (pI pp z 9) p = true → bt (phi S Po s) p = false) := by
  obtain ⟨h3, -, hl, -, -, h8, h9⟩ := hr.2.2.2.2.2.2.2.2
  have key := cond_all (c := c) (m_k_X9_countsHold_8 pp obi sc a s) (fun i => (pI pp (cA pp a i) 0 = 103 → bt (phi S Po s) (pd pp (cA pp a i)) = true) ∧ (pI pp (cA pp a i) 0 = 108 → bt (phi S Po s) (pd pp (cA pp a i)) = false)) 1 True (tv.one trivial)
    (fun m => by rw [m_k_X9_countsHold_8_succ, m_k_X9_countsHold_8s, if_pos (c_end hr)])
    (fun m i hi => by
      obtain ⟨-, hlo, hk⟩ := hl i hi
      have hc := r_isCount (pp := pp) (cA pp a i)
      rw [m_k_X9_countsHold_8_succ, m_k_X9_countsHold_8s, if_neg (c_in hr hi), lE, r_cond hr hi, oE_some, lE, m_k_X9_countsHold_48, kI_s]
      by_cases c1 : m_k_X4_isCount pp (cA pp a i) = 0
      · rw [if_pos c1]
        have := hc.z.mp c1
        exact Or.inl ⟨rfl, fun e => absurd (Or.inl e) this, fun e => absurd (Or.inr e) this⟩
      · rw [if_neg c1, lE]
        have h4 := hc.nz.mp c1
        have hk' : pI pp (cA pp a i) 0 = 103 ∧ pI pp (cA pp a i) 2 = 1 ∨ pI pp (cA pp a i) 0 = 108 ∧ pI pp (cA pp a i) 2 = 0 := by
          rcases hk with g | g | g | g
          · rcases h4 with h4 | h4 <;> exact absurd (g.symm.trans h4) (by decide)
          · rcases h4 with h4 | h4 <;> exact absurd (g.symm.trans h4) (by decide)
          · exact Or.inl g
          · exact Or.inr g
        have ht := k_countHolds ho s hlo hr.1 hk'
        by_cases c2 : m_k_X9_countHolds pp obi sc (cA pp a i) s = 0
        · rw [if_pos c2]
          exact Or.inr ⟨rfl, ht.z.mp c2⟩
        · rw [if_neg c2]
          exact Or.inl ⟨rfl, ht.nz.mp c2⟩)
  obtain ⟨m, hm⟩ := wF_ge
  refine (key (c - 0) wF 0 rfl (by rw [hm]; omega) (Nat.zero_le _)).iff ⟨fun g => ⟨fun p hp => ?_, fun p hp => ?_⟩, fun g => ⟨trivial, fun i _ hi => ⟨fun e => ?_, fun e => ?_⟩⟩⟩
  · obtain ⟨i, hi, e1, e2⟩ := (h8 p).mp hp
    rw [← e2]
    exact (g.2 i (Nat.zero_le _) hi).1 e1
  · obtain ⟨i, hi, e1, e2⟩ := (h9 p).mp hp
    rw [← e2]
    exact (g.2 i (Nat.zero_le _) hi).2 e1
  · exact g.1 _ ((h8 _).mpr ⟨i, hi, e, rfl⟩)
  · exact g.2 _ ((h9 _).mpr ⟨i, hi, e, rfl⟩)
/-- which rules have counts, a bit for each -/
def cgOK (pp : pT) (rf : Nat → Option Nat) (many : Nat) (cg : Int32) : Prop := ∀ r, bt cg r = true ↔ r < many ∧ ¬ m_k_X8_hasCounts pp (rA rf r) = 0
theorem all20 : ∀ r, r < 32 → bt 1048575 r = decide (r < 20) := by decide +kernel
theorem shr_0 {x : Int32} {k : Nat} (hk : k < 32) (h : x >>> (nI k &&& 31) = 0) : ∀ j, k ≤ j → bt x j = false := by
  intro j hj
  by_cases h32 : j < 32
  · have h1 : bt (x >>> (nI k &&& 31)) (j - k) = bt 0 (j - k) := by rw [h]
    rw [b_sshr k hk x (by omega), if_pos (by omega), b_0, show k + (j - k) = j by omega] at h1
    exact h1
  · exact b_big (Nat.not_lt.mp h32)
theorem k_held (h : prOK pp n rf gf many) {S Po : Nat → Bool} {obi sc : Nat → Int32} (ho : oB S Po obi sc) {cg : Int32} (hg : cgOK pp rf many cg) (s : Int32) {r : Nat} (hr : r < many) : bt (m_k_X9_countsHeld pp (nI many) rf cg obi sc s) r = true ↔ (∀ p, bt (pI pp (zR gf r) 8) p = true → bt (phi S Po s) p = true) ∧ ∀ p, bt (pI pp (zR gf r) 9) p = true → bt (phi S Po s) p = false := by
  have hm := h.1.1
  have nocount : ∀ r, r < many → bt cg r = false → (∀ p, bt (pI pp (zR gf r) 8) p = true → bt (phi S Po s) p = true) ∧ ∀ p, bt (pI pp (zR gf r) 9) p = true → bt (phi S Po s) p = false := fun r hr hb => by
    obtain ⟨-, hh, c, hk⟩ := h.2 r hr
    have h1 : m_k_X8_hasCounts pp (rA rf r) = 0 := by
      by_cases e : m_k_X8_hasCounts pp (rA rf r) = 0
      · exact e
      · rw [(hg r).mpr ⟨hr, e⟩] at hb; cases hb
    have h2 := (r_hasCounts hk).z.mp h1
    obtain ⟨-, -, -, -, -, h8, h9⟩ := hk.2.2.2.2.2.2.2.2
    refine ⟨fun p hp => ?_, fun p hp => ?_⟩
    · obtain ⟨i, g1, g2, -⟩ := (h8 p).mp hp
      exact absurd ⟨i, g1, Or.inl g2⟩ h2
    · obtain ⟨i, g1, g2, -⟩ := (h9 p).mp hp
      exact absurd ⟨i, g1, Or.inr g2⟩ h2
  obtain ⟨m0, hm0⟩ := wF_ge
  have key : ∀ d m i (v : Int32), many - i = d → d < m → i ≤ many → (∀ r, r < many → (i ≤ r ∧ bt v r = true) ∨ (r < i ∧ (bt v r = true ↔ (∀ p, bt (pI pp (zR gf r) 8) p = true → bt (phi S Po s) p = true) ∧ ∀ p, bt (pI pp (zR gf r) 9) p = true → bt (phi S Po s) p = false))) → ∀ r, r < many → (bt (m_k_X9_countsHeld_5 pp (nI many) rf cg obi sc s m v (nI i)) r = true ↔ (∀ p, bt (pI pp (zR gf r) 8) p = true → bt (phi S Po s) p = true) ∧ ∀ p, bt (pI pp (zR gf r) 9) p = true → bt (phi S Po s) p = false) := by
    intro d
    induction d with
    | zero =>
      intro m i v hd hm' hi hv r hr
      obtain ⟨m, rfl⟩ : ∃ q, m = q + 1 := ⟨m - 1, by omega⟩
      have hi' : i = many := by omega
      subst hi'
      rw [m_k_X9_countsHeld_5_succ, m_k_X9_countsHeld_5s]
      have hz : cg >>> (nI i &&& 31) = 0 := by
        apply b_ext
        intro j hj
        rw [b_0, b_sshr i (by omega) cg hj]
        have hno : ∀ q, i ≤ q → bt cg q = false := fun q hq => by
          cases hb : bt cg q with
          | false => rfl
          | true => have := ((hg q).mp hb).1; omega
        split
        · exact hno _ (by omega)
        · exact hno _ (by omega)
      rw [if_pos hz]
      rcases hv r hr with g | g
      · omega
      · exact g.2
    | succ d ih =>
      intro m i v hd hm' hi hv r hr
      obtain ⟨m, rfl⟩ : ∃ q, m = q + 1 := ⟨m - 1, by omega⟩
      have hi' : i < many := by omega
      obtain ⟨-, hh, c, hk⟩ := h.2 i hi'
      rw [m_k_X9_countsHeld_5_succ, m_k_X9_countsHeld_5s]
      by_cases c1 : cg >>> (nI i &&& 31) = 0
      · rw [if_pos c1]
        rcases hv r hr with g | g
        · have := nocount r hr (shr_0 (by omega) c1 r g.1)
          exact ⟨fun _ => this, fun _ => g.2⟩
        · exact g.2
      · rw [if_neg c1, if_neg (by rw [show (20 : Int32) = nI 20 from rfl, kI_le (by omega) (by omega)]; omega), lE, p_rule h hi', oE_some]
        simp only [m_k_X9_countsHeld_55, kI_s, lE]
        have st : ∀ v' : Int32, (∀ r, r < many → ¬ r = i → bt v' r = bt v r) → (bt v' i = true ↔ (∀ p, bt (pI pp (zR gf i) 8) p = true → bt (phi S Po s) p = true) ∧ ∀ p, bt (pI pp (zR gf i) 9) p = true → bt (phi S Po s) p = false) → (bt (m_k_X9_countsHeld_5 pp (nI many) rf cg obi sc s m v' (nI (i + 1))) r = true ↔ (∀ p, bt (pI pp (zR gf r) 8) p = true → bt (phi S Po s) p = true) ∧ ∀ p, bt (pI pp (zR gf r) 9) p = true → bt (phi S Po s) p = false) := fun v' h1 h2 => by
          refine ih m (i + 1) v' (by omega) (by omega) (by omega) (fun q hq => ?_) r hr
          by_cases e : q = i
          · subst e
            exact Or.inr ⟨by omega, h2⟩
          · rw [h1 q hq e]
            rcases hv q hq with g | g
            · exact Or.inl ⟨by omega, g.2⟩
            · exact Or.inr ⟨by omega, g.2⟩
        have hvi : bt v i = true := by
          rcases hv i hi' with g | g
          · exact g.2
          · omega
        by_cases c2 : ((cg >>> (nI i &&& 31)) &&& 1) = 0
        · rw [if_pos c2]
          have := nocount i hi' ((b_shr0 (by omega)).mp c2)
          exact st v (fun _ _ _ => rfl) ⟨fun _ => this, fun _ => hvi⟩
        · rw [if_neg c2]
          have ht := k_countsHold hk ho s
          by_cases c3 : m_k_X9_countsHold pp obi sc (rA rf i) s = 0
          · rw [if_pos c3]
            refine st _ (fun q hq hne => ?_) ?_
            · rw [b_and, b_not _ (by omega), b_one' (by omega), decide_eq_false hne]
              cases bt v q <;> rfl
            · rw [b_and, b_not _ (by omega), b_one' (by omega), decide_eq_true rfl]
              have := ht.z.mp c3
              constructor
              · intro e
                cases hv2 : bt v i <;> rw [hv2] at e <;> cases e
              · exact fun e => absurd e this
          · rw [if_neg c3]
            have := ht.nz.mp c3
            exact st v (fun _ _ _ => rfl) ⟨fun _ => this, fun _ => hvi⟩
  exact key (many - 0) wF 0 1048575 rfl (by rw [hm0]; omega) (Nat.zero_le _) (fun r hr => Or.inl ⟨Nat.zero_le _, by rw [all20 r (by omega)]; exact decide_eq_true (by omega)⟩) r hr
theorem k_body {c1 c2 c3 : Nat → Int32} {j : Nat} (hj : j < 300) (s held : Int32) {r : Nat} (hr : r < 32) (hc : c1 j = nI r) : tv (m_k_X7_bodyHolds c1 c2 c3 (nI j) s held) (s &&& c2 j = c2 j ∧ s &&& c3 j = 0 ∧ bt held r = true) := by
  unfold m_k_X7_bodyHolds
  rw [if_neg (by rw [show (0 : Int32) = nI 0 from rfl, kI_lt (by omega) (by omega)]; omega), if_pos (by rw [show (300 : Int32) = nI 300 from rfl, kI_lt (by omega) (by omega)]; omega), kI_nat (by omega), hc]
  by_cases d1 : s &&& c2 j = c2 j
  · rw [if_pos d1]
    by_cases d2 : s &&& c3 j = 0
    · rw [if_pos d2]
      by_cases d3 : (held >>> (nI r &&& 31)) &&& 1 = 0
      · rw [if_pos d3]
        exact tv.zero fun e => by rw [(b_shr0 hr).mp d3] at e; cases e.2.2
      · rw [if_neg d3]
        refine tv.one ⟨d1, d2, ?_⟩
        cases hb : bt held r with
        | true => rfl
        | false => exact absurd ((b_shr0 hr).mpr hb) d3
    · rw [if_neg d2]
      exact tv.zero fun e => d2 e.2.1
  · rw [if_neg d1]
    exact tv.zero fun e => d1 e.1
/-- a row of the solver: rule, need, bar -/
def rwB (pp : pT) (gf : Nat → Option Nat) (many : Nat) (S Po : Nat → Bool) (r : Nat) (x1 x2 x3 : Int32) : Prop := r < many ∧ x1 = nI r ∧ kK pp gf S Po r ∧ cM (oO S Po) (zM pp gf 4 r) x2 ∧ cM (oO S Po) (zM pp gf 5 r) x3
theorem k_row (h : prOK pp n rf gf many) {S Po : Nat → Bool} {obi sc : Nat → Int32} (ho : oB S Po obi sc) {cg : Int32} (hg : cgOK pp rf many cg) {c1 c2 c3 : Nat → Int32} {j r : Nat} (hj : j < 300) (hw : rwB pp gf many S Po r (c1 j) (c2 j) (c3 j)) (s : Int32) : tv (m_k_X7_bodyHolds c1 c2 c3 (nI j) s (m_k_X9_countsHeld pp (nI many) rf cg obi sc s)) (tB (zM pp gf 4) (zM pp gf 5) (zM pp gf 8) (zM pp gf 9) r (bt (phi S Po s))) := by
  obtain ⟨hr, e1, hk, h2, h3⟩ := hw
  have hm := h.1.1
  obtain ⟨-, -, -, -, -, s4, s5, -⟩ := h.1.at hr
  refine (k_body hj s _ (by omega) e1).iff ?_
  rw [k_held h ho hg s hr, cM_sub h2 fun p hp => ⟨?_, hk.1 p hp⟩, cM_dis h3 fun p hp => ⟨?_, hk.2 p hp⟩]
  · exact ⟨fun e => ⟨e.1, e.2.1, e.2.2.1, e.2.2.2⟩, fun e => ⟨e.1, e.2.1, e.2.2.1, e.2.2.2⟩⟩
  · by_cases g : p < 6
    · exact g
    · rw [show zM pp gf 5 r p = false from s5 p (by omega)] at hp; cases hp
  · by_cases g : p < 6
    · exact g
    · rw [show zM pp gf 4 r p = false from s4 p (by omega)] at hp; cases hp
end BO
