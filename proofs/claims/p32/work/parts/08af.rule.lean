/-! the pure argument, 6: a rule of the class and its row -/
def pd (pp : pT) (b : Nat) : Nat := (pI pp b 1).toNatClampNeg
def lOK (pp : pT) (n b : Nat) : Prop := pI pp b 3 = 0 ∧ pI pp b 4 = 0 ∧ pI pp b 5 = 0 ∧ pI pp b 6 = 0 ∧ pI pp b 7 = 0 ∧ pI pp b 1 = nI (pd pp b) ∧ pd pp b < n
def hA (pp : pT) (a i : Nat) : Nat := (pF pp a 0 i).getD 0
def cA (pp : pT) (a i : Nat) : Nat := (pF pp a 1 i).getD 0
def hOK (pp : pT) (n a z h : Nat) : Prop := h ≤ 2 ∧ pI pp a 8 = nI h ∧ (pI pp a 0 = 119 → h = 0) ∧ (∀ i, i < h → pF pp a 0 i = some (hA pp a i) ∧ lOK pp n (hA pp a i)) ∧ ∀ p, bt (pI pp z 1) p = true ↔ ∃ i, i < h ∧ pd pp (hA pp a i) = p
def kOK (pp : pT) (b : Nat) : Prop := pI pp b 0 = 116 ∨ pI pp b 0 = 102 ∨ pI pp b 0 = 103 ∧ pI pp b 2 = 1 ∨ pI pp b 0 = 108 ∧ pI pp b 2 = 0
def cOK (pp : pT) (n a z c : Nat) : Prop := c ≤ 3 ∧ pI pp a 10 = nI c ∧ (∀ i, i < c → pF pp a 1 i = some (cA pp a i) ∧ lOK pp n (cA pp a i) ∧ kOK pp (cA pp a i)) ∧ (∀ p, bt (pI pp z 4) p = true ↔ ∃ i, i < c ∧ pI pp (cA pp a i) 0 = 116 ∧ pd pp (cA pp a i) = p) ∧ (∀ p, bt (pI pp z 5) p = true ↔ ∃ i, i < c ∧ pI pp (cA pp a i) 0 = 102 ∧ pd pp (cA pp a i) = p) ∧ (∀ p, bt (pI pp z 8) p = true ↔ ∃ i, i < c ∧ pI pp (cA pp a i) 0 = 103 ∧ pd pp (cA pp a i) = p) ∧ (∀ p, bt (pI pp z 9) p = true ↔ ∃ i, i < c ∧ pI pp (cA pp a i) 0 = 108 ∧ pd pp (cA pp a i) = p)
def rOK (pp : pT) (n a z h c : Nat) : Prop := n ≤ 6 ∧ (pI pp a 0 = 100 ∨ pI pp a 0 = 99 ∨ pI pp a 0 = 119) ∧ pI pp z 0 = pI pp a 0 ∧ pI pp a 1 = 0 ∧ pI pp a 4 = -1 ∧ (pI pp a 0 = 99 → pI pp a 2 = pI pp z 2 ∧ pI pp a 3 = pI pp z 3) ∧ (pI pp a 0 = 119 → pI pp a 5 = pI pp z 2 ∧ pI pp a 6 = pI pp z 3) ∧ hOK pp n a z h ∧ cOK pp n a z c
theorem n_small {i k : Nat} (hi : i < k) (hk : k ≤ 100) : i < 2147483648 := by omega
section RU
variable {pp : pT} {n a z h c : Nat}
theorem r_cond (hr : rOK pp n a z h c) {i : Nat} (hi : i < c) : m_k_X8_conditionAt pp a (nI i) = some (cA pp a i) := by
  obtain ⟨-, -, -, -, -, -, -, -, hc, h10, hl, -⟩ := hr
  unfold m_k_X8_conditionAt
  have h3 : c < 2147483648 := by omega
  rw [h10, if_neg (by rw [show (0 : Int32) = nI 0 from rfl, kI_lt (by omega) (by omega)]; omega), if_neg (by rw [kI_le (by omega) (by omega)]; omega), if_neg (by rw [show (5 : Int32) = nI 5 from rfl, kI_le (by omega) (by omega)]; omega), kI_nat (by omega), (hl i hi).1, oE_some]
theorem r_head (hr : rOK pp n a z h c) {i : Nat} (hi : i < h) : m_k_X8_headAt pp a (nI i) = some (hA pp a i) := by
  obtain ⟨-, -, -, -, -, -, -, ⟨hh, h8, -, hl, -⟩, -⟩ := hr
  unfold m_k_X8_headAt
  rw [h8, if_neg (by rw [show (0 : Int32) = nI 0 from rfl, kI_lt (by omega) (by omega)]; omega), if_neg (by rw [kI_le (by omega) (by omega)]; omega), if_neg (by rw [show (2 : Int32) = nI 2 from rfl, kI_le (by omega) (by omega)]; omega), kI_nat (by omega), (hl i hi).1, oE_some]
theorem r_isCount (b : Nat) : tv (m_k_X4_isCount pp b) (pI pp b 0 = 103 ∨ pI pp b 0 = 108) := by
  unfold m_k_X4_isCount m_k_X4_isCount_18
  by_cases c1 : pI pp b 0 = 103
  · rw [if_pos c1]; exact tv.one (Or.inl c1)
  · rw [if_neg c1]
    by_cases c2 : pI pp b 0 = 108
    · rw [if_pos c2]; exact tv.one (Or.inr c2)
    · rw [if_neg c2]; exact tv.zero fun h => h.elim c1 c2
/-- a loop over conditions that ends early with 0 where one isn't as it should be -/
theorem cond_all (f : Nat → Int32 → Int32) (P : Nat → Prop) (Z : Int32) (E : Prop) (hZ : tv Z E) (hend : ∀ m, f (m + 1) (nI c) = Z) (hstep : ∀ m i, i < c → f (m + 1) (nI i) = f m (nI (i + 1)) ∧ P i ∨ f (m + 1) (nI i) = 0 ∧ ¬ P i) :
    ∀ d m i, c - i = d → d < m → i ≤ c → tv (f m (nI i)) (E ∧ ∀ r, i ≤ r → r < c → P r) := by
  intro d
  induction d with
  | zero =>
    intro m i hd hm hi
    obtain ⟨m, rfl⟩ : ∃ q, m = q + 1 := ⟨m - 1, by omega⟩
    have : i = c := by omega
    subst this
    rw [hend]
    exact hZ.iff ⟨fun e => ⟨e, fun r h1 h2 => absurd h2 (by omega)⟩, fun h => h.1⟩
  | succ d ih =>
    intro m i hd hm hi
    obtain ⟨m, rfl⟩ : ∃ q, m = q + 1 := ⟨m - 1, by omega⟩
    rcases hstep m i (by omega) with ⟨e, hp⟩ | ⟨e, hp⟩
    · rw [e]
      refine (ih m (i + 1) (by omega) (by omega) (by omega)).iff ⟨fun h => ⟨h.1, fun r g1 g2 => ?_⟩, fun h => ⟨h.1, fun r g1 g2 => h.2 r (by omega) g2⟩⟩
      rcases (show r = i ∨ i + 1 ≤ r by omega) with rfl | g
      · exact hp
      · exact h.2 r g g2
    · rw [e]
      exact tv.zero fun h => hp (h.2 i (Nat.le_refl _) (by omega))
theorem wF_ge : ∃ m, wF = m + 1000 := ⟨4294966297, rfl⟩
theorem c_end (hr : rOK pp n a z h c) : pI pp a 10 ≤ nI c := by
  rw [hr.2.2.2.2.2.2.2.2.2.1]
  exact Int32.le_refl _
theorem c_in (hr : rOK pp n a z h c) {i : Nat} (hi : i < c) : ¬ pI pp a 10 ≤ nI i := by
  have h3 := hr.2.2.2.2.2.2.2.2.1
  rw [hr.2.2.2.2.2.2.2.2.2.1, kI_le (by omega) (by omega)]
  omega
theorem r_hasCounts (hr : rOK pp n a z h c) : tv (m_k_X8_hasCounts pp a) (∃ i, i < c ∧ (pI pp (cA pp a i) 0 = 103 ∨ pI pp (cA pp a i) 0 = 108)) := by
  have h3 := hr.2.2.2.2.2.2.2.2.1
  have key : ∀ d m i, c - i = d → d < m → i ≤ c → tv (m_k_X8_hasCounts_2 pp a m (nI i)) (∃ r, i ≤ r ∧ r < c ∧ (pI pp (cA pp a r) 0 = 103 ∨ pI pp (cA pp a r) 0 = 108)) := by
    intro d
    induction d with
    | zero =>
      intro m i hd hm hi
      obtain ⟨m, rfl⟩ : ∃ q, m = q + 1 := ⟨m - 1, by omega⟩
      have : i = c := by omega
      subst this
      rw [m_k_X8_hasCounts_2_succ, m_k_X8_hasCounts_2s, if_pos (c_end hr)]
      exact tv.zero fun ⟨r, g1, g2, _⟩ => by omega
    | succ d ih =>
      intro m i hd hm hi
      obtain ⟨m, rfl⟩ : ∃ q, m = q + 1 := ⟨m - 1, by omega⟩
      have hi' : i < c := by omega
      have hk := r_isCount (pp := pp) (cA pp a i)
      rw [m_k_X8_hasCounts_2_succ, m_k_X8_hasCounts_2s, if_neg (c_in hr hi'), lE, r_cond hr hi', oE_some, lE, m_k_X8_hasCounts_29, kI_s]
      by_cases c1 : m_k_X4_isCount pp (cA pp a i) = 0
      · rw [if_pos c1]
        refine (ih m (i + 1) (by omega) (by omega) (by omega)).iff ⟨fun ⟨r, g1, g2, g3⟩ => ⟨r, by omega, g2, g3⟩, fun ⟨r, g1, g2, g3⟩ => ⟨r, ?_, g2, g3⟩⟩
        rcases (show r = i ∨ i + 1 ≤ r by omega) with rfl | g
        · exact absurd g3 (hk.z.mp c1)
        · exact g
      · rw [if_neg c1]
        exact tv.one ⟨i, Nat.le_refl _, hi', hk.nz.mp c1⟩
  obtain ⟨m, hm⟩ := wF_ge
  refine (key (c - 0) wF 0 rfl (by rw [hm]; omega) (Nat.zero_le _)).iff ⟨fun ⟨r, _, g2, g3⟩ => ⟨r, g2, g3⟩, fun ⟨r, g2, g3⟩ => ⟨r, Nat.zero_le _, g2, g3⟩⟩
theorem r_isDefinite (hr : rOK pp n a z h c) : tv (m_k_X8_isDefinite pp a) ((pI pp a 0 = 100 ∧ h = 1) ∧ ∀ i, i < c → pI pp (cA pp a i) 0 = 116) := by
  have h3 := hr.2.2.2.2.2.2.2.2.1
  have hh := hr.2.2.2.2.2.2.2.1.1
  have key := cond_all (c := c) (m_k_X8_isDefinite_2 pp a) (fun i => pI pp (cA pp a i) 0 = 116) (if pI pp a 0 = 100 then if pI pp a 8 = 1 then 1 else 0 else 0) (pI pp a 0 = 100 ∧ h = 1)
    (by
      by_cases c1 : pI pp a 0 = 100
      · rw [if_pos c1, hr.2.2.2.2.2.2.2.1.2.1]
        by_cases c2 : h = 1
        · subst c2
          rw [if_pos (show nI 1 = 1 from rfl)]
          exact tv.one ⟨c1, rfl⟩
        · rw [if_neg (by rw [show (1 : Int32) = nI 1 from rfl, kI_eq (by omega) (by omega)]; exact c2)]
          exact tv.zero fun h => c2 h.2
      · rw [if_neg c1]
        exact tv.zero fun h => c1 h.1)
    (fun m => by rw [m_k_X8_isDefinite_2_succ, m_k_X8_isDefinite_2s, if_pos (c_end hr)])
    (fun m i hi => by
      have hk := r_isCount (pp := pp) (cA pp a i)
      have hko := (hr.2.2.2.2.2.2.2.2.2.2.1 i hi).2.2
      rw [m_k_X8_isDefinite_2_succ, m_k_X8_isDefinite_2s, if_neg (c_in hr hi), lE, r_cond hr hi, oE_some, lE, m_k_X8_isDefinite_38, kI_s]
      by_cases c1 : pI pp (cA pp a i) 0 = 102
      · rw [if_pos c1]
        exact Or.inr ⟨rfl, fun e => absurd (c1.symm.trans e) (by decide)⟩
      · rw [if_neg c1]
        by_cases c2 : m_k_X4_isCount pp (cA pp a i) = 0
        · rw [if_pos c2]
          refine Or.inl ⟨rfl, ?_⟩
          have := hk.z.mp c2
          rcases hko with g | g | g | g
          · exact g
          · exact absurd g c1
          · exact absurd (Or.inl g.1) this
          · exact absurd (Or.inr g.1) this
        · rw [if_neg c2]
          refine Or.inr ⟨rfl, fun e => ?_⟩
          rcases hk.nz.mp c2 with g | g
          · exact absurd (g.symm.trans e) (by decide)
          · exact absurd (g.symm.trans e) (by decide))
  obtain ⟨m, hm⟩ := wF_ge
  exact (key (c - 0) wF 0 rfl (by rw [hm]; omega) (Nat.zero_le _)).iff ⟨fun g => ⟨g.1, fun i hi => g.2 i (Nat.zero_le _) hi⟩, fun g => ⟨g.1, fun i _ hi => g.2 i hi⟩⟩
theorem l_pd {b : Nat} (hb : lOK pp n b) (hn : n ≤ 6) : pI pp b 1 = nI (pd pp b) ∧ pd pp b < 6 := ⟨hb.2.2.2.2.2.1, Nat.lt_of_lt_of_le hb.2.2.2.2.2.2 hn⟩
theorem r_needed (hr : rOK pp n a z h c) : m_k_X8_neededPredicates pp a = pI pp z 4 := by
  have h3 := hr.2.2.2.2.2.2.2.2.1
  have h4 := hr.2.2.2.2.2.2.2.2.2.2.2.1
  have key : ∀ d m i (v : Int32), c - i = d → d < m → i ≤ c → (∀ p, bt v p = true ↔ ∃ r, r < i ∧ pI pp (cA pp a r) 0 = 116 ∧ pd pp (cA pp a r) = p) → m_k_X8_neededPredicates_4 pp a m v (nI i) = pI pp z 4 := by
    intro d
    induction d with
    | zero =>
      intro m i v hd hm hi hv
      obtain ⟨m, rfl⟩ : ∃ q, m = q + 1 := ⟨m - 1, by omega⟩
      have : i = c := by omega
      subst this
      rw [m_k_X8_neededPredicates_4_succ, m_k_X8_neededPredicates_4s, if_pos (c_end hr)]
      apply b_ext
      intro p _
      rw [Bool.eq_iff_iff, hv p, h4 p]
    | succ d ih =>
      intro m i v hd hm hi hv
      obtain ⟨m, rfl⟩ : ∃ q, m = q + 1 := ⟨m - 1, by omega⟩
      have hi' : i < c := by omega
      obtain ⟨-, hlo, -⟩ := hr.2.2.2.2.2.2.2.2.2.2.1 i hi'
      obtain ⟨e1, e2⟩ := l_pd hlo hr.1
      rw [m_k_X8_neededPredicates_4_succ, m_k_X8_neededPredicates_4s, if_neg (c_in hr hi'), lE, r_cond hr hi', oE_some]
      simp only [m_k_X8_neededPredicates_40, kI_s]
      by_cases c1 : pI pp (cA pp a i) 0 = 116
      · rw [if_pos c1, e1]
        refine ih m (i + 1) _ (by omega) (by omega) (by omega) fun p => ?_
        rw [b_or, b_one' (by omega), Bool.or_eq_true, hv p]
        constructor
        · rintro (⟨r, g1, g2, g3⟩ | g)
          · exact ⟨r, by omega, g2, g3⟩
          · exact ⟨i, by omega, c1, (of_decide_eq_true g).symm⟩
        · rintro ⟨r, g1, g2, g3⟩
          rcases (show r = i ∨ r < i by omega) with rfl | g
          · exact Or.inr (decide_eq_true g3.symm)
          · exact Or.inl ⟨r, g, g2, g3⟩
      · rw [if_neg c1]
        refine ih m (i + 1) v (by omega) (by omega) (by omega) fun p => ?_
        rw [hv p]
        constructor
        · rintro ⟨r, g1, g2, g3⟩
          exact ⟨r, by omega, g2, g3⟩
        · rintro ⟨r, g1, g2, g3⟩
          rcases (show r = i ∨ r < i by omega) with rfl | g
          · exact absurd g2 c1
          · exact ⟨r, g, g2, g3⟩
  obtain ⟨m, hm⟩ := wF_ge
  exact key (c - 0) wF 0 0 rfl (by rw [hm]; omega) (Nat.zero_le _) fun p => by rw [b_0]; exact ⟨fun e => (by cases e), fun ⟨r, g, _⟩ => by omega⟩
theorem l_names {b : Nat} (hb : lOK pp n b) {s : Int32} (hs : ¬ s = 0) : m_k_X4_names pp b s = 0 := by
  unfold m_k_X4_names
  rw [hb.1, hb.2.2.1, if_neg (fun e => hs e.symm), if_neg (fun e => hs e.symm)]
theorem r_values (hr : rOK pp n a z h c) {s : Int32} (hs : ¬ s = 0) : m_k_X8_valuesFor pp a s = 1 := by
  have h3 := hr.2.2.2.2.2.2.2.2.1
  have h8 := hr.2.2.2.2.2.2.2.1
  obtain ⟨q, hq⟩ := wF_ge
  have k2 : ∀ d m i, c - i = d → d < m → i ≤ c → m_k_X8_valuesFor_53 pp a s m (nI i) = 1 := by
    intro d
    induction d with
    | zero =>
      intro m i hd hm hi
      obtain ⟨m, rfl⟩ : ∃ q, m = q + 1 := ⟨m - 1, by omega⟩
      have : i = c := by omega
      subst this
      rw [m_k_X8_valuesFor_53_succ, m_k_X8_valuesFor_53s, if_pos (c_end hr)]
    | succ d ih =>
      intro m i hd hm hi
      obtain ⟨m, rfl⟩ : ∃ q, m = q + 1 := ⟨m - 1, by omega⟩
      have hi' : i < c := by omega
      obtain ⟨-, hlo, -⟩ := hr.2.2.2.2.2.2.2.2.2.2.1 i hi'
      rw [m_k_X8_valuesFor_53_succ, m_k_X8_valuesFor_53s, if_neg (c_in hr hi'), lE, r_cond hr hi', oE_some, lE, l_names hlo hs, if_pos rfl, m_k_X8_valuesFor_82, kI_s]
      exact ih m (i + 1) (by omega) (by omega) (by omega)
  have k1 : ∀ d m i, h - i = d → d < m → i ≤ h → m_k_X8_valuesFor_16 pp a s m (nI i) = 1 := by
    intro d
    induction d with
    | zero =>
      intro m i hd hm hi
      obtain ⟨m, rfl⟩ : ∃ q, m = q + 1 := ⟨m - 1, by omega⟩
      have : i = h := by omega
      subst this
      rw [m_k_X8_valuesFor_16_succ, m_k_X8_valuesFor_16s, if_pos (by rw [h8.2.1]; exact Int32.le_refl _)]
      exact k2 (c - 0) wF 0 rfl (by rw [hq]; omega) (Nat.zero_le _)
    | succ d ih =>
      intro m i hd hm hi
      obtain ⟨m, rfl⟩ : ∃ q, m = q + 1 := ⟨m - 1, by omega⟩
      have hi' : i < h := by omega
      have hh := h8.1
      rw [m_k_X8_valuesFor_16_succ, m_k_X8_valuesFor_16s, if_neg (by rw [h8.2.1, kI_le (by omega) (by omega)]; omega), lE, r_head hr hi', oE_some, lE, l_names (h8.2.2.2.1 i hi').2 hs, if_pos rfl, m_k_X8_valuesFor_45, kI_s]
      exact ih m (i + 1) (by omega) (by omega) (by omega)
  have hh := h8.1
  have k0 : m_k_X8_valuesFor_14 pp a s = 1 := k1 (h - 0) wF 0 rfl (by rw [hq]; omega) (Nat.zero_le _)
  unfold m_k_X8_valuesFor
  by_cases c1 : s = 3
  · rw [if_pos c1, lE, show m_k_X8_hasSpan pp a = 0 from if_pos hr.2.2.2.2.1, if_pos rfl]
    exact k0
  · rw [if_neg c1]
    exact k0
theorem l_value (b1 b2 b3 bp : Int32) : m_k_X2_valueOf b1 b2 b3 bp 0 0 = 0 := by
  unfold m_k_X2_valueOf
  rw [if_neg (by decide), if_neg (by decide), if_neg (by decide), if_neg (by decide)]
theorem l_atom {b : Nat} (hb : lOK pp n b) (hn : n ≤ 6) (b1 b2 b3 bp : Int32) : m_k_X2_atomOf pp b1 b2 b3 bp b = nI (64 * pd pp b) := by
  obtain ⟨e1, e2⟩ := l_pd hb hn
  unfold m_k_X2_atomOf
  rw [hb.1, hb.2.1, hb.2.2.1, hb.2.2.2.1, l_value, lE, lE, if_neg (by decide), if_neg (by decide), if_neg (by decide), if_pos (by decide), e1]
  have : ∀ p, p < 6 → ((nI p * 64) + (0 * 8)) + 0 = nI (64 * p) := by decide +kernel
  exact this _ e2
theorem l_test {b : Nat} (hb : lOK pp n b) (hk : pI pp b 0 = 103 ∨ pI pp b 0 = 108) (b1 b2 b3 bp : Int32) : m_k_X2_testHolds pp b1 b2 b3 bp b = 1 := by
  unfold m_k_X2_testHolds m_k_X2_testHolds_80
  rw [hb.1, hb.2.1, hb.2.2.1, hb.2.2.2.1, l_value, lE, lE]
  rcases hk with hk | hk
  · rw [hk, if_neg (by decide), if_neg (by decide), if_neg (by decide)]
  · rw [hk, if_neg (by decide), if_neg (by decide), if_neg (by decide)]
end RU
