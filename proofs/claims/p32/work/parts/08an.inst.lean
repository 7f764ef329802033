/-! the pure argument, 14: one instance compiled, all of them, the solver's other data -/
section CI
variable {pp : pT} {n many : Nat} {rf gf : Nat → Option Nat}
theorem k_unpack : m_k_X2_unpack 0 = (0, 0, 0, 0) := by decide +kernel
/-- need and bar of a body -/
theorem k_masks {a r h c : Nat} (hr : rOK pp n a (zR gf r) h c) {S Po : Nat → Bool} {oa ob : Nat → Int32} (ho : oN (oO S Po) oa ob) (hn : Int32) (su : Nat → Int64) (hds kr : Nat → Int32) (cn0 : Int32) (c1 c2 c3 c4 c5 c6 : Nat → Int32) (wn0 : Int32) (w1 w2 w3 w4 w5 w6 : Nat → Int32) (a1 : Int32) (t5 : r_k_X3_bindKept) : ∃ x2 x3, cM (oO S Po) (zM pp gf 4 r) x2 ∧ cM (oO S Po) (zM pp gf 5 r) x3 ∧ ∃ m, m_k_X9_compileInstance_22 pp hn (nI (rk (oO S Po) 6)) su hds kr ob cn0 c1 c2 c3 c4 c5 c6 wn0 w1 w2 w3 w4 w5 w6 a1 a t5 wF 0 0 0 = m_k_X9_compileInstance_22s pp hn (nI (rk (oO S Po) 6)) su hds kr ob cn0 c1 c2 c3 c4 c5 c6 wn0 w1 w2 w3 w4 w5 w6 a1 a t5 (m_k_X9_compileInstance_22 pp hn (nI (rk (oO S Po) 6)) su hds kr ob cn0 c1 c2 c3 c4 c5 c6 wn0 w1 w2 w3 w4 w5 w6 a1 a t5 m) x2 x3 (nI c) := by
  obtain ⟨h3, -, hl, h4, h5, -⟩ := hr.2.2.2.2.2.2.2.2
  obtain ⟨m0, hm0⟩ := wF_ge
  have key : ∀ d m i (x2 x3 : Int32) (M2 M3 : Nat → Bool), c - i = d → d < m → i ≤ c → cM (oO S Po) M2 x2 → cM (oO S Po) M3 x3 → (∀ p, M2 p = true ↔ ∃ j, j < i ∧ pI pp (cA pp a j) 0 = 116 ∧ pd pp (cA pp a j) = p) → (∀ p, M3 p = true ↔ ∃ j, j < i ∧ pI pp (cA pp a j) 0 = 102 ∧ pd pp (cA pp a j) = p) → ∃ y2 y3, cM (oO S Po) (zM pp gf 4 r) y2 ∧ cM (oO S Po) (zM pp gf 5 r) y3 ∧ ∃ m', m_k_X9_compileInstance_22 pp hn (nI (rk (oO S Po) 6)) su hds kr ob cn0 c1 c2 c3 c4 c5 c6 wn0 w1 w2 w3 w4 w5 w6 a1 a t5 m x2 x3 (nI i) = m_k_X9_compileInstance_22s pp hn (nI (rk (oO S Po) 6)) su hds kr ob cn0 c1 c2 c3 c4 c5 c6 wn0 w1 w2 w3 w4 w5 w6 a1 a t5 (m_k_X9_compileInstance_22 pp hn (nI (rk (oO S Po) 6)) su hds kr ob cn0 c1 c2 c3 c4 c5 c6 wn0 w1 w2 w3 w4 w5 w6 a1 a t5 m') y2 y3 (nI c) := by
    intro d
    induction d with
    | zero =>
      intro m i x2 x3 M2 M3 hd hm hi hx2 hx3 hM2 hM3
      obtain ⟨m, rfl⟩ : ∃ q, m = q + 1 := ⟨m - 1, by omega⟩
      have hic : i = c := by omega
      subst hic
      have e2 : M2 = zM pp gf 4 r := funext fun p => by rw [Bool.eq_iff_iff, hM2 p]; exact (h4 p).symm
      have e3 : M3 = zM pp gf 5 r := funext fun p => by rw [Bool.eq_iff_iff, hM3 p]; exact (h5 p).symm
      subst e2; subst e3
      exact ⟨x2, x3, hx2, hx3, m, m_k_X9_compileInstance_22_succ ..⟩
    | succ d ih =>
      intro m i x2 x3 M2 M3 hd hm hi hx2 hx3 hM2 hM3
      obtain ⟨m, rfl⟩ : ∃ q, m = q + 1 := ⟨m - 1, by omega⟩
      have hi' : i < c := by omega
      obtain ⟨-, hlo, hk⟩ := hl i hi'
      obtain ⟨e1, e2⟩ := l_pd hlo hr.1
      have old : ∀ (M : Nat → Bool) (k : Int32), ¬ pI pp (cA pp a i) 0 = k → (∀ p, M p = true ↔ ∃ j, j < i ∧ pI pp (cA pp a j) 0 = k ∧ pd pp (cA pp a j) = p) → ∀ p, M p = true ↔ ∃ j, j < i + 1 ∧ pI pp (cA pp a j) 0 = k ∧ pd pp (cA pp a j) = p := fun M k hne hM p => by
        rw [hM p]
        constructor
        · rintro ⟨j, g1, g2⟩
          exact ⟨j, by omega, g2⟩
        · rintro ⟨j, g1, g2, g3⟩
          rcases (show j = i ∨ j < i by omega) with rfl | g
          · exact absurd g2 hne
          · exact ⟨j, g, g2, g3⟩
      have new : ∀ (M : Nat → Bool) (k : Int32), pI pp (cA pp a i) 0 = k → (∀ p, M p = true ↔ ∃ j, j < i ∧ pI pp (cA pp a j) 0 = k ∧ pd pp (cA pp a j) = p) → ∀ p, (M p || decide (p = pd pp (cA pp a i))) = true ↔ ∃ j, j < i + 1 ∧ pI pp (cA pp a j) 0 = k ∧ pd pp (cA pp a j) = p := fun M k he hM p => by
        rw [Bool.or_eq_true, hM p, decide_eq_true_iff]
        constructor
        · rintro (⟨j, g1, g2⟩ | rfl)
          · exact ⟨j, by omega, g2⟩
          · exact ⟨i, by omega, he, rfl⟩
        · rintro ⟨j, g1, g2, g3⟩
          rcases (show j = i ∨ j < i by omega) with rfl | g
          · exact Or.inr g3.symm
          · exact Or.inl ⟨j, g, g2, g3⟩
      rw [m_k_X9_compileInstance_22_succ, m_k_X9_compileInstance_22s, if_neg (c_in hr hi'), lE, r_cond hr hi', oE_some]
      simp only [m_k_X9_compileInstance_112, m_k_X9_compileInstance_76a, lE, l_atom hlo hr.1, kI_s]
      by_cases d1 : pI pp (cA pp a i) 0 = 116
      · rw [if_pos d1]
        exact ih m (i + 1) _ _ _ _ (by omega) (by omega) (by omega) (cM_or ho hx2 e2) hx3 (new M2 116 d1 hM2) (old M3 102 (by rw [d1]; decide) hM3)
      · rw [if_neg d1]
        by_cases d2 : pI pp (cA pp a i) 0 = 102
        · rw [if_pos d2]
          exact ih m (i + 1) _ _ _ _ (by omega) (by omega) (by omega) hx2 (cM_or ho hx3 e2) (old M2 116 d1 hM2) (new M3 102 d2 hM3)
        · rw [if_neg d2]
          exact ih m (i + 1) _ _ _ _ (by omega) (by omega) (by omega) hx2 hx3 (old M2 116 d1 hM2) (old M3 102 d2 hM3)
  exact key (c - 0) wF 0 0 0 (fun _ => false) (fun _ => false) rfl (by rw [hm0]; omega) (Nat.zero_le _) (cM_0 _) (cM_0 _) (fun p => ⟨fun e => (by cases e), fun ⟨j, g, _⟩ => by omega⟩) (fun p => ⟨fun e => (by cases e), fun ⟨j, g, _⟩ => by omega⟩)
theorem k_keptAt {kr : Nat → Int32} {i : Nat} (hi : i < 300) : m_k_X3_keptRuleAt kr (nI i) = kr i := by
  unfold m_k_X3_keptRuleAt
  rw [if_neg (by rw [show (0 : Int32) = nI 0 from rfl, kI_lt (by omega) (by omega)]; omega), if_neg (by rw [show (300 : Int32) = nI 300 from rfl, kI_le (by omega) (by omega)]; omega), kI_nat (by omega)]
theorem k_bind (h : prOK pp n rf gf many) {S Po : Nat → Bool} {kr kv : Nat → Int32} {k : Nat} {q : Nat → Nat} (hk : kL pp gf S Po many kr kv k q) {i : Nat} (hi : i < k) (b1 b2 b3 bp : Int32) : m_k_X3_bindKept (nI many) rf b1 b2 b3 bp kr kv (nI i) = (some (rA rf (q i)), 0, 0, 0, 0) := by
  have hm := h.1.1
  have h1 := hk.1
  obtain ⟨g1, g2, g3, -⟩ := hk.2.1 i hi
  unfold m_k_X3_bindKept
  rw [if_neg (by rw [show (0 : Int32) = nI 0 from rfl, kI_lt (by omega) (by omega)]; omega), if_pos (by rw [show (300 : Int32) = nI 300 from rfl, kI_lt (by omega) (by omega)]; omega), kI_nat (by omega), g2, k_unpack, lE, g1, p_rule h g3, lE, oE_some]
theorem k_inst (h : prOK pp n rf gf many) {S Po : Nat → Bool} {su po : Nat → Int64} {kr kv : Nat → Int32} {k : Nat} {q : Nat → Nat} {oa ob : Nat → Int32} (hg : gR pp rf gf many S Po su po kr kv k q oa ob) {i c w : Nat} (hi : i < k) {c1 c2 c3 c4 c5 c6 w1 w2 w3 w4 w5 w6 : Nat → Int32} (hc : CK pp gf many S Po q i c c1 c2 c3 c4 c5 c6) (hw : WK pp gf many S Po q i w w1 w2 w3) (hn b1 b2 b3 bp : Int32) (hds : Nat → Int32) : ∃ hds' c' c1' c2' c3' c4' c5' c6' w' w1' w2' w3' w4' w5' w6' hn' b1' b2' b3' bp', m_k_X9_compileInstance pp (nI many) rf hn (nI (rk (oO S Po) 6)) b1 b2 b3 bp su hds kr kv ob (nI c) c1 c2 c3 c4 c5 c6 (nI w) w1 w2 w3 w4 w5 w6 (nI i) = (hds', nI c', c1', c2', c3', c4', c5', c6', nI w', w1', w2', w3', w4', w5', w6', hn', b1', b2', b3', bp') ∧ CK pp gf many S Po q (i + 1) c' c1' c2' c3' c4' c5' c6' ∧ WK pp gf many S Po q (i + 1) w' w1' w2' w3' := by
  obtain ⟨hs, hp, hS, hP, hk, ho⟩ := hg
  have hm := h.1.1
  have h1 := hk.1
  obtain ⟨g1, g2, g3, g4⟩ := hk.2.1 i hi
  obtain ⟨-, hh, cc, hr⟩ := h.2 (q i) g3
  have hkd := p_kind h g3
  have hcl := hc.1
  have hwl := hw.1
  unfold m_k_X9_compileInstance
  rw [k_bind h hk hi, lE, oE_some]
  obtain ⟨x2, x3, hx2, hx3, m, e⟩ := k_masks hr ho hn su hds kr (nI c) c1 c2 c3 c4 c5 c6 (nI w) w1 w2 w3 w4 w5 w6 (nI i) (some (rA rf (q i)), 0, 0, 0, 0)
  rw [e, m_k_X9_compileInstance_22s, if_pos (c_end hr)]
  have hrw : rwB pp gf many S Po (q i) (nI (q i)) x2 x3 := ⟨g3, rfl, g4, hx2, hx3⟩
  by_cases d1 : x2 &&& x3 = 0
  · rw [if_pos d1]
    by_cases d2 : pI pp (rA rf (q i)) 0 = 119
    · rw [if_pos d2, lE, k_keptAt (by omega), g1, lE, r_add (by omega)]
      refine ⟨_, c, _, _, _, _, _, _, w + 1, _, _, _, _, _, _, _, _, _, _, _, rfl, CK_none hc fun e => absurd (hkd.trans d2) e, WK_row hw (fun l hl => hk.2.2.1 l i hl hi) hrw (hkd.trans d2)⟩
    · rw [if_neg d2, lE, k_keptAt (by omega), g1]
      have d2' : ¬ zK pp gf (q i) = 119 := fun e => d2 (hkd.symm.trans e)
      have hPo : ∀ p, zM pp gf 1 (q i) p = true → Po p = true := hP (q i) g3 d2' g4
      obtain ⟨hds', c', c1', c2', c3', c4', c5', c6', hn', e3, hc'⟩ := k_compHeads h ho su hc (by omega) g3 hPo d2' hrw hds 0 0 0 0
      dsimp only
      rw [lE, e3]
      exact ⟨_, c', _, _, _, _, _, _, w, _, _, _, _, _, _, _, _, _, _, _, rfl, hc', WK_none hw fun e => absurd e d2'⟩
  · rw [if_neg d1]
    have hd : ∃ p, zM pp gf 4 (q i) p = true ∧ zM pp gf 5 (q i) p = true := by
      obtain ⟨j, -, hj⟩ := b_ne d1
      rw [b_and] at hj
      have hj2 := (Bool.and_eq_true _ _).mp hj
      obtain ⟨p, p1, p2, p3, p4⟩ := (hx2 j).mp hj2.1
      obtain ⟨p', p1', p2', p3', p4'⟩ := (hx3 j).mp hj2.2
      have := pos_inj p1 p1' p2 p2' (p4.trans p4'.symm)
      subst this
      exact ⟨p, p3, p3'⟩
    exact ⟨_, c, _, _, _, _, _, _, w, _, _, _, _, _, _, _, _, _, _, _, rfl, CK_none hc fun _ => Or.inl hd, WK_none hw fun _ => hd⟩
theorem k_note (h : prOK pp n rf gf many) : ∃ cg ch, m_k_X9_noteRules pp (nI many) rf = (cg, ch) ∧ cgOK pp rf many cg ∧ ∀ r, bt ch r = true ↔ r < many ∧ zK pp gf r = 99 := by
  have hm := h.1.1
  obtain ⟨m0, hm0⟩ := wF_ge
  have key : ∀ d m i (cg ch : Int32), many - i = d → d < m → i ≤ many → (∀ r, bt cg r = true ↔ r < i ∧ ¬ m_k_X8_hasCounts pp (rA rf r) = 0) → (∀ r, bt ch r = true ↔ r < i ∧ zK pp gf r = 99) → ∃ cy cz, m_k_X9_noteRules_12 pp (nI many) rf m (nI i) cg ch = (cy, cz) ∧ cgOK pp rf many cy ∧ ∀ r, bt cz r = true ↔ r < many ∧ zK pp gf r = 99 := by
    intro d
    induction d with
    | zero =>
      intro m i cg ch hd hm' hi h1 h2
      obtain ⟨m, rfl⟩ : ∃ q, m = q + 1 := ⟨m - 1, by omega⟩
      have hi' : i = many := by omega
      subst hi'
      rw [m_k_X9_noteRules_12_succ, m_k_X9_noteRules_12s, if_pos (Int32.le_refl _)]
      exact ⟨cg, ch, rfl, h1, h2⟩
    | succ d ih =>
      intro m i cg ch hd hm' hi h1 h2
      obtain ⟨m, rfl⟩ : ∃ q, m = q + 1 := ⟨m - 1, by omega⟩
      have hi' : i < many := by omega
      have hkd := p_kind h hi'
      rw [m_k_X9_noteRules_12_succ, m_k_X9_noteRules_12s, if_neg (by rw [kI_le (by omega) (by omega)]; omega), lE, p_rule h hi', oE_some]
      simp only [m_k_X9_noteRules_60, m_k_X9_noteRules_79, lE, kI_s]
      have old : ∀ (x : Int32) (P : Nat → Prop), ¬ P i → (∀ r, bt x r = true ↔ r < i ∧ P r) → ∀ r, bt x r = true ↔ r < i + 1 ∧ P r := fun x P hne hx r => by
        rw [hx r]
        refine ⟨fun e => ⟨by omega, e.2⟩, fun e => ⟨?_, e.2⟩⟩
        rcases (show r = i ∨ r < i by omega) with rfl | g
        · exact absurd e.2 hne
        · exact g
      have new : ∀ (x : Int32) (P : Nat → Prop), P i → (∀ r, bt x r = true ↔ r < i ∧ P r) → ∀ r, bt (x ||| ((1 : Int32) <<< (nI i &&& 31))) r = true ↔ r < i + 1 ∧ P r := fun x P he hx r => by
        rw [b_or, b_one' (by omega), Bool.or_eq_true, hx r, decide_eq_true_iff]
        constructor
        · rintro (e | rfl)
          · exact ⟨by omega, e.2⟩
          · exact ⟨by omega, he⟩
        · intro e
          rcases (show r = i ∨ r < i by omega) with rfl | g
          · exact Or.inr rfl
          · exact Or.inl ⟨g, e.2⟩
      by_cases d1 : pI pp (rA rf i) 0 = 99
      · rw [if_pos d1]
        have h2' := new ch (fun r => zK pp gf r = 99) (hkd.trans d1) h2
        by_cases d2 : m_k_X8_hasCounts pp (rA rf i) = 0
        · rw [if_pos d2]
          exact ih m (i + 1) _ _ (by omega) (by omega) (by omega) (old cg (fun r => ¬ m_k_X8_hasCounts pp (rA rf r) = 0) (fun e => e d2) h1) h2'
        · rw [if_neg d2]
          exact ih m (i + 1) _ _ (by omega) (by omega) (by omega) (new cg (fun r => ¬ m_k_X8_hasCounts pp (rA rf r) = 0) d2 h1) h2'
      · rw [if_neg d1]
        have h2' := old ch (fun r => zK pp gf r = 99) (fun e => d1 (hkd.symm.trans e)) h2
        by_cases d2 : m_k_X8_hasCounts pp (rA rf i) = 0
        · rw [if_pos d2]
          exact ih m (i + 1) _ _ (by omega) (by omega) (by omega) (old cg (fun r => ¬ m_k_X8_hasCounts pp (rA rf r) = 0) (fun e => e d2) h1) h2'
        · rw [if_neg d2]
          exact ih m (i + 1) _ _ (by omega) (by omega) (by omega) (new cg (fun r => ¬ m_k_X8_hasCounts pp (rA rf r) = 0) d2 h1) h2'
  obtain ⟨cg, ch, e, g1, g2⟩ := key (many - 0) wF 0 0 0 rfl (by rw [hm0]; omega) (Nat.zero_le _) (fun r => by rw [b_0]; exact ⟨fun e => (by cases e), fun e => by omega⟩) (fun r => by rw [b_0]; exact ⟨fun e => (by cases e), fun e => by omega⟩)
  exact ⟨cg, ch, e, g1, g2⟩
theorem bc_b64 : ∀ b : Bool, m_k_J13_bitCount_95d88 (b64 b) = nI b.toNat := by decide +kernel
theorem s_countOf {w : Nat → Int64} {S : Nat → Bool} (hw : ws6 w S) {p : Nat} (hp : p < 6) : m_k_X1_countOf w (nI p) = nI (S p).toNat := by
  unfold m_k_X1_countOf
  rw [if_neg (by rw [show (0 : Int32) = nI 0 from rfl, kI_lt (by omega) (by omega)]; omega), if_neg (by rw [show (6 : Int32) = nI 6 from rfl, kI_le (by omega) (by omega)]; omega), lE, kI_nat (by omega), hw p hp, bc_b64]
/-- what the solver holds when it is compiled -/
def cP (pp : pT) (rf gf : Nat → Option Nat) (many : Nat) (S Po : Nat → Bool) (q : Nat → Nat) (k : Nat) (ch cg : Int32) (c w : Nat) (c1 c2 c3 c4 c5 c6 w1 w2 w3 obi sc : Nat → Int32) : Prop := CK pp gf many S Po q k c c1 c2 c3 c4 c5 c6 ∧ WK pp gf many S Po q k w w1 w2 w3 ∧ oB S Po obi sc ∧ cgOK pp rf many cg ∧ ∀ r, bt ch r = true ↔ r < many ∧ zK pp gf r = 99
theorem k_compile (h : prOK pp n rf gf many) {S Po : Nat → Bool} {su po : Nat → Int64} {kr kv : Nat → Int32} {k : Nat} {q : Nat → Nat} {oa ob : Nat → Int32} (hg : gR pp rf gf many S Po su po kr kv k q oa ob) {en : Nat} {es : Nat → Int32} (hx : exF en es) (ea : Nat → Int32) (hn b1 b2 b3 bp : Int32) (hds c1 c2 c3 c4 c5 c6 w1 w2 w3 w4 w5 w6 obi sc : Nat → Int32) : ∃ hds' cg ch c c1' c2' c3' c4' c5' c6' w w1' w2' w3' w4' w5' w6' obi' sc' hn' b1' b2' b3' bp', m_k_X9_compile pp (nI many) (nI en) rf ea es hn (nI k) (nI (rk (oO S Po) 6)) b1 b2 b3 bp su hds kr kv oa ob c1 c2 c3 c4 c5 c6 w1 w2 w3 w4 w5 w6 obi sc = (hds', cg, 0, 0, ch, nI c, c1', c2', c3', c4', c5', c6', nI w, w1', w2', w3', w4', w5', w6', obi', sc', hn', b1', b2', b3', bp') ∧ cP pp rf gf many S Po q k ch cg c w c1' c2' c3' c4' c5' c6' w1' w2' w3' obi' sc' := by
  obtain ⟨hs, hp, hS, hP, hk, ho⟩ := id hg
  have hm := h.1.1
  have hen := hx.1
  have hkm := hk.1
  have h6 := rk6 (oO S Po)
  obtain ⟨m0, hm0⟩ := wF_ge
  obtain ⟨cg, ch, en1, g1, g2⟩ := k_note h
  -- all instances
  have inst : ∀ (obi sc : Nat → Int32) (d m i c w : Nat) (hds c1 c2 c3 c4 c5 c6 w1 w2 w3 w4 w5 w6 : Nat → Int32) (hn b1 b2 b3 bp : Int32), oB S Po obi sc → k - i = d → d < m → i ≤ k → CK pp gf many S Po q i c c1 c2 c3 c4 c5 c6 → WK pp gf many S Po q i w w1 w2 w3 → ∃ hds' cz c1' c2' c3' c4' c5' c6' wz w1' w2' w3' w4' w5' w6' hn' b1' b2' b3' bp', m_k_X9_compile_174 pp (nI many) rf (nI k) (nI (rk (oO S Po) 6)) su kr kv ob (cg, ch) 0 obi sc m (nI i) hds (nI c) c1 c2 c3 c4 c5 c6 (nI w) w1 w2 w3 w4 w5 w6 hn b1 b2 b3 bp = (hds', cg, 0, 0, ch, nI cz, c1', c2', c3', c4', c5', c6', nI wz, w1', w2', w3', w4', w5', w6', obi, sc, hn', b1', b2', b3', bp') ∧ cP pp rf gf many S Po q k ch cg cz wz c1' c2' c3' c4' c5' c6' w1' w2' w3' obi sc := by
    intro obi sc d
    induction d with
    | zero =>
      intro m i c w hds c1 c2 c3 c4 c5 c6 w1 w2 w3 w4 w5 w6 hn b1 b2 b3 bp hob hd hm' hi hc hw
      obtain ⟨m, rfl⟩ : ∃ q, m = q + 1 := ⟨m - 1, by omega⟩
      have hi' : i = k := by omega
      subst hi'
      rw [m_k_X9_compile_174_succ, m_k_X9_compile_174s, if_pos (Int32.le_refl _)]
      exact ⟨hds, c, c1, c2, c3, c4, c5, c6, w, w1, w2, w3, w4, w5, w6, hn, b1, b2, b3, bp, rfl, hc, hw, hob, g1, g2⟩
    | succ d ih =>
      intro m i c w hds c1 c2 c3 c4 c5 c6 w1 w2 w3 w4 w5 w6 hn b1 b2 b3 bp hob hd hm' hi hc hw
      obtain ⟨m, rfl⟩ : ∃ q, m = q + 1 := ⟨m - 1, by omega⟩
      obtain ⟨hds', c', c1', c2', c3', c4', c5', c6', w', w1', w2', w3', w4', w5', w6', hn', b1', b2', b3', bp', e, hc', hw'⟩ := k_inst h hg (show i < k by omega) (w4 := w4) (w5 := w5) (w6 := w6) hc hw hn b1 b2 b3 bp hds
      rw [m_k_X9_compile_174_succ, m_k_X9_compile_174s, if_neg (by rw [kI_le (by omega) (by omega)]; omega), lE, e]
      dsimp only
      rw [kI_s]
      exact ih m (i + 1) _ _ _ _ _ _ _ _ _ _ _ _ _ _ _ _ _ _ _ _ hob (by omega) (by omega) (by omega) hc' hw'
  -- no external is free
  have free : ∀ (obi sc : Nat → Int32), oB S Po obi sc → ∀ d m i, en - i = d → d < m → i ≤ en → ∃ hds' c c1' c2' c3' c4' c5' c6' w w1' w2' w3' w4' w5' w6' hn' b1' b2' b3' bp', m_k_X9_compile_101 pp (nI many) (nI en) rf ea es hn (nI k) (nI (rk (oO S Po) 6)) b1 b2 b3 bp su hds kr kv ob c1 c2 c3 c4 c5 c6 w1 w2 w3 w4 w5 w6 obi sc m (nI i) 0 = (hds', cg, 0, 0, ch, nI c, c1', c2', c3', c4', c5', c6', nI w, w1', w2', w3', w4', w5', w6', obi, sc, hn', b1', b2', b3', bp') ∧ cP pp rf gf many S Po q k ch cg c w c1' c2' c3' c4' c5' c6' w1' w2' w3' obi sc := by
    intro obi sc hob d
    induction d with
    | zero =>
      intro m i hd hm' hi
      obtain ⟨m, rfl⟩ : ∃ q, m = q + 1 := ⟨m - 1, by omega⟩
      have hi' : i = en := by omega
      subst hi'
      rw [m_k_X9_compile_101_succ, m_k_X9_compile_101s, if_pos (Int32.le_refl _), lE, en1]
      exact inst obi sc (k - 0) wF 0 0 0 hds c1 c2 c3 c4 c5 c6 w1 w2 w3 w4 w5 w6 hn b1 b2 b3 bp hob rfl (by rw [hm0]; omega) (Nat.zero_le _) ⟨Nat.le_refl _, fun j hj => absurd hj (Nat.not_lt_zero j), fun j hj => absurd hj (Nat.not_lt_zero j)⟩ ⟨Nat.le_refl _, fun _ => 0, fun j hj => absurd hj (Nat.not_lt_zero j), fun j j2 _ hj => absurd hj (Nat.not_lt_zero j2), fun j hj => absurd hj (Nat.not_lt_zero j)⟩
    | succ d ih =>
      intro m i hd hm' hi
      obtain ⟨m, rfl⟩ : ∃ q, m = q + 1 := ⟨m - 1, by omega⟩
      rw [m_k_X9_compile_101_succ, m_k_X9_compile_101s, if_neg (by rw [kI_le (by omega) (by omega)]; omega), lE, x_state hx (by omega), if_neg (by decide), m_k_X9_compile_146, kI_s]
      exact ih m (i + 1) (by omega) (by omega) (by omega)
  -- the bits of the open atoms
  have opn : ∀ (sc : Nat → Int32), (∀ p, p < 6 → sc p = nI (S p).toNat) → ∀ d m i (obi : Nat → Int32), rk (oO S Po) 6 - i = d → d < m → i ≤ rk (oO S Po) 6 → (∀ p, p < 6 → cM (oO S Po) (fun q => decide (q = p) && decide (rk (oO S Po) p < i)) (obi p)) → ∃ obi' hds' c c1' c2' c3' c4' c5' c6' w w1' w2' w3' w4' w5' w6' hn' b1' b2' b3' bp', m_k_X9_compile_40 pp (nI many) (nI en) rf ea es hn (nI k) (nI (rk (oO S Po) 6)) b1 b2 b3 bp su hds kr kv oa ob c1 c2 c3 c4 c5 c6 w1 w2 w3 w4 w5 w6 sc m (nI i) obi = (hds', cg, 0, 0, ch, nI c, c1', c2', c3', c4', c5', c6', nI w, w1', w2', w3', w4', w5', w6', obi', sc, hn', b1', b2', b3', bp') ∧ cP pp rf gf many S Po q k ch cg c w c1' c2' c3' c4' c5' c6' w1' w2' w3' obi' sc := by
    intro sc hsc d
    induction d with
    | zero =>
      intro m i obi hd hm' hi hob
      obtain ⟨m, rfl⟩ : ∃ q, m = q + 1 := ⟨m - 1, by omega⟩
      have hi' : i = rk (oO S Po) 6 := by omega
      subst hi'
      rw [m_k_X9_compile_40_succ, m_k_X9_compile_40s, if_pos (Int32.le_refl _)]
      have hob' : oB S Po obi sc := ⟨fun p hp => cM_cong (hob p hp) fun p' hp' ho' => by
        by_cases e : p' = p
        · subst e
          rw [decide_eq_true (rk_lt hp ho')]
          exact Bool.and_true _
        · rw [decide_eq_false e]
          rfl, hsc⟩
      exact ⟨obi, free obi sc hob' (en - 0) wF 0 rfl (by rw [hm0]; omega) (Nat.zero_le _)⟩
    | succ d ih =>
      intro m i obi hd hm' hi hob
      obtain ⟨m, rfl⟩ : ∃ q, m = q + 1 := ⟨m - 1, by omega⟩
      obtain ⟨p, p1, p2, p3⟩ := rk_onto (oO S Po) 6 i (by omega)
      obtain ⟨-, p5⟩ := ho.1 p p1 p2
      have hr := at_rng (show 64 * p < 384 by omega)
      rw [m_k_X9_compile_40_succ, m_k_X9_compile_40s, if_neg (by rw [kI_le (by omega) (by omega)]; omega), lE]
      unfold m_k_X3_openAtomAt
      have hr2 := at_rng (show i < 384 by omega)
      rw [if_neg hr2.1, if_neg hr2.2, kI_nat (by omega)]
      have p6 : oa i = nI (64 * p) := by
        rw [← p3]
        exact p5
      rw [p6, if_neg hr.1, if_neg hr.2, lE, m_k_X9_compile_88, kI_s, sh_pd p p1, kI_nat (by omega)]
      refine ih m (i + 1) _ (by omega) (by omega) (by omega) fun p' hp' => ?_
      by_cases e : p' = p
      · subst e
        rw [uu_same]
        refine cM_cong (cM_or ho (hob p' hp') p1) fun a ha hoa => ?_
        by_cases ea : a = p'
        · subst ea
          rw [decide_eq_true rfl, decide_eq_true (show rk (oO S Po) a < i + 1 by omega)]
          exact Bool.or_true _
        · rw [decide_eq_false ea]
          rfl
      · rw [uu_else _ _ e]
        refine cM_cong (hob p' hp') fun a ha hoa => ?_
        by_cases ea : a = p'
        · subst ea
          have : ¬ rk (oO S Po) a = i := fun e2 => e (rk_inj hoa p2 (e2.trans p3.symm))
          rw [decide_eq_true rfl]
          by_cases g : rk (oO S Po) a < i
          · rw [decide_eq_true g, decide_eq_true (show rk (oO S Po) a < i + 1 by omega)]
          · rw [decide_eq_false g, decide_eq_false (show ¬ rk (oO S Po) a < i + 1 by omega)]
        · rw [decide_eq_false ea]
          rfl
  -- sure atoms
  have beg : ∀ d m i (obi sc : Nat → Int32), 6 - i = d → d < m → i ≤ 6 → (∀ p, p < i → obi p = 0) → (∀ p, p < i → sc p = nI (S p).toNat) → ∃ sc' obi' hds' c c1' c2' c3' c4' c5' c6' w w1' w2' w3' w4' w5' w6' hn' b1' b2' b3' bp', m_k_X9_compile_2 pp (nI many) (nI en) rf ea es hn (nI k) (nI (rk (oO S Po) 6)) b1 b2 b3 bp su hds kr kv oa ob c1 c2 c3 c4 c5 c6 w1 w2 w3 w4 w5 w6 m (nI i) obi sc = (hds', cg, 0, 0, ch, nI c, c1', c2', c3', c4', c5', c6', nI w, w1', w2', w3', w4', w5', w6', obi', sc', hn', b1', b2', b3', bp') ∧ cP pp rf gf many S Po q k ch cg c w c1' c2' c3' c4' c5' c6' w1' w2' w3' obi' sc' := by
    intro d
    induction d with
    | zero =>
      intro m i obi sc hd hm' hi h1 h2
      obtain ⟨m, rfl⟩ : ∃ q, m = q + 1 := ⟨m - 1, by omega⟩
      have hi' : i = 6 := by omega
      subst hi'
      rw [m_k_X9_compile_2_succ, m_k_X9_compile_2s, if_pos (by decide)]
      refine ⟨sc, opn sc h2 (rk (oO S Po) 6 - 0) wF 0 obi rfl (by rw [hm0]; omega) (Nat.zero_le _) fun p hp => ?_⟩
      rw [h1 p hp]
      exact cM_cong (cM_0 _) fun a _ _ => by rw [decide_eq_false (Nat.not_lt_zero _)]; exact (Bool.and_false _).symm
    | succ d ih =>
      intro m i obi sc hd hm' hi h1 h2
      obtain ⟨m, rfl⟩ : ∃ q, m = q + 1 := ⟨m - 1, by omega⟩
      rw [m_k_X9_compile_2_succ, m_k_X9_compile_2s, if_neg (by rw [show (6 : Int32) = nI 6 from rfl, kI_le (by omega) (by omega)]; omega), lE, s_countOf hs (show i < 6 by omega), kI_s, kI_nat (by omega)]
      refine ih m (i + 1) _ _ (by omega) (by omega) (by omega) (fun p hp => ?_) (fun p hp => ?_)
      · by_cases e : p = i
        · rw [e, uu_same]
        · rw [uu_else _ _ e]; exact h1 p (by omega)
      · by_cases e : p = i
        · rw [e, uu_same]
        · rw [uu_else _ _ e]; exact h2 p (by omega)
  obtain ⟨sc', obi', hds', c, c1', c2', c3', c4', c5', c6', w, w1', w2', w3', w4', w5', w6', hn', b1', b2', b3', bp', e, hcp⟩ := beg (6 - 0) wF 0 obi sc rfl (by rw [hm0]; omega) (Nat.zero_le _) (fun p hp => absurd hp (Nat.not_lt_zero p)) (fun p hp => absurd hp (Nat.not_lt_zero p))
  exact ⟨hds', cg, ch, c, c1', c2', c3', c4', c5', c6', w, w1', w2', w3', w4', w5', w6', obi', sc', hn', b1', b2', b3', bp', e, hcp⟩
end CI
