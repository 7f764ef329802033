/-! the pure argument, 32: reasons -/
section RE
variable {pp : pT} {n many : Nat} {rf gf : Nat → Option Nat}
theorem r_condH {b : Nat} (hb : lOK pp n b) (hk : kOK pp b) (hn : n ≤ 6) {S Po : Nat → Bool} {su : Nat → Int64} (hs : ws6 su S) {oa ob : Nat → Int32} (ho : oN (oO S Po) oa ob) {obi sc : Nat → Int32} (hob : oB S Po obi sc) (s b1 b2 b3 bp : Int32) : tv (m_k_X9_conditionHolds pp (nI (rk (oO S Po) 6)) b1 b2 b3 bp su ob obi sc b s) ((pI pp b 0 = 116 → bt (phi S Po s) (pd pp b) = true) ∧ (pI pp b 0 = 102 → bt (phi S Po s) (pd pp b) = false) ∧ (pI pp b 0 = 103 → bt (phi S Po s) (pd pp b) = true) ∧ (pI pp b 0 = 108 → bt (phi S Po s) (pd pp b) = false)) := by
  have hc := r_isCount (pp := pp) b
  have hp := (l_pd hb hn).2
  have hin := a_isIn (Po := Po) hs ho hp s
  unfold m_k_X9_conditionHolds
  rcases hk with g | g | g | g
  · have h0 : m_k_X4_isCount pp b = 0 := hc.f (by rw [g]; decide)
    rw [lE_of h0, if_pos rfl, if_pos g, lE_of (l_atom hb hn b1 b2 b3 bp)]
    refine hin.iff ⟨fun e => ⟨fun _ => e, fun f => ?_, fun f => ?_, fun f => ?_⟩, fun e => e.1 g⟩ <;> exact absurd (g.symm.trans f) (by decide)
  · have h0 : m_k_X4_isCount pp b = 0 := hc.f (by rw [g]; decide)
    rw [lE_of h0, if_pos rfl, if_neg (by rw [g]; decide), if_pos g, lE_of (l_atom hb hn b1 b2 b3 bp)]
    rcases hin.1 with d | d
    · rw [lE_of d, if_pos rfl]
      refine tv.one ⟨fun f => absurd (g.symm.trans f) (by decide), fun _ => ?_, fun f => absurd (g.symm.trans f) (by decide), fun f => absurd (g.symm.trans f) (by decide)⟩
      cases e : bt (phi S Po s) (pd pp b) with
      | false => rfl
      | true => exact absurd e (hin.z.mp d)
    · rw [lE_of d, if_neg (by decide)]
      exact tv.zero fun e => by have := e.2.1 g; rw [hin.2.mp d] at this; cases this
  · have h1 : m_k_X4_isCount pp b = 1 := hc.t (Or.inl g.1)
    rw [lE_of h1, if_neg (by decide)]
    refine (k_countHolds hob s hb hn (Or.inl g)).iff ⟨fun e => ⟨fun f => absurd (g.1.symm.trans f) (by decide), fun f => absurd (g.1.symm.trans f) (by decide), e.1, e.2⟩, fun e => ⟨e.2.2.1, e.2.2.2⟩⟩
  · have h1 : m_k_X4_isCount pp b = 1 := hc.t (Or.inr g.1)
    rw [lE_of h1, if_neg (by decide)]
    refine (k_countHolds hob s hb hn (Or.inr g)).iff ⟨fun e => ⟨fun f => absurd (g.1.symm.trans f) (by decide), fun f => absurd (g.1.symm.trans f) (by decide), e.1, e.2⟩, fun e => ⟨e.2.2.1, e.2.2.2⟩⟩
theorem r_bodyH {a z h c : Nat} (hr : rOK pp n a z h c) {S Po : Nat → Bool} {su : Nat → Int64} (hs : ws6 su S) {oa ob : Nat → Int32} (ho : oN (oO S Po) oa ob) {obi sc : Nat → Int32} (hob : oB S Po obi sc) (s b1 b2 b3 bp : Int32) : tv (m_k_X9_bodyHolds pp (nI (rk (oO S Po) 6)) b1 b2 b3 bp su ob obi sc a s) ((∀ p, bt (pI pp z 4) p = true → bt (phi S Po s) p = true) ∧ (∀ p, bt (pI pp z 5) p = true → bt (phi S Po s) p = false) ∧ (∀ p, bt (pI pp z 8) p = true → bt (phi S Po s) p = true) ∧ ∀ p, bt (pI pp z 9) p = true → bt (phi S Po s) p = false) := by
  obtain ⟨h3, -, hl, h4, h5, h8, h9⟩ := hr.2.2.2.2.2.2.2.2
  have key := cond_all (c := c) (m_k_X9_bodyHolds_2 pp (nI (rk (oO S Po) 6)) b1 b2 b3 bp su ob obi sc a s) (fun i => (pI pp (cA pp a i) 0 = 116 → bt (phi S Po s) (pd pp (cA pp a i)) = true) ∧ (pI pp (cA pp a i) 0 = 102 → bt (phi S Po s) (pd pp (cA pp a i)) = false) ∧ (pI pp (cA pp a i) 0 = 103 → bt (phi S Po s) (pd pp (cA pp a i)) = true) ∧ (pI pp (cA pp a i) 0 = 108 → bt (phi S Po s) (pd pp (cA pp a i)) = false)) 1 True (tv.one trivial)
    (fun m => by rw [m_k_X9_bodyHolds_2_succ, m_k_X9_bodyHolds_2s, if_pos (c_end hr)])
    (fun m i hi => by
      obtain ⟨-, hlo, hk⟩ := hl i hi
      have ht := r_condH hlo hk hr.1 hs ho hob s b1 b2 b3 bp
      rw [m_k_X9_bodyHolds_2_succ, m_k_X9_bodyHolds_2s, if_neg (c_in hr hi), lE, r_cond hr hi, oE_some, m_k_X9_bodyHolds_34, kI_s]
      rcases ht.1 with d | d
      · rw [lE_of d, if_pos rfl]
        exact Or.inr ⟨rfl, ht.z.mp d⟩
      · rw [lE_of d, if_neg (by decide)]
        exact Or.inl ⟨rfl, ht.2.mp d⟩)
  obtain ⟨m, hm⟩ := wF_ge
  refine (key (c - 0) wF 0 rfl (by rw [hm]; omega) (Nat.zero_le _)).iff ⟨fun g => ⟨fun p hp => ?_, fun p hp => ?_, fun p hp => ?_, fun p hp => ?_⟩, fun g => ⟨trivial, fun i _ hi => ⟨fun e => ?_, fun e => ?_, fun e => ?_, fun e => ?_⟩⟩⟩
  · obtain ⟨i, hi, e1, e2⟩ := (h4 p).mp hp
    rw [← e2]
    exact (g.2 i (Nat.zero_le _) hi).1 e1
  · obtain ⟨i, hi, e1, e2⟩ := (h5 p).mp hp
    rw [← e2]
    exact (g.2 i (Nat.zero_le _) hi).2.1 e1
  · obtain ⟨i, hi, e1, e2⟩ := (h8 p).mp hp
    rw [← e2]
    exact (g.2 i (Nat.zero_le _) hi).2.2.1 e1
  · obtain ⟨i, hi, e1, e2⟩ := (h9 p).mp hp
    rw [← e2]
    exact (g.2 i (Nat.zero_le _) hi).2.2.2 e1
  · exact g.1 _ ((h4 _).mpr ⟨i, hi, e, rfl⟩)
  · exact g.2.1 _ ((h5 _).mpr ⟨i, hi, e, rfl⟩)
  · exact g.2.2.1 _ ((h8 _).mpr ⟨i, hi, e, rfl⟩)
  · exact g.2.2.2 _ ((h9 _).mpr ⟨i, hi, e, rfl⟩)
theorem at_inj {p q : Nat} (hp : p < 6) (hq : q < 6) (h : nI (64 * p) = nI (64 * q)) : p = q := by
  rw [kI_eq (by omega) (by omega)] at h
  omega
theorem r_gives {a z h c : Nat} (hr : rOK pp n a z h c) {S Po : Nat → Bool} {su : Nat → Int64} (hs : ws6 su S) {oa ob : Nat → Int32} (ho : oN (oO S Po) oa ob) (hds : Nat → Int32) (s b1 b2 b3 bp : Int32) {p : Nat} (hp : p < 6) : ∃ x hds' hn' b3', m_k_X9_gives pp (nI (rk (oO S Po) 6)) b1 b2 b3 bp su hds ob a s (nI (64 * p)) = (x, hds', hn', b3') ∧ tv x (bt (pI pp z 1) p = true ∧ (pI pp a 0 = 99 ∨ ∀ q, bt (pI pp z 1) q = true → bt (phi S Po s) q = true → q = p)) := by
  obtain ⟨m0, hm0⟩ := wF_ge
  obtain ⟨hds', k, e1, hk, hl1, hl2, hl3⟩ := r_listHeads hr su hds b1 b2 b3 bp
  have key : ∀ d m i v4 v5, k - i = d → d < m → i ≤ k → tv v4 (∃ j, j < i ∧ hds' j = nI (64 * p)) → tv v5 (∀ j, j < i → ∀ q, q < 6 → hds' j = nI (64 * q) → bt (phi S Po s) q = true → q = p) → ∃ x, m_k_X9_gives_18 pp (nI (rk (oO S Po) 6)) su ob a s (nI (64 * p)) (1, hds', nI k, b3) m v4 v5 (nI i) = (x, hds', nI k, b3) ∧ tv x (bt (pI pp z 1) p = true ∧ (pI pp a 0 = 99 ∨ ∀ q, bt (pI pp z 1) q = true → bt (phi S Po s) q = true → q = p)) := by
    intro d
    induction d with
    | zero =>
      intro m i v4 v5 hd hm hi h4 h5
      obtain ⟨m, rfl⟩ : ∃ q, m = q + 1 := ⟨m - 1, by omega⟩
      have : i = k := by omega
      subst this
      have f4 : (∃ j, j < i ∧ hds' j = nI (64 * p)) ↔ bt (pI pp z 1) p = true := by
        constructor
        · rintro ⟨j, hj, e⟩
          obtain ⟨q, q1, q2, q3⟩ := hl1 j hj
          rw [at_inj hp q1 (e.symm.trans q2)]
          exact q3
        · intro e
          obtain ⟨-, j, j1, j2⟩ := hl3 p e
          exact ⟨j, j1, j2⟩
      have f5 : (∀ j, j < i → ∀ q, q < 6 → hds' j = nI (64 * q) → bt (phi S Po s) q = true → q = p) ↔ ∀ q, bt (pI pp z 1) q = true → bt (phi S Po s) q = true → q = p := by
        constructor
        · intro g q q1 q2
          obtain ⟨q3, j, j1, j2⟩ := hl3 q q1
          exact g j j1 q q3 j2 q2
        · intro g j hj q q1 q2 q3
          obtain ⟨q', q4, q5, q6⟩ := hl1 j hj
          have := at_inj q1 q4 (q2.symm.trans q5)
          subst this
          exact g q q6 q3
      have g4 := h4.iff f4
      have g5 := h5.iff f5
      rw [m_k_X9_gives_18_succ, m_k_X9_gives_18s, if_pos (Int32.le_refl _)]
      by_cases d4 : v4 = 0
      · rw [if_pos d4]
        exact ⟨0, rfl, tv.zero fun e => g4.z.mp d4 e.1⟩
      · rw [if_neg d4]
        by_cases d9 : pI pp a 0 = 99
        · rw [if_pos d9]
          exact ⟨1, rfl, tv.one ⟨g4.nz.mp d4, Or.inl d9⟩⟩
        · rw [if_neg d9]
          by_cases d5 : v5 = 0
          · rw [if_pos d5]
            exact ⟨0, rfl, tv.zero fun e => g5.z.mp d5 (e.2.resolve_left d9)⟩
          · rw [if_neg d5]
            exact ⟨1, rfl, tv.one ⟨g4.nz.mp d4, Or.inr (g5.nz.mp d5)⟩⟩
    | succ d ih =>
      intro m i v4 v5 hd hm hi h4 h5
      obtain ⟨m, rfl⟩ : ∃ q, m = q + 1 := ⟨m - 1, by omega⟩
      have hik : i < k := by omega
      obtain ⟨q, q1, q2, q3⟩ := hl1 i hik
      have hin := a_isIn (Po := Po) hs ho q1 s
      have n1 : ¬ nI k ≤ nI i := by rw [kI_le (by omega) (by omega)]; omega
      have b1 : k - (i + 1) = d := by omega
      have b2 : d < m := by omega
      rw [m_k_X9_gives_18_succ, m_k_X9_gives_18s, if_neg n1]
      dsimp only
      rw [lE_of ((s_headAt (by omega)).trans q2)]
      by_cases d1 : nI (64 * q) = nI (64 * p)
      · rw [if_pos d1, m_k_X9_gives_66, kI_s i]
        have := at_inj q1 hp d1
        subst this
        refine ih m (i + 1) 1 v5 b1 b2 hik (tv.one ⟨i, Nat.lt_succ_self i, q2⟩) (h5.iff ⟨fun g j hj q' g1 g2 g3 => ?_, fun g j hj => g j (Nat.lt_succ_of_lt hj)⟩)
        rcases Nat.lt_succ_iff_lt_or_eq.mp hj with g4 | rfl
        · exact g j g4 q' g1 g2 g3
        · exact at_inj g1 q1 (g2.symm.trans q2)
      · rw [if_neg d1]
        have h4' : tv v4 (∃ j, j < i + 1 ∧ hds' j = nI (64 * p)) := h4.iff ⟨fun ⟨j, j1, j2⟩ => ⟨j, Nat.lt_succ_of_lt j1, j2⟩, fun ⟨j, j1, j2⟩ => by
          rcases Nat.lt_succ_iff_lt_or_eq.mp j1 with g4 | rfl
          · exact ⟨j, g4, j2⟩
          · exact absurd (q2.symm.trans j2) d1⟩
        rcases hin.1 with d2 | d2
        · rw [lE_of d2, if_pos rfl, m_k_X9_gives_66, kI_s i]
          refine ih m (i + 1) v4 v5 b1 b2 hik h4' (h5.iff ⟨fun g j hj q' g1 g2 g3 => ?_, fun g j hj => g j (Nat.lt_succ_of_lt hj)⟩)
          rcases Nat.lt_succ_iff_lt_or_eq.mp hj with g4 | rfl
          · exact g j g4 q' g1 g2 g3
          · have := at_inj g1 q1 (g2.symm.trans q2)
            subst this
            exact absurd g3 (hin.z.mp d2)
        · rw [lE_of d2, if_neg (by decide), m_k_X9_gives_66, kI_s i]
          exact ih m (i + 1) v4 0 b1 b2 hik h4' (tv.zero fun g => d1 (by rw [g i (Nat.lt_succ_self i) q q1 q2 (hin.2.mp d2)]))
  unfold m_k_X9_gives
  rw [lE_of e1]
  obtain ⟨x, e2, hx⟩ := key (k - 0) wF 0 0 1 rfl (by rw [hm0]; omega) (Nat.zero_le _) (tv.zero fun ⟨j, hj, _⟩ => absurd hj (Nat.not_lt_zero j)) (tv.one fun j hj => absurd hj (Nat.not_lt_zero j))
  exact ⟨x, hds', nI k, b3, e2, hx⟩
theorem k_reason (h : prOK pp n rf gf many) {S Po : Nat → Bool} {su po : Nat → Int64} {kr kv : Nat → Int32} {k : Nat} {q : Nat → Nat} {oa ob : Nat → Int32} (hg : gR pp rf gf many S Po su po kr kv k q oa ob) {obi sc : Nat → Int32} (hob : oB S Po obi sc) {s : Int32} {p r : Nat} (hp : p < 6) (hr : r < many) (hw : zW pp gf (phi S Po s) p r) (hno : ∀ j, j < r → ¬ zW pp gf (phi S Po s) p j) (en : Int32) (ea : Nat → Int32) (es : Nat → Int32) (hn : Int32) (b_1 : Int32) (b_2 : Int32) (b_3 : Int32) (b_p : Int32) (hds : Nat → Int32) : ∃ hds' hn' b1' b2' b3' bp', m_k_X9_reasonFor pp (nI many) en rf ea es hn (nI k) (nI (rk (oO S Po) 6)) b_1 b_2 b_3 b_p su hds kr kv ob obi sc s (nI (64 * p)) = (nI r, hds', hn', b1', b2', b3', bp') := by
  obtain ⟨m0, hm0⟩ := wF_ge
  have hs := hg.1
  have ho : oN (oO S Po) oa ob := hg.2.2.2.2.2
  have hk := hg.2.2.2.2.1
  have hm10 := h.1.1
  have hkm := hk.1
  have hkK : kK pp gf S Po r := tB_K (fun p hp => by
    by_cases g : p < 6
    · exact phi_S g hp
    · have h1 := hg.2.2.1.2 (fun p => p < 6) (fun r hr _ _ p hp => zM_6 h hr hp) p hp
      exact absurd h1 g) (fun p hp => phi_P (gR_sp h hg) hp) hw.2.1
  obtain ⟨j, hj, hqj⟩ := hk.2.2.2 r hr hkK
  have key : ∀ d m i hds hn b1 b2 b3 bp, j - i = d → d < m → i ≤ j → ∃ hds' hn' b1' b2' b3' bp', m_k_X9_reasonFor_2 pp (nI many) en rf ea es (nI k) (nI (rk (oO S Po) 6)) su kr kv ob obi sc s (nI (64 * p)) m (nI i) hds hn b1 b2 b3 bp = (nI r, hds', hn', b1', b2', b3', bp') := by
    intro d
    induction d with
    | zero =>
      intro m i hds hn b1 b2 b3 bp hd hm hi
      obtain ⟨m, rfl⟩ : ∃ q, m = q + 1 := ⟨m - 1, by omega⟩
      have : i = j := by omega
      subst this
      obtain ⟨-, hh, cc, hro⟩ := h.2 (q i) (by rw [hqj]; exact hr)
      have hb := r_bodyH hro hs ho hob s 0 0 0 0
      obtain ⟨x, hds', hn', b3', e2, hx⟩ := r_gives hro hs ho hds s 0 0 0 0 hp
      have hkind := p_kind h (show q i < many by rw [hqj]; exact hr)
      have hw' := hw
      rw [← hqj] at hw'
      rw [m_k_X9_reasonFor_2_succ, m_k_X9_reasonFor_2s, if_neg (by rw [kI_le (by omega) (by omega)]; omega), if_neg (by rw [show (300 : Int32) = nI 300 from rfl, kI_le (by omega) (by omega)]; omega), lE_of (k_bind h hk hj b1 b2 b3 bp)]
      dsimp only
      rw [oE_some, if_neg (by rw [← hkind]; exact hw'.1), lE_of (hb.t hw'.2.1), if_neg (by decide), lE_of e2]
      dsimp only
      rw [if_neg (by rw [hx.t ⟨hw'.2.2.1, by rw [← hkind]; exact hw'.2.2.2.2⟩]; decide), lE_of (k_keptAt (by omega)), (hk.2.1 i hj).1, hqj]
      exact ⟨_, _, _, _, _, _, rfl⟩
    | succ d ih =>
      intro m i hds hn b1 b2 b3 bp hd hm hi
      obtain ⟨m, rfl⟩ : ∃ q, m = q + 1 := ⟨m - 1, by omega⟩
      have hij : i < j := by omega
      have hik : i < k := by omega
      have hqi : q i < r := by rw [← hqj]; exact hk.2.2.1 i j hij hj
      have hqm : q i < many := by omega
      obtain ⟨-, hh, cc, hro⟩ := h.2 (q i) hqm
      have hb := r_bodyH hro hs ho hob s 0 0 0 0
      obtain ⟨x, hds', hn', b3', e2, hx⟩ := r_gives hro hs ho hds s 0 0 0 0 hp
      have hkind := p_kind h hqm
      rw [m_k_X9_reasonFor_2_succ, m_k_X9_reasonFor_2s, if_neg (by rw [kI_le (by omega) (by omega)]; omega), if_neg (by rw [show (300 : Int32) = nI 300 from rfl, kI_le (by omega) (by omega)]; omega), lE_of (k_bind h hk hik b1 b2 b3 bp)]
      dsimp only
      rw [oE_some]
      by_cases d1 : pI pp (rA rf (q i)) 0 = 119
      · rw [if_pos d1, m_k_X9_reasonFor_75, kI_s i]
        exact ih m (i + 1) _ _ _ _ _ _ (by omega) (by omega) (by omega)
      · rw [if_neg d1]
        rcases hb.1 with d2 | d2
        · rw [lE_of d2, if_pos rfl, m_k_X9_reasonFor_75, kI_s i]
          exact ih m (i + 1) _ _ _ _ _ _ (by omega) (by omega) (by omega)
        · rw [lE_of d2, if_neg (by decide), lE_of e2]
          dsimp only
          have hx0 : x = 0 := hx.f fun e => hno (q i) hqi ⟨by rw [hkind]; exact d1, hb.2.mp d2, e.1, hw.2.2.2.1, by rw [hkind]; exact e.2⟩
          rw [if_pos hx0, m_k_X9_reasonFor_75, kI_s i]
          exact ih m (i + 1) _ _ _ _ _ _ (by omega) (by omega) (by omega)
  unfold m_k_X9_reasonFor
  exact key (j - 0) wF 0 hds hn b_1 b_2 b_3 b_p rfl (by rw [hm0]; omega) (Nat.zero_le _)
theorem q11_in (h : prOK pp n rf gf many) (hn6 : n ≤ 6) {S Po : Nat → Bool} {su po : Nat → Int64} {kr kv : Nat → Int32} {k : Nat} {q : Nat → Nat} {oa ob : Nat → Int32} (hg : gR pp rf gf many S Po su po kr kv k q oa ob) {obi sc : Nat → Int32} (hob : oB S Po obi sc) {pl : Nat → Int32} (hpl : ∀ p, p < n → pl p = 0) {c : Nat} (hc : c ≤ 64) {sf : Nat → Int32} {i : Nat} (hi : i < c) {p r : Nat} (hp : p < n) (hr : r < many) (hw : zW pp gf (phi S Po (sf i)) p r) (hno : ∀ j, j < r → ¬ zW pp gf (phi S Po (sf i)) p j) (en : Int32) (ea : Nat → Int32) (es : Nat → Int32) (hn : Int32) (b_1 : Int32) (b_2 : Int32) (b_3 : Int32) (b_p : Int32) (hds : Nat → Int32) (a3 : Int32) (a4 : Int32) : ∃ hds' hn' b1' b2' b3' bp', m_k_L_ask_11 pp (nI n) (nI many) en pl rf ea es hn (nI k) (nI (rk (oO S Po) 6)) b_1 b_2 b_3 b_p su hds kr kv ob obi sc (nI c) 1 sf (nI i) (nI p) a3 a4 = (nI r, hds', hn', b1', b2', b3', bp') := by
  have hin := a_isIn (Po := Po) hg.1 hg.2.2.2.2.2 (show p < 6 by omega) (sf i)
  obtain ⟨hds', hn', b1', b2', b3', bp', e1⟩ := k_reason h hg hob (show p < 6 by omega) hr hw hno en ea es hn b_1 b_2 b_3 b_p hds
  refine ⟨hds', hn', b1', b2', b3', bp', ?_⟩
  have hm10 := h.1.1
  unfold m_k_L_ask_11 m_k_L_asked_11 m_k_X10_reason
  rw [lE_of (a_chk hc sf hi)]
  dsimp only
  rw [if_pos rfl, lE_of (a_atom hn6 hp (hpl p hp) a3 a4)]
  dsimp only
  rw [if_pos rfl, lE_of (hin.t hw.2.2.2.1), if_neg (by decide), lE_of e1]
  unfold m_k_X10_reason_46
  dsimp only
  rw [if_neg (fun e => by
    have h1 : (nI r).toInt = ((-1 : Int32)).toInt := by rw [e]
    rw [kI_ti (by omega)] at h1
    have : ((-1 : Int32)).toInt = -1 := rfl
    omega)]
  rfl
theorem q11_no (hn6 : n ≤ 6) {S Po : Nat → Bool} {su : Nat → Int64} (hs : ws6 su S) {oa ob : Nat → Int32} (ho : oN (oO S Po) oa ob) {pl : Nat → Int32} (hpl : ∀ p, p < n → pl p = 0) {c : Nat} (hc : c ≤ 64) {sf : Nat → Int32} {i : Nat} (hi : i < c) {p : Nat} (hp : p < n) (hb : bt (phi S Po (sf i)) p = false) (rn : Int32) (en : Int32) (rf : Nat → Option Nat) (ea : Nat → Int32) (es : Nat → Int32) (hn : Int32) (kn : Int32) (b_1 : Int32) (b_2 : Int32) (b_3 : Int32) (b_p : Int32) (hds : Nat → Int32) (kr : Nat → Int32) (kv : Nat → Int32) (obi : Nat → Int32) (sc : Nat → Int32) (a3 : Int32) (a4 : Int32) : m_k_L_ask_11 pp (nI n) rn en pl rf ea es hn kn (nI (rk (oO S Po) 6)) b_1 b_2 b_3 b_p su hds kr kv ob obi sc (nI c) 1 sf (nI i) (nI p) a3 a4 = ((-2005), hds, hn, b_1, b_2, b_3, b_p) := by
  have hin := a_isIn (Po := Po) hs ho (show p < 6 by omega) (sf i)
  unfold m_k_L_ask_11 m_k_L_asked_11 m_k_X10_reason
  rw [lE_of (a_chk hc sf hi)]
  dsimp only
  rw [if_pos rfl, lE_of (a_atom hn6 hp (hpl p hp) a3 a4)]
  dsimp only
  rw [if_pos rfl, lE_of (hin.f (by rw [hb]; exact Bool.false_ne_true)), if_pos rfl]
  unfold m_k_X10_reason_46
  rw [if_pos rfl]
  rfl
end RE
