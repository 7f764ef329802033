/-! the pure argument, 8: what one instance gives -/
section EI
variable {pp : pT} {n a z h c : Nat} {su po : Nat → Int64} {S Po : Nat → Bool}
theorem sh_pd : ∀ p, p < 6 → (nI (64 * p) / 64) = nI p := by decide +kernel
theorem each_at (hr : rOK pp n a z h c) (hn kn pu gw b1 b2 b3 : Int32) (su po : Nat → Int64) (hds kr kv kb : Nat → Int32) (rr : Int32) : m_k_X3_eachInstance pp hn kn pu gw b1 b2 b3 su po hds kr kv kb a rr 0 = if m_k_X3_mayHold pp pu b1 b2 b3 0 su po a 0 = 0 then (su, po, hds, kr, kv, kb, gw, hn, kn, b1, b2, b3, 0) else ((m_k_X3_takeInstance pp kn pu gw 0 0 0 0 su po hds kr kv kb a rr).1, (m_k_X3_takeInstance pp kn pu gw 0 0 0 0 su po hds kr kv kb a rr).2.1, (m_k_X3_takeInstance pp kn pu gw 0 0 0 0 su po hds kr kv kb a rr).2.2.1, (m_k_X3_takeInstance pp kn pu gw 0 0 0 0 su po hds kr kv kb a rr).2.2.2.1, (m_k_X3_takeInstance pp kn pu gw 0 0 0 0 su po hds kr kv kb a rr).2.2.2.2.1, (m_k_X3_takeInstance pp kn pu gw 0 0 0 0 su po hds kr kv kb a rr).2.2.2.2.2.1, (m_k_X3_takeInstance pp kn pu gw 0 0 0 0 su po hds kr kv kb a rr).2.2.2.2.2.2.1, (m_k_X3_takeInstance pp kn pu gw 0 0 0 0 su po hds kr kv kb a rr).2.2.2.2.2.2.2.1, (m_k_X3_takeInstance pp kn pu gw 0 0 0 0 su po hds kr kv kb a rr).2.2.2.2.2.2.2.2.1, 0, 0, (m_k_X3_takeInstance pp kn pu gw 0 0 0 0 su po hds kr kv kb a rr).2.2.2.2.2.2.2.2.2, 0) := by
  obtain ⟨m, hm⟩ := wF_ge
  unfold m_k_X3_eachInstance
  rw [if_neg (by decide : ¬ (0 : Int32) = -1), lE]
  by_cases c1 : m_k_X3_mayHold pp pu b1 b2 b3 0 su po a 0 = 0
  · rw [if_pos c1, if_pos c1]
  · rw [if_neg c1, if_neg c1, lE, r_values hr (by decide), lE, r_values hr (by decide), lE, r_values hr (by decide), hm, show m + 1000 = (m + 998) + 1 + 1 from rfl]
    rw [m_k_X3_eachInstance_47_succ, m_k_X3_eachInstance_47s, if_neg (by decide), lE, r_mayHold_d hr _ _ _ _ _ (by decide), if_neg (by decide), hm, show m + 1000 = (m + 998) + 1 + 1 from rfl]
    rw [m_k_X3_eachInstance_78_succ, m_k_X3_eachInstance_78s, if_neg (by decide), lE, r_mayHold_d hr _ _ _ _ _ (by decide), if_neg (by decide), hm, show m + 1000 = (m + 998) + 1 + 1 from rfl]
    rw [m_k_X3_eachInstance_109_succ, m_k_X3_eachInstance_109s, if_neg (by decide), lE, r_mayHold_d hr _ _ _ _ _ (by decide), if_neg (by decide), lE, m_k_X3_eachInstance_140]
    rw [m_k_X3_eachInstance_109_succ, m_k_X3_eachInstance_109s, if_pos (by decide), m_k_X3_eachInstance_146]
    rw [m_k_X3_eachInstance_78_succ, m_k_X3_eachInstance_78s, if_pos (by decide), m_k_X3_eachInstance_152]
    rw [m_k_X3_eachInstance_47_succ, m_k_X3_eachInstance_47s, if_pos (by decide)]
theorem take_2 (hr : rOK pp n a z h c) (gw b1 b2 b3 bp : Int32) (su po : Nat → Int64) (hds kr kv kb : Nat → Int32) {k r : Nat} (hk : k < 300) (hrr : r < 20) : ∃ hds' k', m_k_X3_takeInstance pp (nI k) 2 gw b1 b2 b3 bp su po hds kr kv kb a (nI r) = (su, po, hds', upd kr k (nI r), upd kv k (b1 + 8 * (b2 + 8 * (b3 + 8 * bp))), upd kb r (kb r + 1), gw, nI k', nI (k + 1), b3) ∧ hL pp z hds' k' := by
  obtain ⟨hds', k', e, hl⟩ := r_listHeads hr su hds b1 b2 b3 bp
  refine ⟨hds', k', ?_, hl⟩
  unfold m_k_X3_takeInstance
  rw [lE, lE, e]
  show (if (1 : Int32) = 0 then _ else _) = _
  rw [if_neg (by decide), if_pos rfl, lE]
  unfold m_k_X3_keep
  rw [if_neg (by rw [show (0 : Int32) = nI 0 from rfl, kI_lt (by omega) (by omega)]; omega), if_pos (by rw [show (20 : Int32) = nI 20 from rfl, kI_lt (by omega) (by omega)]; omega), if_neg (by rw [show (0 : Int32) = nI 0 from rfl, kI_lt (by omega) (by omega)]; omega), if_neg (by rw [show (300 : Int32) = nI 300 from rfl, kI_le (by omega) (by omega)]; omega), m_k_X3_keep_48, kI_nat (by omega), kI_nat (by omega), kI_s]
  rfl
theorem takeL_0 {z : Nat} {hds : Nat → Int32} {k : Nat} (hl : hL pp z hds k) (kn : Int32) (kr kv kb : Nat → Int32) (x1 : Int32) (b3 : Int32) : ∀ d m i (X : Nat → Bool) (su : Nat → Int64) (g : Int32), k - i = d → d < m → i ≤ k → ws6 su X → ∃ x' g' X', m_k_X3_takeInstance_55a kn kr kv kb (x1, hds, nI k, b3) m (nI i) su po g = (x', po, hds, kr, kv, kb, g', nI k, kn, b3) ∧ ws6 x' X' ∧ (∀ p, X' p = true ↔ X p = true ∨ ∃ j, i ≤ j ∧ j < k ∧ hds j = nI (64 * p) ∧ p < 6) ∧ ∀ p, bt g' p = true ↔ bt g p = true ∨ (X p = false ∧ ∃ j, i ≤ j ∧ j < k ∧ hds j = nI (64 * p) ∧ p < 6) := by
  intro d
  induction d with
  | zero =>
    intro m i X su g hd hm hi hw
    obtain ⟨m, rfl⟩ : ∃ q, m = q + 1 := ⟨m - 1, by omega⟩
    have : i = k := by omega
    subst this
    refine ⟨su, g, X, ?_, hw, fun p => ⟨Or.inl, fun e => e.elim id fun ⟨j, g1, g2, _⟩ => by omega⟩, fun p => ⟨Or.inl, fun e => e.elim id fun ⟨_, j, g1, g2, _⟩ => by omega⟩⟩
    rw [m_k_X3_takeInstance_55a_succ, m_k_X3_takeInstance_55as]
    exact if_pos (Int32.le_refl _)
  | succ d ih =>
    intro m i X su g hd hm hi hw
    obtain ⟨m, rfl⟩ : ∃ q, m = q + 1 := ⟨m - 1, by omega⟩
    have hk2 := hl.1
    obtain ⟨p, hp, hpe, hpb⟩ := hl.2.1 i (by omega)
    obtain ⟨e1, e2⟩ := s_add hw hp
    have uni : ∀ q, q < 6 → nI (64 * p) = nI (64 * q) → p = q := fun q hq e => by
      rw [kI_eq (by omega) (by omega)] at e
      omega
    have st : ∀ g2 : Int32, (∀ q, bt g2 q = true ↔ bt g q = true ∨ X p = false ∧ q = p) → ∃ x' g' X', m_k_X3_takeInstance_55a kn kr kv kb (x1, hds, nI k, b3) m (nI (i + 1)) (vp_updL su p 1) po g2 = (x', po, hds, kr, kv, kb, g', nI k, kn, b3) ∧ ws6 x' X' ∧ (∀ p, X' p = true ↔ X p = true ∨ ∃ j, i ≤ j ∧ j < k ∧ hds j = nI (64 * p) ∧ p < 6) ∧ ∀ p, bt g' p = true ↔ bt g p = true ∨ (X p = false ∧ ∃ j, i ≤ j ∧ j < k ∧ hds j = nI (64 * p) ∧ p < 6) := fun g2 hg2 => by
      obtain ⟨x', g', X', f1, f2, f3, f4⟩ := ih m (i + 1) _ _ g2 (by omega) (by omega) (by omega) e2
      refine ⟨x', g', X', f1, f2, fun q => ?_, fun q => ?_⟩
      · rw [f3 q, Bool.or_eq_true, decide_eq_true_iff]
        constructor
        · rintro ((g1 | rfl) | ⟨j, g1, g2, g3⟩)
          · exact Or.inl g1
          · exact Or.inr ⟨i, Nat.le_refl _, by omega, hpe, hp⟩
          · exact Or.inr ⟨j, by omega, g2, g3⟩
        · rintro (g1 | ⟨j, g1, g2, g3, g4⟩)
          · exact Or.inl (Or.inl g1)
          · rcases (show j = i ∨ i + 1 ≤ j by omega) with rfl | g5
            · exact Or.inl (Or.inr (uni q g4 (hpe.symm.trans g3)).symm)
            · exact Or.inr ⟨j, g5, g2, g3, g4⟩
      · rw [f4 q, hg2 q]
        constructor
        · rintro ((g1 | ⟨g1, rfl⟩) | ⟨g0, j, g1, g2, g3⟩)
          · exact Or.inl g1
          · exact Or.inr ⟨g1, i, Nat.le_refl _, by omega, hpe, hp⟩
          · exact Or.inr ⟨(Bool.or_eq_false_iff.mp g0).1, j, by omega, g2, g3⟩
        · rintro (g1 | ⟨g0, j, g1, g2, g3, g4⟩)
          · exact Or.inl (Or.inl g1)
          · by_cases e : q = p
            · subst e
              exact Or.inl (Or.inr ⟨g0, rfl⟩)
            · rcases (show j = i ∨ i + 1 ≤ j by omega) with rfl | g5
              · exact absurd (uni q g4 (hpe.symm.trans g3)).symm e
              · exact Or.inr ⟨by rw [g0, decide_eq_false e]; rfl, j, g5, g2, g3, g4⟩
    rw [m_k_X3_takeInstance_55a_succ, m_k_X3_takeInstance_55as]
    show ∃ x' g' X', (if nI k ≤ nI i then _ else _) = _ ∧ _
    rw [if_neg (by rw [kI_le (by omega) (by omega)]; omega), lE, s_headAt (by omega)]
    dsimp only
    rw [hpe, lE, e1, sh_pd p hp]
    show ∃ x' g' X', (if (if X p = true then (0 : Int32) else 1) = 0 then _ else _) = _ ∧ _
    cases hx : X p with
    | true =>
      rw [if_pos rfl, if_pos rfl, m_k_X3_takeInstance_98a, kI_s]
      exact st g fun q => ⟨Or.inl, fun e => e.elim id fun e => by rw [hx] at e; cases e.1⟩
    | false =>
      rw [if_neg (by decide), if_neg (by decide), m_k_X3_takeInstance_98a, kI_s]
      exact st _ fun q => by
        rw [b_or, b_one' (by omega), Bool.or_eq_true, decide_eq_true_iff]
        exact ⟨fun e => e.elim Or.inl fun e => Or.inr ⟨hx, e⟩, fun e => e.elim Or.inl fun e => Or.inr e.2⟩
theorem take_0 (hr : rOK pp n a z h c) (kn : Int32) (b1 b2 b3 bp : Int32) (hds kr kv kb : Nat → Int32) (rr : Int32) {X : Nat → Bool} (hw : ws6 su X) : ∃ x' g' hds' hn' X', m_k_X3_takeInstance pp kn 0 0 b1 b2 b3 bp su po hds kr kv kb a rr = (x', po, hds', kr, kv, kb, g', hn', kn, b3) ∧ ws6 x' X' ∧ (∀ p, X' p = true ↔ X p = true ∨ bt (pI pp z 1) p = true) ∧ ∀ p, bt g' p = true ↔ X p = false ∧ bt (pI pp z 1) p = true := by
  obtain ⟨hds', k', e, hl⟩ := r_listHeads hr su hds b1 b2 b3 bp
  obtain ⟨m, hm⟩ := wF_ge
  have hk2 := hl.1
  have hh : ∀ p, bt (pI pp z 1) p = true ↔ ∃ j, 0 ≤ j ∧ j < k' ∧ hds' j = nI (64 * p) ∧ p < 6 := fun p => by
    constructor
    · intro g
      obtain ⟨g1, j, g2, g3⟩ := hl.2.2.2 p g
      exact ⟨j, Nat.zero_le _, g2, g3, g1⟩
    · rintro ⟨j, -, g2, g3, g4⟩
      obtain ⟨q, h1, h2, h3⟩ := hl.2.1 j g2
      rw [h2, kI_eq (by omega) (by omega)] at g3
      rw [show p = q by omega]
      exact h3
  obtain ⟨x', g', X', f1, f2, f3, f4⟩ := takeL_0 hl kn kr kv kb 1 b3 (k' - 0) wF 0 X su 0 rfl (by rw [hm]; omega) (Nat.zero_le _) hw
  refine ⟨x', g', hds', nI k', X', ?_, f2, fun p => by rw [f3 p, hh p], fun p => ?_⟩
  · unfold m_k_X3_takeInstance
    rw [lE, lE, e]
    show (if (1 : Int32) = 0 then _ else _) = _
    rw [if_neg (by decide), if_neg (by decide), if_pos rfl, m_k_X3_takeInstance_50a]
    exact f1
  · rw [f4 p, b_0, hh p]
    exact ⟨fun e => e.elim (fun e => by cases e) id, Or.inr⟩
theorem each_0 (hr : rOK pp n a z h c) (hn kn b1 b2 b3 : Int32) (hds kr kv kb : Nat → Int32) (rr : Int32) (hs : ws6 su S) (hp : ws6 po Po) : ∃ x' g' hds' hn' b1' b2' b3' X', m_k_X3_eachInstance pp hn kn 0 0 b1 b2 b3 su po hds kr kv kb a rr 0 = (x', po, hds', kr, kv, kb, g', hn', kn, b1', b2', b3', 0) ∧ ws6 x' X' ∧ (∀ p, X' p = true ↔ S p = true ∨ (((∀ p, bt (pI pp z 4) p = true → S p = true) ∧ ∀ p, bt (pI pp z 5) p = true → S p = false) ∧ bt (pI pp z 1) p = true)) ∧ ∀ p, bt g' p = true ↔ S p = false ∧ X' p = true := by
  have ht := r_mayHold hr hs hp 0 b1 b2 b3 0
  rw [if_pos rfl] at ht
  rw [each_at hr]
  by_cases c1 : m_k_X3_mayHold pp 0 b1 b2 b3 0 su po a 0 = 0
  · rw [if_pos c1]
    have hno := ht.z.mp c1
    refine ⟨su, 0, hds, hn, b1, b2, b3, S, rfl, hs, fun p => ⟨Or.inl, fun e => e.elim id fun e => absurd e.1 hno⟩, fun p => ?_⟩
    rw [b_0]
    exact ⟨fun e => (by cases e), fun e => by rw [e.1] at e; cases e.2⟩
  · rw [if_neg c1]
    have hyes := ht.nz.mp c1
    obtain ⟨x', g', hds', hn', X', e, f1, f2, f3⟩ := take_0 hr kn 0 0 0 0 hds kr kv kb rr (X := S) hs
    rw [e]
    refine ⟨x', g', hds', hn', 0, 0, 0, X', rfl, f1, fun p => ?_, fun p => ?_⟩
    · rw [f2 p]
      exact ⟨fun e => e.elim Or.inl fun e => Or.inr ⟨hyes, e⟩, fun e => e.elim Or.inl fun e => Or.inr e.2⟩
    · rw [f3 p, f2 p]
      exact ⟨fun e => ⟨e.1, Or.inr e.2⟩, fun e => ⟨e.1, e.2.elim (fun e2 => by rw [e.1] at e2; cases e2) id⟩⟩
theorem takeL_1 {z : Nat} {hds : Nat → Int32} {k : Nat} (hl : hL pp z hds k) (kn : Int32) (kr kv kb : Nat → Int32) (x1 : Int32) (b3 : Int32) : ∀ d m i (X : Nat → Bool) (po : Nat → Int64) (g : Int32), k - i = d → d < m → i ≤ k → ws6 po X → ∃ x' g' X', m_k_X3_takeInstance_55 kn kr kv kb (x1, hds, nI k, b3) m (nI i) su po g = (su, x', hds, kr, kv, kb, g', nI k, kn, b3) ∧ ws6 x' X' ∧ (∀ p, X' p = true ↔ X p = true ∨ ∃ j, i ≤ j ∧ j < k ∧ hds j = nI (64 * p) ∧ p < 6) ∧ ∀ p, bt g' p = true ↔ bt g p = true ∨ (X p = false ∧ ∃ j, i ≤ j ∧ j < k ∧ hds j = nI (64 * p) ∧ p < 6) := by
  intro d
  induction d with
  | zero =>
    intro m i X po g hd hm hi hw
    obtain ⟨m, rfl⟩ : ∃ q, m = q + 1 := ⟨m - 1, by omega⟩
    have : i = k := by omega
    subst this
    refine ⟨po, g, X, ?_, hw, fun p => ⟨Or.inl, fun e => e.elim id fun ⟨j, g1, g2, _⟩ => by omega⟩, fun p => ⟨Or.inl, fun e => e.elim id fun ⟨_, j, g1, g2, _⟩ => by omega⟩⟩
    rw [m_k_X3_takeInstance_55_succ, m_k_X3_takeInstance_55s]
    exact if_pos (Int32.le_refl _)
  | succ d ih =>
    intro m i X po g hd hm hi hw
    obtain ⟨m, rfl⟩ : ∃ q, m = q + 1 := ⟨m - 1, by omega⟩
    have hk2 := hl.1
    obtain ⟨p, hp, hpe, hpb⟩ := hl.2.1 i (by omega)
    obtain ⟨e1, e2⟩ := s_add hw hp
    have uni : ∀ q, q < 6 → nI (64 * p) = nI (64 * q) → p = q := fun q hq e => by
      rw [kI_eq (by omega) (by omega)] at e
      omega
    have st : ∀ g2 : Int32, (∀ q, bt g2 q = true ↔ bt g q = true ∨ X p = false ∧ q = p) → ∃ x' g' X', m_k_X3_takeInstance_55 kn kr kv kb (x1, hds, nI k, b3) m (nI (i + 1)) su (vp_updL po p 1) g2 = (su, x', hds, kr, kv, kb, g', nI k, kn, b3) ∧ ws6 x' X' ∧ (∀ p, X' p = true ↔ X p = true ∨ ∃ j, i ≤ j ∧ j < k ∧ hds j = nI (64 * p) ∧ p < 6) ∧ ∀ p, bt g' p = true ↔ bt g p = true ∨ (X p = false ∧ ∃ j, i ≤ j ∧ j < k ∧ hds j = nI (64 * p) ∧ p < 6) := fun g2 hg2 => by
      obtain ⟨x', g', X', f1, f2, f3, f4⟩ := ih m (i + 1) _ _ g2 (by omega) (by omega) (by omega) e2
      refine ⟨x', g', X', f1, f2, fun q => ?_, fun q => ?_⟩
      · rw [f3 q, Bool.or_eq_true, decide_eq_true_iff]
        constructor
        · rintro ((g1 | rfl) | ⟨j, g1, g2, g3⟩)
          · exact Or.inl g1
          · exact Or.inr ⟨i, Nat.le_refl _, by omega, hpe, hp⟩
          · exact Or.inr ⟨j, by omega, g2, g3⟩
        · rintro (g1 | ⟨j, g1, g2, g3, g4⟩)
          · exact Or.inl (Or.inl g1)
          · rcases (show j = i ∨ i + 1 ≤ j by omega) with rfl | g5
            · exact Or.inl (Or.inr (uni q g4 (hpe.symm.trans g3)).symm)
            · exact Or.inr ⟨j, g5, g2, g3, g4⟩
      · rw [f4 q, hg2 q]
        constructor
        · rintro ((g1 | ⟨g1, rfl⟩) | ⟨g0, j, g1, g2, g3⟩)
          · exact Or.inl g1
          · exact Or.inr ⟨g1, i, Nat.le_refl _, by omega, hpe, hp⟩
          · exact Or.inr ⟨(Bool.or_eq_false_iff.mp g0).1, j, by omega, g2, g3⟩
        · rintro (g1 | ⟨g0, j, g1, g2, g3, g4⟩)
          · exact Or.inl (Or.inl g1)
          · by_cases e : q = p
            · subst e
              exact Or.inl (Or.inr ⟨g0, rfl⟩)
            · rcases (show j = i ∨ i + 1 ≤ j by omega) with rfl | g5
              · exact absurd (uni q g4 (hpe.symm.trans g3)).symm e
              · exact Or.inr ⟨by rw [g0, decide_eq_false e]; rfl, j, g5, g2, g3, g4⟩
    rw [m_k_X3_takeInstance_55_succ, m_k_X3_takeInstance_55s]
    show ∃ x' g' X', (if nI k ≤ nI i then _ else _) = _ ∧ _
    rw [if_neg (by rw [kI_le (by omega) (by omega)]; omega), lE, s_headAt (by omega)]
    dsimp only
    rw [hpe, lE, e1, sh_pd p hp]
    show ∃ x' g' X', (if (if X p = true then (0 : Int32) else 1) = 0 then _ else _) = _ ∧ _
    cases hx : X p with
    | true =>
      rw [if_pos rfl, if_pos rfl, m_k_X3_takeInstance_98, kI_s]
      exact st g fun q => ⟨Or.inl, fun e => e.elim id fun e => by rw [hx] at e; cases e.1⟩
    | false =>
      rw [if_neg (by decide), if_neg (by decide), m_k_X3_takeInstance_98, kI_s]
      exact st _ fun q => by
        rw [b_or, b_one' (by omega), Bool.or_eq_true, decide_eq_true_iff]
        exact ⟨fun e => e.elim Or.inl fun e => Or.inr ⟨hx, e⟩, fun e => e.elim Or.inl fun e => Or.inr e.2⟩
theorem take_1 (hr : rOK pp n a z h c) (kn : Int32) (b1 b2 b3 bp : Int32) (hds kr kv kb : Nat → Int32) (rr : Int32) {X : Nat → Bool} (hw : ws6 po X) : ∃ x' g' hds' hn' X', m_k_X3_takeInstance pp kn 1 0 b1 b2 b3 bp su po hds kr kv kb a rr = (su, x', hds', kr, kv, kb, g', hn', kn, b3) ∧ ws6 x' X' ∧ (∀ p, X' p = true ↔ X p = true ∨ bt (pI pp z 1) p = true) ∧ ∀ p, bt g' p = true ↔ X p = false ∧ bt (pI pp z 1) p = true := by
  obtain ⟨hds', k', e, hl⟩ := r_listHeads hr su hds b1 b2 b3 bp
  obtain ⟨m, hm⟩ := wF_ge
  have hk2 := hl.1
  have hh : ∀ p, bt (pI pp z 1) p = true ↔ ∃ j, 0 ≤ j ∧ j < k' ∧ hds' j = nI (64 * p) ∧ p < 6 := fun p => by
    constructor
    · intro g
      obtain ⟨g1, j, g2, g3⟩ := hl.2.2.2 p g
      exact ⟨j, Nat.zero_le _, g2, g3, g1⟩
    · rintro ⟨j, -, g2, g3, g4⟩
      obtain ⟨q, h1, h2, h3⟩ := hl.2.1 j g2
      rw [h2, kI_eq (by omega) (by omega)] at g3
      rw [show p = q by omega]
      exact h3
  obtain ⟨x', g', X', f1, f2, f3, f4⟩ := takeL_1 hl kn kr kv kb 1 b3 (k' - 0) wF 0 X po 0 rfl (by rw [hm]; omega) (Nat.zero_le _) hw
  refine ⟨x', g', hds', nI k', X', ?_, f2, fun p => by rw [f3 p, hh p], fun p => ?_⟩
  · unfold m_k_X3_takeInstance
    rw [lE, lE, e]
    show (if (1 : Int32) = 0 then _ else _) = _
    rw [if_neg (by decide), if_neg (by decide), if_neg (by decide), m_k_X3_takeInstance_50]
    exact f1
  · rw [f4 p, b_0, hh p]
    exact ⟨fun e => e.elim (fun e => by cases e) id, Or.inr⟩
theorem each_1 (hr : rOK pp n a z h c) (hn kn b1 b2 b3 : Int32) (hds kr kv kb : Nat → Int32) (rr : Int32) (hs : ws6 su S) (hp : ws6 po Po) : ∃ x' g' hds' hn' b1' b2' b3' X', m_k_X3_eachInstance pp hn kn 1 0 b1 b2 b3 su po hds kr kv kb a rr 0 = (su, x', hds', kr, kv, kb, g', hn', kn, b1', b2', b3', 0) ∧ ws6 x' X' ∧ (∀ p, X' p = true ↔ Po p = true ∨ (((∀ p, bt (pI pp z 4) p = true → Po p = true) ∧ ∀ p, bt (pI pp z 5) p = true → S p = false) ∧ bt (pI pp z 1) p = true)) ∧ ∀ p, bt g' p = true ↔ Po p = false ∧ X' p = true := by
  have ht := r_mayHold hr hs hp 1 b1 b2 b3 0
  rw [if_neg (by decide)] at ht
  rw [each_at hr]
  by_cases c1 : m_k_X3_mayHold pp 1 b1 b2 b3 0 su po a 0 = 0
  · rw [if_pos c1]
    have hno := ht.z.mp c1
    refine ⟨po, 0, hds, hn, b1, b2, b3, Po, rfl, hp, fun p => ⟨Or.inl, fun e => e.elim id fun e => absurd e.1 hno⟩, fun p => ?_⟩
    rw [b_0]
    exact ⟨fun e => (by cases e), fun e => by rw [e.1] at e; cases e.2⟩
  · rw [if_neg c1]
    have hyes := ht.nz.mp c1
    obtain ⟨x', g', hds', hn', X', e, f1, f2, f3⟩ := take_1 hr kn 0 0 0 0 hds kr kv kb rr (X := Po) hp
    rw [e]
    refine ⟨x', g', hds', hn', 0, 0, 0, X', rfl, f1, fun p => ?_, fun p => ?_⟩
    · rw [f2 p]
      exact ⟨fun e => e.elim Or.inl fun e => Or.inr ⟨hyes, e⟩, fun e => e.elim Or.inl fun e => Or.inr e.2⟩
    · rw [f3 p, f2 p]
      exact ⟨fun e => ⟨e.1, Or.inr e.2⟩, fun e => ⟨e.1, e.2.elim (fun e2 => by rw [e.1] at e2; cases e2) id⟩⟩
end EI
