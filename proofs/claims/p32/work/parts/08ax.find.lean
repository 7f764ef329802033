/-! the pure argument, 24: the answers found are those of the definition, in their order -/
section FA
variable {pp : pT} {n many : Nat} {rf gf : Nat → Option Nat}
theorem full_k : ∀ k, k < 7 → m_k_X9_fullSet (nI k) + 1 = nI (2 ^ k) := by decide +kernel
theorem v_dec : ∀ k, k < 7 → ∀ v, v < 64 → decide (v < 2 ^ k) = (List.range 6).all (fun j => decide (j < k) || !bt (nI v) j) := by decide +kernel
theorem v_iff {O : Nat → Bool} {v : Nat} (hv : v < 64) : vS O (nI v) ↔ v < 2 ^ rk O 6 := by
  have h := v_dec (rk O 6) (by have := rk6 O; omega) v hv
  constructor
  · intro e
    refine of_decide_eq_true (h.trans (List.all_eq_true.mpr fun j _ => ?_))
    by_cases g : j < rk O 6
    · rw [decide_eq_true g]
      rfl
    · rw [e j (by omega)]
      exact Bool.or_true _
  · intro e j hj
    by_cases g : j < 6
    · have h2 := List.all_eq_true.mp (h.symm.trans (decide_eq_true e)) j (List.mem_range.mpr g)
      rw [decide_eq_false (by omega : ¬ j < rk O 6)] at h2
      cases hb : bt (nI v) j with
      | false => rfl
      | true => rw [hb] at h2; cases h2
    · exact kI_sm v hv j (by omega)
theorem hi_dec : ∀ u, u < 64 → ∀ v, v < u → (List.range 6).any (fun j => bt (nI u) j && (!bt (nI v) j) && (List.range 6).all (fun i => decide (i ≤ j) || (bt (nI u) i == bt (nI v) i))) = true := by decide +kernel
/-- a greater int has the first atom -/
theorem fst_gt {S Po : Nat → Bool} {u v : Nat} (hu : u < 64) (hv : v < u) (h1 : vS (oO S Po) (nI u)) : fstA (phi S Po (nI u)) (phi S Po (nI v)) := by
  obtain ⟨j, j1, j2⟩ := List.any_eq_true.mp (hi_dec u hu v hv)
  have j3 := (Bool.and_eq_true _ _).mp j2
  have j4 := (Bool.and_eq_true _ _).mp j3.1
  have hj : j < rk (oO S Po) 6 := by
    by_cases g : j < rk (oO S Po) 6
    · exact g
    · have := j4.1
      rw [h1 j (by omega)] at this
      cases this
  obtain ⟨p, p1, p2, p3⟩ := pos_onto hj
  refine ⟨p, by rw [phi_O p1 p2, p3]; exact j4.1, ?_, fun q hq => ?_⟩
  · rw [phi_O p1 p2, p3]
    cases hb : bt (nI v) j with
    | false => rfl
    | true => have := j4.2; rw [hb] at this; cases this
  · have q6 : q < 6 := by omega
    rw [phi_b S Po _ q6, phi_b S Po _ q6]
    cases ho : oO S Po q with
    | false => rfl
    | true =>
      have g1 := pos_rev p1 hq ho p2
      have g2 := pos_lt q6 ho
      have g3 := rk6 (oO S Po)
      have g4 := List.all_eq_true.mp j3.2 (pos (oO S Po) q) (List.mem_range.mpr (by omega))
      rw [decide_eq_false (by omega : ¬ pos (oO S Po) q ≤ j), Bool.false_or] at g4
      rw [eq_of_beq g4]
theorem oL_cong {R : Int32 → Int32 → Prop} {P Q : Int32 → Prop} {q : Nat → Int32} {c : Nat} (h : oL R P q c) (e : ∀ x, P x ↔ Q x) : oL R Q q c := ⟨fun i hi => (e _).mp (h.1 i hi), h.2.1, fun x hx => h.2.2 x ((e x).mpr hx)⟩
theorem oL_list {R : Int32 → Int32 → Prop} {P : Int32 → Prop} {q q2 : Nat → Int32} {c : Nat} (h : oL R P q c) (e : ∀ i, i < c → q2 i = q i) : oL R P q2 c := by
  refine ⟨fun i hi => by rw [e i hi]; exact h.1 i hi, fun i j hij hj => by rw [e i (by omega), e j hj]; exact h.2.1 i j hij hj, fun x hx => ?_⟩
  obtain ⟨i, hi, he⟩ := h.2.2 x hx
  exact ⟨i, hi, by rw [e i hi]; exact he⟩
/-- what is to be found: sets not below v that fit and are answers -/
def fS (pp : pT) (gf : Nat → Option Nat) (many : Nat) (S Po I Q : Nat → Bool) (v : Nat) (s : Int32) : Prop := ∃ u, u < 2 ^ rk (oO S Po) 6 ∧ v ≤ u ∧ s = nI u ∧ ((∀ p, p < 6 → I p = true → bt (phi S Po s) p = true) ∧ ∀ p, p < 6 → Q p = true → bt (phi S Po s) p = false) ∧ zA pp gf many (phi S Po s)
def coOK (pp : pT) (gf : Nat → Option Nat) (many : Nat) (S Po : Nat → Bool) (sf : Nat → Int32) (cf : Nat → Int64) (c : Nat) : Prop := ∀ i, i < c → (cf (3 * i)).toInt = zC pp gf many 1 (phi S Po (sf i)) ∧ (cf (3 * i + 1)).toInt = zC pp gf many 2 (phi S Po (sf i)) ∧ (cf (3 * i + 2)).toInt = zC pp gf many 3 (phi S Po (sf i))
theorem k_find (h : prOK pp n rf gf many) {S Po I Q : Nat → Bool} {su po : Nat → Int64} {kr kv : Nat → Int32} {k : Nat} {q : Nat → Nat} {oa ob : Nat → Int32} (hg : gR pp rf gf many S Po su po kr kv k q oa ob) {c0 w0 : Nat} {ch cg : Int32} {c1 c2 c3 c4 c5 c6 w1 w2 w3 obi sc : Nat → Int32} (hc : cP pp rf gf many S Po q k ch cg c0 w0 c1 c2 c3 c4 c5 c6 w1 w2 w3 obi sc) {mh ml ih : Int32} (hfit : ∀ s, tv (m_k_X9_fits mh ml ih s) ((∀ p, p < 6 → I p = true → bt (phi S Po s) p = true) ∧ ∀ p, p < 6 → Q p = true → bt (phi S Po s) p = false)) (lb an : Int32) (ac br se : Nat → Int32) (co : Nat → Int64) : ∃ lb' an' ac' br' c sf cf, m_k_X9_findAnswers pp (nI many) rf (nI (rk (oO S Po) 6)) an ch cg 0 mh ml ih lb (nI c0) c1 c2 c3 c4 c5 c6 (nI w0) w1 w2 w3 ac obi sc br se co = (1, lb', an', ac', br', nI c, sf, cf) ∧ c ≤ 64 ∧ oL (fun s t => ah pp gf many (phi S Po s) (phi S Po t)) (fS pp gf many S Po I Q 0) sf c ∧ coOK pp gf many S Po sf cf c := by
  have hz := h.1
  obtain ⟨m0, hm0⟩ := wF_ge
  have h6 := rk6 (oO S Po)
  have hpw : 2 ^ rk (oO S Po) 6 ≤ 2 ^ 6 := Nat.pow_le_pow_right (by omega) h6
  have key : ∀ v m lb an ac br c sf cf, v < m → v ≤ 2 ^ rk (oO S Po) 6 → c + v ≤ 2 ^ rk (oO S Po) 6 → oL (fun s t => ah pp gf many (phi S Po s) (phi S Po t)) (fS pp gf many S Po I Q v) sf c → coOK pp gf many S Po sf cf c → ∃ lb' an' ac' br' c' sf' cf', m_k_X9_findAnswers_10 pp (nI many) rf ch cg 0 mh ml ih (nI c0) c1 c2 c3 c4 c5 c6 (nI w0) w1 w2 w3 obi sc m (nI v + (-1)) lb an ac br (nI c) sf cf = (1, lb', an', ac', br', nI c', sf', cf') ∧ c' ≤ 64 ∧ oL (fun s t => ah pp gf many (phi S Po s) (phi S Po t)) (fS pp gf many S Po I Q 0) sf' c' ∧ coOK pp gf many S Po sf' cf' c' := by
    intro v
    induction v with
    | zero =>
      intro m lb an ac br c sf cf hm hv hcv ho hco
      obtain ⟨m, rfl⟩ : ∃ q, m = q + 1 := ⟨m - 1, by omega⟩
      rw [m_k_X9_findAnswers_10_succ, m_k_X9_findAnswers_10s, if_pos (by decide)]
      exact ⟨lb, an, ac, br, c, sf, cf, rfl, by omega, ho, hco⟩
    | succ v IH =>
      intro m lb an ac br c sf cf hm hv hcv ho hco
      obtain ⟨m, rfl⟩ : ∃ q, m = q + 1 := ⟨m - 1, by omega⟩
      have hv64 : v < 64 := by omega
      have hvS : vS (oO S Po) (nI v) := (v_iff hv64).mpr (by omega)
      -- what is below v and what is not
      have down : ∀ x, fS pp gf many S Po I Q v x ↔ fS pp gf many S Po I Q (v + 1) x ∨ x = nI v ∧ fS pp gf many S Po I Q v (nI v) := fun x => by
        constructor
        · rintro ⟨u, u1, u2, rfl, u3⟩
          rcases (show u = v ∨ v + 1 ≤ u by omega) with rfl | g
          · exact Or.inr ⟨rfl, u, u1, u2, rfl, u3⟩
          · exact Or.inl ⟨u, u1, g, rfl, u3⟩
        · rintro (⟨u, u1, u2, u3⟩ | ⟨rfl, g⟩)
          · exact ⟨u, u1, by omega, u3⟩
          · exact g
      have skip : ¬ fS pp gf many S Po I Q v (nI v) → ∀ lb an ac br, ∃ lb' an' ac' br' c' sf' cf', m_k_X9_findAnswers_10 pp (nI many) rf ch cg 0 mh ml ih (nI c0) c1 c2 c3 c4 c5 c6 (nI w0) w1 w2 w3 obi sc m (nI v + (-1)) lb an ac br (nI c) sf cf = (1, lb', an', ac', br', nI c', sf', cf') ∧ c' ≤ 64 ∧ oL (fun s t => ah pp gf many (phi S Po s) (phi S Po t)) (fS pp gf many S Po I Q 0) sf' c' ∧ coOK pp gf many S Po sf' cf' c' := fun hn lb an ac br =>
        IH m lb an ac br c sf cf (by omega) (by omega) (by omega) (oL_cong ho fun x => ⟨fun e => (down x).mpr (Or.inl e), fun e => ((down x).mp e).elim id fun e => absurd e.2 hn⟩) hco
      have hf := hfit (nI v)
      have hmod := k_model h hg hc lb (nI v)
      rw [m_k_X9_findAnswers_10_succ, m_k_X9_findAnswers_10s, nI_m1, if_neg (by rw [show (0 : Int32) = nI 0 from rfl, kI_lt (by omega) (by omega)]; omega), lE]
      by_cases d1 : m_k_X9_fits mh ml ih (nI v) = 0
      · rw [if_pos d1, m_k_X9_findAnswers_66]
        exact skip (fun ⟨u, _, _, _, e, _⟩ => hf.z.mp d1 e) _ _ _ _
      · rw [if_neg d1, lE]
        by_cases d2 : (m_k_X9_isModel pp (nI many) rf cg lb (nI c0) c1 c2 c3 c4 c5 c6 obi sc (nI v)).1 = 0
        · rw [if_pos d2, m_k_X9_findAnswers_66]
          exact skip (fun ⟨u, _, _, _, _, e⟩ => hmod.z.mp d2 e.1) _ _ _ _
        · rw [if_neg d2, lE]
          have hcl := hmod.nz.mp d2
          have hsm := k_small h hg hc ac br hvS hcl
          by_cases d3 : (m_k_X9_hasSmaller pp (nI many) rf ch cg 0 (nI c0) c1 c2 c3 c4 ac obi sc br (nI v)).1 = 0
          · rw [if_pos d3, lE, lE, lE, lE]
            have hans : zA pp gf many (phi S Po (nI v)) := ⟨hcl, fun B h1 h2 => hsm.z.mp d3 ⟨B, h1, h2⟩⟩
            have hin : fS pp gf many S Po I Q v (nI v) := ⟨v, by omega, Nat.le_refl _, rfl, hf.nz.mp d1, hans⟩
            have y1 := k_cost h hg hc (nI v) 1
            have y2 := k_cost h hg hc (nI v) 2
            have y3 := k_cost h hg hc (nI v) 3
            obtain ⟨a, sf', cf', e1, e2, e3, e4, e5, e6⟩ := k_insert (show c < 64 by omega) sf cf (nI v) (m_k_X9_costOf pp (nI many) rf cg (nI w0) w1 w2 w3 obi sc (nI v) 1) (m_k_X9_costOf pp (nI many) rf cg (nI w0) w1 w2 w3 obi sc (nI v) 2) (m_k_X9_costOf pp (nI many) rf cg (nI w0) w1 w2 w3 obi sc (nI v) 3)
            rw [e1]
            dsimp only
            rw [if_neg (by decide), m_k_X9_findAnswers_66]
            have aft : ∀ i, a ≤ i → i < c → ah pp gf many (phi S Po (nI v)) (phi S Po (sf i)) := fun i i1 i2 => by
              obtain ⟨z1, z2, z3⟩ := hco i i2
              have hd := e5 i i1 i2
              unfold dr at hd
              rw [y1, y2, y3, z1, z2, z3] at hd
              unfold ah ahC
              rcases hd with g | ⟨g, g2 | ⟨g2, g3⟩⟩
              · exact Or.inl g
              · exact Or.inr ⟨g.symm, Or.inl g2⟩
              · exact Or.inr ⟨g.symm, Or.inr ⟨g2.symm, Or.inl g3⟩⟩
            have bef : ∀ i, i < a → ah pp gf many (phi S Po (sf i)) (phi S Po (nI v)) := fun i hi => by
              obtain ⟨b, rfl⟩ : ∃ b, a = b + 1 := ⟨a - 1, by omega⟩
              have hlast : ah pp gf many (phi S Po (sf b)) (phi S Po (nI v)) := by
                obtain ⟨z1, z2, z3⟩ := hco b (by omega)
                have hd := e6 b rfl
                unfold dr at hd
                rw [y1, y2, y3, z1, z2, z3] at hd
                obtain ⟨u, u1, u2, u3, -⟩ := ho.1 b (by omega)
                have hfst : fstA (phi S Po (sf b)) (phi S Po (nI v)) := by
                  rw [u3]
                  exact fst_gt (by omega) (by omega) ((v_iff (by omega)).mpr u1)
                unfold ah ahC
                rcases Int.lt_trichotomy (zC pp gf many 3 (phi S Po (sf b))) (zC pp gf many 3 (phi S Po (nI v))) with g | g | g
                · exact Or.inl g
                · refine Or.inr ⟨g, ?_⟩
                  rcases Int.lt_trichotomy (zC pp gf many 2 (phi S Po (sf b))) (zC pp gf many 2 (phi S Po (nI v))) with g2 | g2 | g2
                  · exact Or.inl g2
                  · refine Or.inr ⟨g2, ?_⟩
                    rcases Int.lt_trichotomy (zC pp gf many 1 (phi S Po (sf b))) (zC pp gf many 1 (phi S Po (nI v))) with g3 | g3 | g3
                    · exact Or.inl g3
                    · exact Or.inr ⟨g3, hfst⟩
                    · exact absurd (Or.inr ⟨g, Or.inr ⟨g2, g3⟩⟩) hd
                  · exact absurd (Or.inr ⟨g, Or.inl g2⟩) hd
                · exact absurd (Or.inl g) hd
              rcases (show i = b ∨ i < b by omega) with rfl | g
              · exact hlast
              · exact ah_tr (A := phi S Po (sf i)) (B := phi S Po (sf b)) (C := phi S Po (nI v)) (ho.2.1 i b g (by omega)) hlast
            have hnew := oL_ins (R := fun s t => ah pp gf many (phi S Po s) (phi S Po t)) (P := fS pp gf many S Po I Q (v + 1)) (q := sf) (c := c) (a := a) (x := nI v) (fun x y z g1 g2 => ah_tr (A := phi S Po x) (B := phi S Po y) (C := phi S Po z) g1 g2) ho e2 bef aft
            refine IH m _ _ _ _ (c + 1) sf' cf' (by omega) (by omega) (by omega) (oL_list (oL_cong hnew fun x => ⟨fun e => (down x).mpr (e.elim Or.inl fun e => Or.inr ⟨e, hin⟩), fun e => ((down x).mp e).elim Or.inl fun e => Or.inr e.1⟩) e3) fun i hi => ?_
            have q0 := e4 i hi 0 (by omega)
            have q1 := e4 i hi 1 (by omega)
            have q2 := e4 i hi 2 (by omega)
            rw [show cf' (3 * i) = _ from q0, q1, q2, e3 i hi]
            unfold insC insA
            by_cases g1 : i < a
            · rw [if_pos g1, if_pos g1, if_pos g1, if_pos g1]
              exact hco i (by omega)
            · rw [if_neg g1, if_neg g1, if_neg g1, if_neg g1]
              by_cases g2 : i = a
              · rw [if_pos g2, if_pos g2, if_pos g2, if_pos g2]
                exact ⟨y1, y2, y3⟩
              · rw [if_neg g2, if_neg g2, if_neg g2, if_neg g2]
                exact hco (i - 1) (by omega)
          · rw [if_neg d3, m_k_X9_findAnswers_66]
            exact skip (fun ⟨u, _, _, _, _, e⟩ => by
              obtain ⟨B, b1, b2⟩ := hsm.nz.mp d3
              exact e.2 B b1 b2) _ _ _ _
  unfold m_k_X9_findAnswers
  rw [lE]
  have hfull : m_k_X9_fullSet (nI (rk (oO S Po) 6)) = nI (2 ^ rk (oO S Po) 6) + (-1) := by
    rw [← full_k _ (by omega), Int32.add_assoc]
    exact (Int32.add_zero _).symm
  rw [hfull]
  have hlt : 2 ^ rk (oO S Po) 6 < wF := by
    rw [hm0]
    exact Nat.lt_of_le_of_lt hpw (by omega)
  have hk := key (2 ^ rk (oO S Po) 6) wF lb an ac br 0 se co hlt (Nat.le_refl _) (Nat.le_of_eq (Nat.zero_add _)) ⟨fun i hi => absurd hi (Nat.not_lt_zero i), fun i j _ hj => absurd hj (Nat.not_lt_zero j), fun x hx => by
    obtain ⟨u, u1, u2, -⟩ := hx
    exact absurd u1 (Nat.not_lt.mpr u2)⟩ (fun i hi => absurd hi (Nat.not_lt_zero i))
  exact hk
end FA
