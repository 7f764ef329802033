/-! the pure argument, 25: counting answers by all smaller sets gives their number -/
section CA
variable {pp : pT} {n many : Nat} {rf gf : Nat → Option Nat}
theorem oL_put {R : Int32 → Int32 → Prop} {P : Int32 → Prop} (htr : ∀ x y z, R x y → R y z → R x z) {q : Nat → Int32} {c : Nat} {x : Int32} (htot : ∀ y, P y → R y x ∨ R x y) (h : oL R P q c) : ∃ q', oL R (fun y => P y ∨ y = x) q' (c + 1) := by
  have key : ∀ k, k ≤ c → ∃ a, a ≤ k ∧ (∀ i, i < a → R (q i) x) ∧ ∀ i, a ≤ i → i < k → R x (q i) := by
    intro k
    induction k with
    | zero => exact fun _ => ⟨0, Nat.le_refl _, fun i hi => absurd hi (Nat.not_lt_zero i), fun i _ hi => absurd hi (Nat.not_lt_zero i)⟩
    | succ k ih =>
      intro hk
      obtain ⟨a, a1, a2, a3⟩ := ih (by omega)
      rcases htot (q k) (h.1 k (by omega)) with g | g
      · refine ⟨k + 1, Nat.le_refl _, fun i hi => ?_, fun i i1 i2 => by omega⟩
        rcases (show i = k ∨ i < k by omega) with rfl | g2
        · exact g
        · exact htr _ _ _ (h.2.1 i k g2 (by omega)) g
      · refine ⟨a, by omega, a2, fun i i1 i2 => ?_⟩
        rcases (show i = k ∨ i < k by omega) with rfl | g2
        · exact g
        · exact a3 i i1 g2
  obtain ⟨a, a1, a2, a3⟩ := key c (Nat.le_refl _)
  exact ⟨_, oL_ins htr h a1 a2 a3⟩
theorem k_count (h : prOK pp n rf gf many) {S Po I Q : Nat → Bool} {su po : Nat → Int64} {kr kv : Nat → Int32} {k : Nat} {q : Nat → Nat} {oa ob : Nat → Int32} (hg : gR pp rf gf many S Po su po kr kv k q oa ob) {c0 w0 : Nat} {ch cg : Int32} {c1 c2 c3 c4 c5 c6 w1 w2 w3 obi sc : Nat → Int32} (hc : cP pp rf gf many S Po q k ch cg c0 w0 c1 c2 c3 c4 c5 c6 w1 w2 w3 obi sc) {mh ml ih : Int32} (hfit : ∀ s, tv (m_k_X9_fits mh ml ih s) ((∀ p, p < 6 → I p = true → bt (phi S Po s) p = true) ∧ ∀ p, p < 6 → Q p = true → bt (phi S Po s) p = false)) (lb an : Int32) (ac : Nat → Int32) : ∃ lb' an' ac' c sf, m_k_X9_countByAll pp (nI many) rf (nI (rk (oO S Po) 6)) an ch cg 0 mh ml ih lb (nI c0) c1 c2 c3 c4 c5 c6 ac obi sc = (nI c, lb', an', ac') ∧ oL (fun s t => ah pp gf many (phi S Po s) (phi S Po t)) (fS pp gf many S Po I Q 0) sf c := by
  have hz := h.1
  obtain ⟨m0, hm0⟩ := wF_ge
  have h6 := rk6 (oO S Po)
  have hpw : 2 ^ rk (oO S Po) 6 ≤ 2 ^ 6 := Nat.pow_le_pow_right (by omega) h6
  have key : ∀ v m lb an ac c sf, v < m → v ≤ 2 ^ rk (oO S Po) 6 → oL (fun s t => ah pp gf many (phi S Po s) (phi S Po t)) (fS pp gf many S Po I Q v) sf c → ∃ lb' an' ac' c' sf', m_k_X9_countByAll_7 pp (nI many) rf ch cg 0 mh ml ih (nI c0) c1 c2 c3 c4 c5 c6 obi sc m (nI c) (nI v + (-1)) lb an ac = (nI c', lb', an', ac') ∧ oL (fun s t => ah pp gf many (phi S Po s) (phi S Po t)) (fS pp gf many S Po I Q 0) sf' c' := by
    intro v
    induction v with
    | zero =>
      intro m lb an ac c sf hm hv ho
      obtain ⟨m, rfl⟩ : ∃ q, m = q + 1 := ⟨m - 1, by omega⟩
      rw [m_k_X9_countByAll_7_succ, m_k_X9_countByAll_7s, if_pos (by decide)]
      exact ⟨lb, an, ac, c, sf, rfl, ho⟩
    | succ v IH =>
      intro m lb an ac c sf hm hv ho
      obtain ⟨m, rfl⟩ : ∃ q, m = q + 1 := ⟨m - 1, by omega⟩
      have hv64 : v < 64 := by omega
      have hvS : vS (oO S Po) (nI v) := (v_iff hv64).mpr (by omega)
      have down : ∀ x, fS pp gf many S Po I Q v x ↔ fS pp gf many S Po I Q (v + 1) x ∨ x = nI v ∧ fS pp gf many S Po I Q v (nI v) := fun x => by
        constructor
        · rintro ⟨u, u1, u2, rfl, u3⟩
          rcases (show u = v ∨ v + 1 ≤ u by omega) with rfl | g
          · exact Or.inr ⟨rfl, u, u1, u2, rfl, u3⟩
          · exact Or.inl ⟨u, u1, g, rfl, u3⟩
        · rintro (⟨u, u1, u2, u3⟩ | ⟨rfl, g⟩)
          · exact ⟨u, u1, by omega, u3⟩
          · exact g
      have skip : ¬ fS pp gf many S Po I Q v (nI v) → ∀ lb an ac, ∃ lb' an' ac' c' sf', m_k_X9_countByAll_7 pp (nI many) rf ch cg 0 mh ml ih (nI c0) c1 c2 c3 c4 c5 c6 obi sc m (nI c) (nI v + (-1)) lb an ac = (nI c', lb', an', ac') ∧ oL (fun s t => ah pp gf many (phi S Po s) (phi S Po t)) (fS pp gf many S Po I Q 0) sf' c' := fun hn lb an ac =>
        IH m lb an ac c sf (by omega) (by omega) (oL_cong ho fun x => ⟨fun e => (down x).mpr (Or.inl e), fun e => ((down x).mp e).elim id fun e => absurd e.2 hn⟩)
      have hf := hfit (nI v)
      have hmod := k_model h hg hc lb (nI v)
      rw [m_k_X9_countByAll_7_succ, m_k_X9_countByAll_7s, nI_m1, if_neg (by rw [show (0 : Int32) = nI 0 from rfl, kI_lt (by omega) (by omega)]; omega), lE]
      by_cases d1 : m_k_X9_fits mh ml ih (nI v) = 0
      · rw [if_pos d1, m_k_X9_countByAll_38]
        exact skip (fun ⟨u, _, _, _, e, _⟩ => hf.z.mp d1 e) _ _ _
      · rw [if_neg d1, lE]
        by_cases d2 : (m_k_X9_isModel pp (nI many) rf cg lb (nI c0) c1 c2 c3 c4 c5 c6 obi sc (nI v)).1 = 0
        · rw [if_pos d2, m_k_X9_countByAll_38]
          exact skip (fun ⟨u, _, _, _, _, e⟩ => hmod.z.mp d2 e.1) _ _ _
        · rw [if_neg d2, lE]
          have hcl := hmod.nz.mp d2
          have hsm := k_smallAll h hg hc ac hvS hcl
          by_cases d3 : (m_k_X9_hasSmallerByAll pp (nI many) rf ch cg 0 (nI c0) c1 c2 c3 c4 ac obi sc (nI v)).1 = 0
          · rw [if_pos d3, m_k_X9_countByAll_38, kI_s c]
            have hans : zA pp gf many (phi S Po (nI v)) := ⟨hcl, fun B h1 h2 => hsm.z.mp d3 ⟨B, h1, h2⟩⟩
            have hin : fS pp gf many S Po I Q v (nI v) := ⟨v, by omega, Nat.le_refl _, rfl, hf.nz.mp d1, hans⟩
            obtain ⟨sf', hnew⟩ := oL_put (R := fun s t => ah pp gf many (phi S Po s) (phi S Po t)) (P := fS pp gf many S Po I Q (v + 1)) (q := sf) (c := c) (x := nI v) (fun x y z g1 g2 => ah_tr (A := phi S Po x) (B := phi S Po y) (C := phi S Po z) g1 g2) (fun y ⟨u, u1, u2, u3, _⟩ => by
              refine ah_tot fun e => ?_
              have := phi_inj (by rw [u3]; exact (v_iff (by omega)).mpr u1) hvS e
              rw [u3, kI_eq (by omega) (by omega)] at this
              omega) ho
            exact IH m _ _ _ (c + 1) sf' (by omega) (by omega) (oL_cong hnew fun x => ⟨fun e => (down x).mpr (e.elim Or.inl fun e => Or.inr ⟨e, hin⟩), fun e => ((down x).mp e).elim Or.inl fun e => Or.inr e.1⟩)
          · rw [if_neg d3, m_k_X9_countByAll_38]
            exact skip (fun ⟨u, _, _, _, _, e⟩ => by
              obtain ⟨B, b1, b2⟩ := hsm.nz.mp d3
              exact e.2 B b1 b2) _ _ _
  unfold m_k_X9_countByAll
  rw [lE]
  have hfull : m_k_X9_fullSet (nI (rk (oO S Po) 6)) = nI (2 ^ rk (oO S Po) 6) + (-1) := by
    rw [← full_k _ (by omega), Int32.add_assoc]
    exact (Int32.add_zero _).symm
  rw [hfull]
  have hlt : 2 ^ rk (oO S Po) 6 < wF := by
    rw [hm0]
    exact Nat.lt_of_le_of_lt hpw (by omega)
  have hk := key (2 ^ rk (oO S Po) 6) wF lb an ac 0 (fun _ => 0) hlt (Nat.le_refl _) ⟨fun i hi => absurd hi (Nat.not_lt_zero i), fun i j _ hj => absurd hj (Nat.not_lt_zero j), fun x hx => by
    obtain ⟨u, u1, u2, -⟩ := hx
    exact absurd u1 (Nat.not_lt.mpr u2)⟩
  exact hk
end CA
