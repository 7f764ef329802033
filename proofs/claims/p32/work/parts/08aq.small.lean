/-! the pure argument, 17: enough, as the solver asks it of all smaller sets -/
section SM
variable {pp : pT} {n many : Nat} {rf gf : Nat → Option Nat}
theorem k_okE (h : prOK pp n rf gf many) {S Po : Nat → Bool} {su po : Nat → Int64} {kr kv : Nat → Int32} {k : Nat} {q : Nat → Nat} {oa ob : Nat → Int32} (hg : gR pp rf gf many S Po su po kr kv k q oa ob) {c w : Nat} {ch cg : Int32} {c1 c2 c3 c4 c5 c6 w1 w2 w3 obi sc : Nat → Int32} (hc : cP pp rf gf many S Po q k ch cg c w c1 c2 c3 c4 c5 c6 w1 w2 w3 obi sc) {A s : Int32} (hsub : ∀ j, bt s j = true → bt A j = true) (hcl : tC many (zK pp gf) (zM pp gf 1) (zM pp gf 4) (zM pp gf 5) (zM pp gf 8) (zM pp gf 9) (zI pp gf 2) (zI pp gf 3) (bt (phi S Po A))) : (∀ j, j < c → actR pp (nI many) cg rf c1 c2 c3 c4 obi sc A j → okR ch c1 c2 c3 c4 A s (m_k_X9_countsHeld pp (nI many) rf cg obi sc s) j) ↔ tE many (zK pp gf) (zM pp gf 1) (zM pp gf 4) (zM pp gf 5) (zM pp gf 8) (zM pp gf 9) (bt (phi S Po A)) (bt (phi S Po s)) := by
  obtain ⟨hck, hwk, hob, hcg, hch⟩ := hc
  have hm := h.1.1
  have hkm := hg.2.2.2.2.1.1
  have hck1 := hck.1
  constructor
  · intro e r hr hk hbA hbs
    rcases k_has h hg hck hr hk hbA with ⟨j, hj, hrw⟩ | ⟨hd, p, hp, h1, h2⟩ | ⟨hd, h1⟩
    · have hb1 := k_row h hob hcg (show j < 300 by omega) hrw.1 A
      have hb2 := k_row h hob hcg (show j < 300 by omega) hrw.1 s
      have h4 := hrw.2.2.1
      have h7 := hrw.2.2.2.2.2
      have hc9 := k_choice hch hm (show j < 300 by omega) hr hrw.1.2.1
      rcases k_kinds h hr with kd | kd | kd
      · rw [if_pos kd]
        have hcl' := hcl r hr hk hbA
        unfold tH at hcl'
        rw [if_pos kd] at hcl'
        obtain ⟨p, g1, g2⟩ := hcl'
        have p6 := zM_6 h hr g1
        have hS := nS_0 (h7 kd) p6 g1
        have ho : oO S Po p = true := (phi_or p6 g2).resolve_left fun e => by rw [hS] at e; cases e
        obtain ⟨b, gb, ge⟩ := c_bit h4 p6 ho g1
        have ha : actR pp (nI many) cg rf c1 c2 c3 c4 obi sc A j := ⟨b_some.mpr ⟨b, gb, by rw [← ge A]; exact g2⟩, hb1.nz.mpr hbA⟩
        have ok := (e j hj ha (hb2.nz.mpr hbs)).1 (hc9.z.mpr (by rw [kd]; decide))
        obtain ⟨b2, i1, i2, i3⟩ := b_some3.mp ok
        obtain ⟨p2, j1, j2, j3, j4⟩ := c_some h4 i1
        exact ⟨p2, j3, by rw [j4]; exact i3⟩
      · rw [if_neg (by rw [kd]; decide)]
        intro p g1 g2
        have p6 := zM_6 h hr g1
        rcases phi_or p6 g2 with hS | ho
        · exact phi_S p6 hS
        · obtain ⟨b, gb, ge⟩ := c_bit h4 p6 ho g1
          have ha : actR pp (nI many) cg rf c1 c2 c3 c4 obi sc A j := ⟨b_some.mpr ⟨b, gb, by rw [← ge A]; exact g2⟩, hb1.nz.mpr hbA⟩
          have ok := (e j hj ha (hb2.nz.mpr hbs)).2 (hc9.nz.mpr kd)
          rw [ge s]
          exact b_in3.mp ok b gb (by rw [← ge A]; exact g2)
      · exact absurd kd hk
    · rw [if_pos hd]
      exact ⟨p, h1, phi_S hp h2⟩
    · rw [if_neg hd]
      intro p g1 g2
      rcases phi_or (zM_6 h hr g1) g2 with hS | ho
      · exact phi_S (zM_6 h hr g1) hS
      · rw [h1 p g1] at ho
        cases ho
  · intro e j hj hact hbody
    obtain ⟨r, hrw⟩ := hck.2.1 j hj
    have hr := hrw.1.1
    have hk := hrw.2.1
    have hb1 := k_row h hob hcg (show j < 300 by omega) hrw.1 A
    have hb2 := k_row h hob hcg (show j < 300 by omega) hrw.1 s
    have h4 := hrw.2.2.1
    have h7 := hrw.2.2.2.2.2
    have hc9 := k_choice hch hm (show j < 300 by omega) hr hrw.1.2.1
    have E := e r hr hk (hb1.nz.mp hact.2) (hb2.nz.mp hbody)
    refine ⟨fun c0 => ?_, fun c0 => ?_⟩
    · have kd : zK pp gf r = 100 := by
        rcases k_kinds h hr with g | g | g
        · exact g
        · exact absurd g (hc9.z.mp c0)
        · exact absurd g hk
      rw [if_pos kd] at E
      obtain ⟨p, g1, g2⟩ := E
      have p6 := zM_6 h hr g1
      have hS := nS_0 (h7 kd) p6 g1
      have ho : oO S Po p = true := (phi_or p6 g2).resolve_left fun e => by rw [hS] at e; cases e
      obtain ⟨b, gb, ge⟩ := c_bit h4 p6 ho g1
      rw [ge s] at g2
      exact b_some3.mpr ⟨b, gb, hsub b g2, g2⟩
    · have kd := hc9.nz.mp c0
      rw [if_neg (by rw [kd]; decide)] at E
      exact b_in3.mpr fun b gb gA => by
        obtain ⟨p, j1, j2, j3, j4⟩ := c_some h4 gb
        rw [← j4 s]
        exact E p j3 (by rw [j4]; exact gA)
/-- smaller enough sets are sets of open atoms -/
theorem enough_s (h : prOK pp n rf gf many) {S Po : Nat → Bool} {su po : Nat → Int64} {kr kv : Nat → Int32} {k : Nat} {q : Nat → Nat} {oa ob : Nat → Int32} (hg : gR pp rf gf many S Po su po kr kv k q oa ob) {A : Int32} (hA : vS (oO S Po) A) : (∃ B, tL (bt (phi S Po A)) B ∧ tE many (zK pp gf) (zM pp gf 1) (zM pp gf 4) (zM pp gf 5) (zM pp gf 8) (zM pp gf 9) (bt (phi S Po A)) B) ↔ ∃ s, vS (oO S Po) s ∧ (∀ j, bt s j = true → bt A j = true) ∧ ¬ s = A ∧ tE many (zK pp gf) (zM pp gf 1) (zM pp gf 4) (zM pp gf 5) (zM pp gf 8) (zM pp gf 9) (bt (phi S Po A)) (bt (phi S Po s)) := by
  obtain ⟨hs, hp, hS, hP, hk, ho⟩ := hg
  have hD := p_def h
  have hsp := tS_sub hD hS hP
  constructor
  · rintro ⟨B, ⟨h1, p, h2, h3⟩, hE⟩
    have hB6 : ∀ p, B p = true → p < 6 := fun p hp => sm_lt (phi_sm S Po A) (h1 p hp)
    have hBe : bt (mk6 B) = B := funext fun p => by
      rw [mk6_b]
      by_cases g : p < 6
      · rw [decide_eq_true g]
        rfl
      · rw [decide_eq_false g]
        cases hb : B p with
        | false => rfl
        | true => exact absurd (hB6 p hb) g
    have hSB := tE_S hD hS h1 hE
    obtain ⟨s, hv, he⟩ := phi_onto (S := S) (Po := Po) (A := mk6 B) (mk6_sm B) (fun p hp => by rw [hBe]; exact hSB p hp) (fun p hp => by rw [hBe] at hp; exact phi_P hsp (h1 p hp))
    have he' : bt (phi S Po s) = B := by rw [he, hBe]
    refine ⟨s, hv, (phi_sub hv).mp fun p hp => ?_, fun e => ?_, by rw [he']; exact hE⟩
    · rw [he'] at hp
      exact h1 p hp
    · subst e
      rw [he'] at h2
      rw [h2] at h3
      cases h3
  · rintro ⟨s, hv, h1, h2, hE⟩
    refine ⟨_, ⟨(phi_sub hv).mpr h1, ?_⟩, hE⟩
    by_cases g : ∃ p, bt (phi S Po A) p = true ∧ bt (phi S Po s) p = false
    · exact g
    · refine absurd (b_ext fun j _ => ?_) h2
      rw [Bool.eq_iff_iff]
      refine ⟨h1 j, fun hj => ?_⟩
      refine (phi_sub hA).mp (fun p hp => ?_) j hj
      cases hb : bt (phi S Po s) p with
      | true => rfl
      | false => exact absurd ⟨p, hp, hb⟩ g
theorem k_smallAll (h : prOK pp n rf gf many) {S Po : Nat → Bool} {su po : Nat → Int64} {kr kv : Nat → Int32} {k : Nat} {q : Nat → Nat} {oa ob : Nat → Int32} (hg : gR pp rf gf many S Po su po kr kv k q oa ob) {c w : Nat} {ch cg : Int32} {c1 c2 c3 c4 c5 c6 w1 w2 w3 obi sc : Nat → Int32} (hc : cP pp rf gf many S Po q k ch cg c w c1 c2 c3 c4 c5 c6 w1 w2 w3 obi sc) (ac : Nat → Int32) {A : Int32} (hA : vS (oO S Po) A) (hcl : tC many (zK pp gf) (zM pp gf 1) (zM pp gf 4) (zM pp gf 5) (zM pp gf 8) (zM pp gf 9) (zI pp gf 2) (zI pp gf 3) (bt (phi S Po A))) : tv (m_k_X9_hasSmallerByAll pp (nI many) rf ch cg 0 (nI c) c1 c2 c3 c4 ac obi sc A).1 (∃ B, tL (bt (phi S Po A)) B ∧ tE many (zK pp gf) (zM pp gf 1) (zM pp gf 4) (zM pp gf 5) (zM pp gf 8) (zM pp gf 9) (bt (phi S Po A)) B) := by
  have hm := h.1.1
  have hkm := hg.2.2.2.2.1.1
  have hck1 := hc.1.1
  obtain ⟨m0, hm0⟩ := wF_ge
  obtain ⟨a, ha, rfl⟩ := sm_nI (vS_sm hA)
  obtain ⟨an, ac', el, hl⟩ := k_list (pp := pp) (rf := rf) (show c ≤ 300 by omega) (nI many) cg c1 c2 c3 c4 ac obi sc (nI a)
  have lp : ∀ d m i, a - i = d → d < m → i ≤ a → tv (m_k_X9_hasSmallerByAll_7 pp (nI many) rf ch cg 0 c1 c2 c3 c4 obi sc (nI a) (nI an, ac') m (nI i)).1 (∃ v, i ≤ v ∧ v < a ∧ nI v &&& (nI a ^^^ (-1)) = 0 ∧ ∀ j, j < c → actR pp (nI many) cg rf c1 c2 c3 c4 obi sc (nI a) j → okR ch c1 c2 c3 c4 (nI a) (nI v) (m_k_X9_countsHeld pp (nI many) rf cg obi sc (nI v)) j) := by
    intro d
    induction d with
    | zero =>
      intro m i hd hm' hi
      obtain ⟨m, rfl⟩ : ∃ q, m = q + 1 := ⟨m - 1, by omega⟩
      have hi' : i = a := by omega
      subst hi'
      rw [m_k_X9_hasSmallerByAll_7_succ, m_k_X9_hasSmallerByAll_7s, if_pos (Int32.le_refl _)]
      exact tv.zero fun ⟨v, h1, h2, _⟩ => by omega
    | succ d ih =>
      intro m i hd hm' hi
      obtain ⟨m, rfl⟩ : ∃ q, m = q + 1 := ⟨m - 1, by omega⟩
      have next : ¬ (nI i &&& (nI a ^^^ (-1)) = 0 ∧ ∀ j, j < c → actR pp (nI many) cg rf c1 c2 c3 c4 obi sc (nI a) j → okR ch c1 c2 c3 c4 (nI a) (nI i) (m_k_X9_countsHeld pp (nI many) rf cg obi sc (nI i)) j) → tv (m_k_X9_hasSmallerByAll_7 pp (nI many) rf ch cg 0 c1 c2 c3 c4 obi sc (nI a) (nI an, ac') m (nI (i + 1))).1 (∃ v, i ≤ v ∧ v < a ∧ nI v &&& (nI a ^^^ (-1)) = 0 ∧ ∀ j, j < c → actR pp (nI many) cg rf c1 c2 c3 c4 obi sc (nI a) j → okR ch c1 c2 c3 c4 (nI a) (nI v) (m_k_X9_countsHeld pp (nI many) rf cg obi sc (nI v)) j) := fun hn => by
        refine (ih m (i + 1) (by omega) (by omega) (by omega)).iff ⟨fun ⟨v, g1, g2⟩ => ⟨v, by omega, g2⟩, fun ⟨v, g1, g2, g3⟩ => ?_⟩
        rcases (show v = i ∨ i + 1 ≤ v by omega) with rfl | g
        · exact absurd g3 hn
        · exact ⟨v, g, g2, g3⟩
      rw [m_k_X9_hasSmallerByAll_7_succ, m_k_X9_hasSmallerByAll_7s, if_neg (nle (by omega) (by omega))]
      by_cases d1 : nI i &&& (nI a ^^^ (-1)) = 0
      · rw [if_pos d1, lE]
        dsimp only
        have ht := k_doesL (pp := pp) (rf := rf) (show c ≤ 300 by omega) ch cg (nI many) c1 c2 c3 c4 obi sc hl (nI a) (nI i)
        by_cases d2 : m_k_X9_doesFor pp (nI many) rf (nI an) ch cg 0 c1 c2 c3 c4 ac' obi sc (nI i) (nI a) = 0
        · rw [if_pos d2, m_k_X9_hasSmallerByAll_31, kI_s]
          exact next fun e => ht.z.mp d2 e.2
        · rw [if_neg d2]
          exact tv.one ⟨i, Nat.le_refl _, by omega, d1, ht.nz.mp d2⟩
      · rw [if_neg d1, m_k_X9_hasSmallerByAll_31, kI_s]
        exact next fun e => d1 e.1
  unfold m_k_X9_hasSmallerByAll
  rw [lE, el]
  refine (lp (a - 0) wF 0 rfl (by rw [hm0]; omega) (Nat.zero_le _)).iff ?_
  rw [enough_s h hg hA]
  constructor
  · rintro ⟨v, -, h2, h3, h4⟩
    have h3' := b_sub0.mp h3
    refine ⟨nI v, fun j hj => ?_, h3', fun e => ?_, (k_okE h hg hc h3' hcl).mp h4⟩
    · cases hb : bt (nI v) j with
      | false => rfl
      | true => exact absurd (h3' j hb) (by rw [hA j hj]; decide)
    · rw [kI_eq (by omega) (by omega)] at e
      omega
  · rintro ⟨s, hv, h1, h2, hE⟩
    obtain ⟨v, hv64, rfl⟩ := sm_nI (vS_sm hv)
    have h3 := b_sub0.mpr h1
    have h4 := sub_le64 v hv64 a ha h3
    have h5 : ¬ v = a := fun e => h2 (by rw [e])
    exact ⟨v, Nat.zero_le _, by omega, h3, (k_okE h hg hc h1 hcl).mpr hE⟩
end SM
