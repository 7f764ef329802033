/-! the pure argument, 22: what an answer costs -/
section CS
variable {pp : pT} {n many : Nat} {rf gf : Nat → Option Nat}
theorem isum_gap {f : Nat → Int} {a : Nat} : ∀ d, (∀ r, a ≤ r → r < a + d → f r = 0) → isum f (a + d) = isum f a
  | 0, _ => rfl
  | d + 1, h => by
    show isum f (a + d) + f (a + d) = isum f a
    rw [isum_gap d fun r h1 h2 => h r h1 (by omega), h (a + d) (by omega) (by omega)]
    omega
theorem w64_add {a b : Int64} (h1 : -1000 ≤ a.toInt + b.toInt) (h2 : a.toInt + b.toInt ≤ 1000) : (a + b).toInt = a.toInt + b.toInt := by
  rw [Int64.toInt_add, Int.bmod_eq_of_le (by omega) (by omega)]
theorem k_ruleAt {c1 : Nat → Int32} {j : Nat} (hj : j < 300) : m_k_X7_ruleAt c1 (nI j) = c1 j := by
  unfold m_k_X7_ruleAt
  rw [if_neg (by rw [show (0 : Int32) = nI 0 from rfl, kI_lt (by omega) (by omega)]; omega), if_neg (by rw [show (300 : Int32) = nI 300 from rfl, kI_le (by omega) (by omega)]; omega), kI_nat (by omega)]
theorem zc_in (hz : zsOK pp gf many) {lv A : Int32} {r : Nat} (hr : r < many) : (zK pp gf r = 119 ∧ zI pp gf 3 r = lv ∧ m_k_L_isHeld pp (zR gf r) A = 1) ↔ zK pp gf r = 119 ∧ zI pp gf 3 r = lv ∧ tB (zM pp gf 4) (zM pp gf 5) (zM pp gf 8) (zM pp gf 9) r (bt A) := by
  obtain ⟨hg, hk, h7, h6, -⟩ := hz.at hr
  have hh := (lw_held h7 h6 A).iff (hzB_tB pp gf r A)
  exact ⟨fun e => ⟨e.1, e.2.1, hh.2.mp e.2.2⟩, fun e => ⟨e.1, e.2.1, hh.2.mpr e.2.2⟩⟩
theorem k_cost (h : prOK pp n rf gf many) {S Po : Nat → Bool} {su po : Nat → Int64} {kr kv : Nat → Int32} {k : Nat} {q : Nat → Nat} {oa ob : Nat → Int32} (hg : gR pp rf gf many S Po su po kr kv k q oa ob) {c w : Nat} {ch cg : Int32} {c1 c2 c3 c4 c5 c6 w1 w2 w3 obi sc : Nat → Int32} (hc : cP pp rf gf many S Po q k ch cg c w c1 c2 c3 c4 c5 c6 w1 w2 w3 obi sc) (s lv : Int32) : (m_k_X9_costOf pp (nI many) rf cg (nI w) w1 w2 w3 obi sc s lv).toInt = zC pp gf many lv (phi S Po s) := by
  obtain ⟨hck, hwk, hob, hcg, hch⟩ := hc
  obtain ⟨hs, hp, hS, hP, hk, ho⟩ := id hg
  have hz := h.1
  have hm := h.1.1
  have hkm := hk.1
  have hsp := tS_sub (p_def h) hS hP
  have h6 : ∀ p, S p = true → p < 6 := hS.2 (fun p => p < 6) fun r hr _ _ p hp => zM_6 h hr hp
  obtain ⟨hwi, rw', g1, g2, g3⟩ := hwk
  obtain ⟨m0, hm0⟩ := wF_ge
  -- what has no row costs nothing
  have none' : ∀ r, r < many → (∀ l, l < w → ¬ rw' l = r) → zc pp gf lv (phi S Po s) r = 0 := fun r hr hno => by
    unfold zc
    refine if_neg fun e => ?_
    obtain ⟨e1, e2, hb⟩ := (zc_in hz hr).mp e
    have hkk : tK (zM pp gf 4) (zM pp gf 5) S Po r := tB_K (fun p hp => phi_S (h6 p hp) hp) (fun p hp => phi_P hsp hp) hb
    obtain ⟨i, hi, hie⟩ := hk.2.2.2 r hr hkk
    rcases g3 i hi (by rw [hie]; exact e1) with ⟨l, l1, l2⟩ | ⟨p, p1, p2⟩
    · exact hno l l1 (l2.trans hie)
    · rw [hie] at p1 p2
      have := hb.1 p p1
      rw [hb.2.1 p p2] at this
      cases this
  have mono : ∀ a b, a ≤ b → b < w → rw' a ≤ rw' b := fun a b hab hb => by
    rcases (show a = b ∨ a < b by omega) with rfl | g
    · exact Nat.le_refl _
    · exact Nat.le_of_lt (g2 a b g hb)
  have key : ∀ d m i (v : Int64), w - i = d → d < m → i ≤ w → v.toInt = isum (zc pp gf lv (phi S Po s)) (if i < w then rw' i else many) → (m_k_X9_costOf_12 pp (nI many) rf (nI w) w1 w2 w3 s lv (m_k_X9_countsHeld pp (nI many) rf cg obi sc s) m v (nI i)).toInt = isum (zc pp gf lv (phi S Po s)) many := by
    intro d
    induction d with
    | zero =>
      intro m i v hd hm' hi hv
      obtain ⟨m, rfl⟩ : ∃ q, m = q + 1 := ⟨m - 1, by omega⟩
      rw [if_neg (by omega)] at hv
      rw [m_k_X9_costOf_12_succ, m_k_X9_costOf_12s, if_pos (by rw [kI_le (by omega) (by omega)]; omega)]
      exact hv
    | succ d ih =>
      intro m i v hd hm' hi hv
      obtain ⟨m, rfl⟩ : ∃ q, m = q + 1 := ⟨m - 1, by omega⟩
      have hi' : i < w := by omega
      rw [if_pos hi'] at hv
      obtain ⟨hrb, hk119, -⟩ := g1 i hi'
      have hr := hrb.1
      obtain ⟨-, hh, cc, hrr⟩ := h.2 (rw' i) hr
      have hrk : pI pp (rA rf (rw' i)) 0 = 119 := (p_kind h hr).symm.trans hk119
      obtain ⟨f5, f6⟩ := hrr.2.2.2.2.2.2.1 hrk
      have hb := k_row h hob hcg (show i < 300 by omega) hrb s
      have zr := zc_rng hz lv (phi S Po s) hr
      have sr := isum_rng (f := zc pp gf lv (phi S Po s)) (rw' i) fun r hr2 => zc_rng hz lv (phi S Po s) (show r < many by omega)
      have go : ∀ x : Int64, x.toInt = zc pp gf lv (phi S Po s) (rw' i) → (m_k_X9_costOf_12 pp (nI many) rf (nI w) w1 w2 w3 s lv (m_k_X9_countsHeld pp (nI many) rf cg obi sc s) m (v + x) (nI (i + 1))).toInt = isum (zc pp gf lv (phi S Po s)) many := fun x hx => by
        refine ih m (i + 1) (v + x) (by omega) (by omega) (by omega) ?_
        rw [w64_add (by omega) (by omega), hv, hx]
        have e1 : isum (zc pp gf lv (phi S Po s)) (rw' i + 1) = isum (zc pp gf lv (phi S Po s)) (rw' i) + zc pp gf lv (phi S Po s) (rw' i) := rfl
        rw [← e1]
        have hlim : rw' i + 1 ≤ (if i + 1 < w then rw' (i + 1) else many) ∧ ∀ r, rw' i + 1 ≤ r → r < (if i + 1 < w then rw' (i + 1) else many) → zc pp gf lv (phi S Po s) r = 0 := by
          by_cases g : i + 1 < w
          · rw [if_pos g]
            have := (g1 (i + 1) g).1.1
            refine ⟨g2 i (i + 1) (by omega) g, fun r r1 r2 => none' r (by omega) fun l l1 l2 => ?_⟩
            rcases (show l ≤ i ∨ i + 1 ≤ l by omega) with g' | g'
            · have := mono l i g' hi'
              omega
            · have := mono (i + 1) l g' l1
              omega
          · rw [if_neg g]
            refine ⟨hr, fun r r1 r2 => none' r r2 fun l l1 l2 => ?_⟩
            have := mono l i (by omega) hi'
            omega
        have e2 := isum_gap (f := zc pp gf lv (phi S Po s)) (a := rw' i + 1) ((if i + 1 < w then rw' (i + 1) else many) - (rw' i + 1)) fun r r1 r2 => hlim.2 r r1 (by have := hlim.1; omega)
        rw [show rw' i + 1 + ((if i + 1 < w then rw' (i + 1) else many) - (rw' i + 1)) = (if i + 1 < w then rw' (i + 1) else many) by have := hlim.1; omega] at e2
        exact e2.symm
      have zero : zc pp gf lv (phi S Po s) (rw' i) = 0 → (m_k_X9_costOf_12 pp (nI many) rf (nI w) w1 w2 w3 s lv (m_k_X9_countsHeld pp (nI many) rf cg obi sc s) m v (nI (i + 1))).toInt = isum (zc pp gf lv (phi S Po s)) many := fun e => by
        have := go 0 (by rw [e]; rfl)
        rw [Int64.add_zero] at this
        exact this
      rw [m_k_X9_costOf_12_succ, m_k_X9_costOf_12s, if_neg (nle (by omega) (by omega)), lE, k_ruleAt (by omega), hrb.2.1, lE, p_rule h hr, oE_some, f6]
      by_cases d1 : pI pp (zR gf (rw' i)) 3 = lv
      · rw [if_pos d1, lE]
        by_cases d2 : m_k_X7_bodyHolds w1 w2 w3 (nI i) s (m_k_X9_countsHeld pp (nI many) rf cg obi sc s) = 0
        · rw [if_pos d2, m_k_X9_costOf_80, kI_s]
          refine zero ?_
          unfold zc
          exact if_neg fun e => hb.z.mp d2 ((zc_in hz hr).mp e).2.2
        · rw [if_neg d2, m_k_X9_costOf_80, kI_s, f5]
          refine go _ ?_
          unfold zc
          rw [if_pos ((zc_in hz hr).mpr ⟨hk119, d1, hb.nz.mp d2⟩), Int32.toInt_toInt64]
          rfl
      · rw [if_neg d1, m_k_X9_costOf_80, kI_s]
        refine zero ?_
        unfold zc
        exact if_neg fun e => d1 e.2.1
  unfold m_k_X9_costOf
  rw [lE]
  refine key (w - 0) wF 0 0 rfl (by rw [hm0]; omega) (Nat.zero_le _) ?_
  have e0 : (0 : Int64).toInt = isum (zc pp gf lv (phi S Po s)) 0 := rfl
  by_cases g : 0 < w
  · rw [if_pos g, e0]
    have := (g1 0 g).1.1
    have e2 := isum_gap (f := zc pp gf lv (phi S Po s)) (a := 0) (rw' 0) fun r _ r2 => none' r (by omega) fun l l1 l2 => by
      have := mono 0 l (Nat.zero_le _) l1
      omega
    rw [Nat.zero_add] at e2
    exact e2.symm
  · rw [if_neg g, e0]
    have e2 := isum_gap (f := zc pp gf lv (phi S Po s)) (a := 0) many fun r _ r2 => none' r (by omega) fun l l1 l2 => by omega
    rw [Nat.zero_add] at e2
    exact e2.symm
end CS
