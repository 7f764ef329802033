/-! the pure argument, 34: the law's walk goes through its answers -/
section WB
variable {pp : pT} {n many : Nat} {rf gf : Nat → Option Nat} {Z : r_k_L_isWalked → Prop}
theorem told_0 : m_k_L_told 0 = 0 := by
  unfold m_k_L_told
  exact if_pos rfl
theorem told_1 : m_k_L_told 1 = 1 := by
  unfold m_k_L_told
  exact if_neg (by decide)
theorem w_395 {S Po : Nat → Bool} {su po : Nat → Int64} {kr kv : Nat → Int32} {k : Nat} {q : Nat → Nat} {oa ob obi sc : Nat → Int32} {sf : Nat → Int32} {cf : Nat → Int64} {c : Nat} {pl : Nat → Int32} (H : fin pp rf gf many n pl S Po su po kr kv k q oa ob obi sc sf cf c) {i : Nat} (hi : i < c) (en : Int32) (kb : Nat → Int32) (cg : Int32) (fb : Int32) (mh : Int32) (ml : Int32) (ih : Int32) (lb : Int32) (ic : Int32) (an : Int32) (ch : Int32) (cn_ : Int32) (c1 : Nat → Int32) (c2 : Nat → Int32) (c3 : Nat → Int32) (c4 : Nat → Int32) (c5 : Nat → Int32) (c6 : Nat → Int32) (wn : Int32) (w1 : Nat → Int32) (w2 : Nat → Int32) (w3 : Nat → Int32) (w4 : Nat → Int32) (w5 : Nat → Int32) (w6 : Nat → Int32) (ac : Nat → Int32) (br : Nat → Int32) (pu : Int32) (gw : Int32) (ea : Nat → Int32) (es : Nat → Int32) (ef : Nat → Int32) (v12_209 v13_209 t_287 t_386 : Int32) (rec_209 : Int32 → Int32 → Int32 → Int32 → (Nat → Int32) → (Nat → Int32) → Int32 → Int32 → Int32 → Int32 → Int32 → r_k_L_isWalked) (W0 : Nat → Int32) (hrec : ∀ (hds : Nat → Int32) (hn b_1 b_2 b_3 b_p : Int32) (W : Nat → Int32), (∀ p, p < n → W p = W0 p + nI (bt (phi S Po (sf i)) p).toNat) → okW Z (rec_209 1 (v12_209 + t_287) (v13_209 + t_386) (nI (i + 1)) W hds hn b_1 b_2 b_3 b_p)) (hds : Nat → Int32) (hn b_1 b_2 b_3 b_p : Int32) : okW Z (m_k_L_isWalked_395 pp (nI n) (nI many) en pl rf ea es gf ef (nI many) (nI n) rec_209 (phi S Po (sf i)) t_287 t_386 v12_209 v13_209 (nI i) su po kr kv kb oa ob cg fb mh ml ih lb ic an ch cn_ c1 c2 c3 c4 c5 c6 wn w1 w2 w3 w4 w5 w6 ac obi sc br (nI c) 1 sf cf (nI (rk (oO S Po) 6)) 1 pu gw (nI k) wF 1 0 W0 hds hn b_1 b_2 b_3 b_p) := by
  have H' := H
  obtain ⟨h, hn6, hpl, hg, hpo, hob, hc, hco, ha⟩ := H
  have hon : oN (oO S Po) oa ob := hg.2.2.2.2.2
  have hz := h.1
  have hm10 := hz.1
  obtain ⟨m0, hm0⟩ := wF_ge
  have key : ∀ d m j (hds : Nat → Int32) (hn b_1 b_2 b_3 b_p : Int32) (W : Nat → Int32), n - j = d → d < m → j ≤ n → (∀ p, p < n → W p = if p < j then W0 p + nI (bt (phi S Po (sf i)) p).toNat else W0 p) → okW Z (m_k_L_isWalked_395 pp (nI n) (nI many) en pl rf ea es gf ef (nI many) (nI n) rec_209 (phi S Po (sf i)) t_287 t_386 v12_209 v13_209 (nI i) su po kr kv kb oa ob cg fb mh ml ih lb ic an ch cn_ c1 c2 c3 c4 c5 c6 wn w1 w2 w3 w4 w5 w6 ac obi sc br (nI c) 1 sf cf (nI (rk (oO S Po) 6)) 1 pu gw (nI k) m 1 (nI j) W hds hn b_1 b_2 b_3 b_p) := by
    intro d
    induction d with
    | zero =>
      intro m j hds hn b_1 b_2 b_3 b_p W hd hm hj hW
      obtain ⟨m, rfl⟩ : ∃ q, m = q + 1 := ⟨m - 1, by omega⟩
      have : j = n := by omega
      subst this
      rw [m_k_L_isWalked_395_succ, m_k_L_isWalked_395s, if_pos (Int32.le_refl _), m_k_L_isWalked_493, kI_s i]
      exact hrec hds hn b_1 b_2 b_3 b_p W fun p hp => by rw [hW p hp, if_pos hp]
    | succ d IH =>
      intro m j hds hn b_1 b_2 b_3 b_p W hd hm hj hW
      obtain ⟨m, rfl⟩ : ∃ q, m = q + 1 := ⟨m - 1, by omega⟩
      have hjn : j < n := by omega
      have n1 : ¬ nI n ≤ nI j := by rw [kI_le (by omega) (by omega)]; omega
      have d1 : n - (j + 1) = d := by omega
      have d2 : d < m := by omega
      have hWj := hW j hjn
      rw [if_neg (Nat.lt_irrefl j)] at hWj
      rw [m_k_L_isWalked_395_succ, m_k_L_isWalked_395s, if_neg n1, if_neg (by decide)]
      cases hb : bt (phi S Po (sf i)) j with
      | true =>
        obtain ⟨r, r1, r2, r3⟩ := zA_why hz (ha i hi).2 hb
        obtain ⟨hds', hn', b1', b2', b3', bp', e⟩ := q11_in h hn6 hg hob hpl hc hi hjn r1 r2 r3 en ea es hn b_1 b_2 b_3 b_p hds 0 0
        have ns : (nI r).toInt < 106 := by
          rw [kI_ti (by omega)]
          omega
        rw [if_pos ((b_shr1 (by omega)).mpr hb)]
        unfold m_k_L_isWalked_422
        rw [lE_of e, if_neg (by decide)]
        dsimp only
        rw [if_pos ns, lE_of (lw_reason hz ef (by omega) r1 r2 r3)]
        unfold m_k_L_isWalked_472
        rw [lE_of told_1, kI_nat (by omega), kI_s j]
        dsimp only
        refine IH m (j + 1) hds' hn' b1' b2' b3' bp' _ d1 d2 hjn fun p hp => ?_
        by_cases e1 : p = j
        · subst e1
          rw [uu_same, if_pos (Nat.lt_succ_self p), hWj, hb]
          rfl
        · rw [uu_else _ _ e1, hW p hp]
          by_cases e2 : p < j
          · rw [if_pos e2, if_pos (Nat.lt_succ_of_lt e2)]
          · rw [if_neg e2, if_neg (by omega)]
      | false =>
        have e0 : ¬ (phi S Po (sf i) >>> (nI j &&& 31)) &&& 1 = 1 := fun e => by
          rw [(b_shr1 (by omega)).mp e] at hb
          cases hb
        rw [if_neg e0]
        unfold m_k_L_isWalked_422
        rw [lE_of (q11_no hn6 hg.1 hon hpl hc hi hjn hb (nI many) en rf ea es hn (nI k) b_1 b_2 b_3 b_p hds kr kv obi sc 0 0), if_pos rfl]
        dsimp only
        rw [if_pos rfl]
        unfold m_k_L_isWalked_472
        rw [lE_of told_0, kI_nat (by omega), kI_s j]
        dsimp only
        refine IH m (j + 1) hds hn b_1 b_2 b_3 b_p _ d1 d2 hjn fun p hp => ?_
        by_cases e1 : p = j
        · subst e1
          rw [uu_same, if_pos (Nat.lt_succ_self p), hWj, hb]
          rfl
        · rw [uu_else _ _ e1, hW p hp]
          by_cases e2 : p < j
          · rw [if_pos e2, if_pos (Nat.lt_succ_of_lt e2)]
          · rw [if_neg e2, if_neg (by omega)]
  refine key (n - 0) wF 0 hds hn b_1 b_2 b_3 b_p W0 rfl (by rw [hm0]; omega) (Nat.zero_le _) fun p hp => ?_
  rw [if_neg (Nat.not_lt_zero p)]
theorem sB_cost (hz : zsOK pp gf many) (A B lv : Int32) : m_k_L_costOf pp gf (nI many) A lv = m_k_L_costOf pp gf (nI many) B lv ↔ zC pp gf many lv A = zC pp gf many lv B := by
  rw [← Int32.toInt_inj, lw_cost hz, lw_cost hz]
theorem w_299 {S Po : Nat → Bool} {su po : Nat → Int64} {kr kv : Nat → Int32} {k : Nat} {q : Nat → Nat} {oa ob obi sc : Nat → Int32} {sf : Nat → Int32} {cf : Nat → Int64} {c : Nat} {pl : Nat → Int32} (H : fin pp rf gf many n pl S Po su po kr kv k q oa ob obi sc sf cf c) {i : Nat} (hi : i < c) (en : Int32) (kb : Nat → Int32) (cg : Int32) (fb : Int32) (mh : Int32) (ml : Int32) (ih : Int32) (lb : Int32) (ic : Int32) (an : Int32) (ch : Int32) (cn_ : Int32) (c1 : Nat → Int32) (c2 : Nat → Int32) (c3 : Nat → Int32) (c4 : Nat → Int32) (c5 : Nat → Int32) (c6 : Nat → Int32) (wn : Int32) (w1 : Nat → Int32) (w2 : Nat → Int32) (w3 : Nat → Int32) (w4 : Nat → Int32) (w5 : Nat → Int32) (w6 : Nat → Int32) (ac : Nat → Int32) (br : Nat → Int32) (pu : Int32) (gw : Int32) (ea : Nat → Int32) (es : Nat → Int32) (ef : Nat → Int32) (hds : Nat → Int32) (hn : Int32) (b_1 : Int32) (b_2 : Int32) (b_3 : Int32) (b_p : Int32) (v12_209 v13_209 t_287 : Int32) (rec_209 : Int32 → Int32 → Int32 → Int32 → (Nat → Int32) → (Nat → Int32) → Int32 → Int32 → Int32 → Int32 → Int32 → r_k_L_isWalked) (WF QS : Nat → Int32) (hQ : QS 0 = phi S Po (sf 0)) (hrec : ∀ x, tv x (sB pp gf many S Po sf i) → okW Z (m_k_L_isWalked_382 pp (nI n) (nI many) en pl rf ea es gf ef (nI many) (nI n) WF rec_209 (phi S Po (sf i)) t_287 1 v12_209 v13_209 (nI i) x su po hds kr kv kb oa ob cg fb mh ml ih lb ic an ch cn_ c1 c2 c3 c4 c5 c6 wn w1 w2 w3 w4 w5 w6 ac obi sc br (nI c) 1 sf cf (nI (rk (oO S Po) 6)) 1 pu gw hn (nI k) b_1 b_2 b_3 b_p)) : okW Z (m_k_L_isWalked_299 pp (nI n) (nI many) en pl rf ea es gf ef (nI many) (nI n) WF QS rec_209 (phi S Po (sf i)) t_287 v12_209 v13_209 (nI i) su po hds kr kv kb oa ob cg fb mh ml ih lb ic an ch cn_ c1 c2 c3 c4 c5 c6 wn w1 w2 w3 w4 w5 w6 ac obi sc br (nI c) 1 sf cf (nI (rk (oO S Po) 6)) 1 pu gw hn (nI k) b_1 b_2 b_3 b_p wF 1 1 1) := by
  have H' := H
  obtain ⟨h, hn6, hpl, hg, hpo, hob, hc, hco, ha⟩ := H
  have hz := h.1
  obtain ⟨m, hm⟩ := wF_ge
  obtain ⟨k1, k2, k3⟩ := q7_in hz hc hco hi
  have s1 : ∀ m (l v17 : Int32), ¬ 4 ≤ l → m_k_L_ask_7 (nI c) 1 sf cf (nI i) l = m_k_L_costOf pp gf (nI many) (phi S Po (sf i)) l → okW Z (m_k_L_isWalked_299 pp (nI n) (nI many) en pl rf ea es gf ef (nI many) (nI n) WF QS rec_209 (phi S Po (sf i)) t_287 v12_209 v13_209 (nI i) su po hds kr kv kb oa ob cg fb mh ml ih lb ic an ch cn_ c1 c2 c3 c4 c5 c6 wn w1 w2 w3 w4 w5 w6 ac obi sc br (nI c) 1 sf cf (nI (rk (oO S Po) 6)) 1 pu gw hn (nI k) b_1 b_2 b_3 b_p m 1 (if v17 = 0 then 0 else if m_k_L_costOf pp gf (nI many) (phi S Po (sf i)) l = m_k_L_costOf pp gf (nI many) (phi S Po (sf 0)) l then 1 else 0) (l + 1)) → okW Z (m_k_L_isWalked_299 pp (nI n) (nI many) en pl rf ea es gf ef (nI many) (nI n) WF QS rec_209 (phi S Po (sf i)) t_287 v12_209 v13_209 (nI i) su po hds kr kv kb oa ob cg fb mh ml ih lb ic an ch cn_ c1 c2 c3 c4 c5 c6 wn w1 w2 w3 w4 w5 w6 ac obi sc br (nI c) 1 sf cf (nI (rk (oO S Po) 6)) 1 pu gw hn (nI k) b_1 b_2 b_3 b_p (m + 1) 1 v17 l) := fun m l v17 h1 h2 h3 => by
    rw [m_k_L_isWalked_299_succ, m_k_L_isWalked_299s, if_neg h1, if_neg (by decide), lE_of h2, lE, if_pos rfl]
    unfold m_k_L_isWalked_339
    by_cases d : v17 = 0
    · rw [if_pos d] at h3 ⊢
      exact h3
    · rw [if_neg d] at h3 ⊢
      rw [z0, hQ, lE, lE]
      by_cases d2 : m_k_L_costOf pp gf (nI many) (phi S Po (sf i)) l = m_k_L_costOf pp gf (nI many) (phi S Po (sf 0)) l
      · rw [if_pos d2] at h3 ⊢
        exact h3
      · rw [if_neg d2] at h3 ⊢
        exact h3
  have e1 : ∀ m x, tv x (sB pp gf many S Po sf i) → okW Z (m_k_L_isWalked_299 pp (nI n) (nI many) en pl rf ea es gf ef (nI many) (nI n) WF QS rec_209 (phi S Po (sf i)) t_287 v12_209 v13_209 (nI i) su po hds kr kv kb oa ob cg fb mh ml ih lb ic an ch cn_ c1 c2 c3 c4 c5 c6 wn w1 w2 w3 w4 w5 w6 ac obi sc br (nI c) 1 sf cf (nI (rk (oO S Po) 6)) 1 pu gw hn (nI k) b_1 b_2 b_3 b_p (m + 1) 1 x 4) := fun m x hx => by
    rw [m_k_L_isWalked_299_succ, m_k_L_isWalked_299s, if_pos (by decide)]
    exact hrec x hx
  have a1 : (1 : Int32) + 1 = 2 := by decide
  have a2 : (2 : Int32) + 1 = 3 := by decide
  have a3 : (3 : Int32) + 1 = 4 := by decide
  have f1 := sB_cost hz (phi S Po (sf i)) (phi S Po (sf 0)) 1
  have f2 := sB_cost hz (phi S Po (sf i)) (phi S Po (sf 0)) 2
  have f3 := sB_cost hz (phi S Po (sf i)) (phi S Po (sf 0)) 3
  rw [hm]
  refine s1 _ 1 1 (by decide) k1 ?_
  rw [a1, if_neg (by decide)]
  by_cases d1 : m_k_L_costOf pp gf (nI many) (phi S Po (sf i)) 1 = m_k_L_costOf pp gf (nI many) (phi S Po (sf 0)) 1
  · rw [if_pos d1]
    refine s1 _ 2 1 (by decide) k2 ?_
    rw [a2, if_neg (by decide)]
    by_cases d2 : m_k_L_costOf pp gf (nI many) (phi S Po (sf i)) 2 = m_k_L_costOf pp gf (nI many) (phi S Po (sf 0)) 2
    · rw [if_pos d2]
      refine s1 _ 3 1 (by decide) k3 ?_
      rw [a3, if_neg (by decide)]
      by_cases d3 : m_k_L_costOf pp gf (nI many) (phi S Po (sf i)) 3 = m_k_L_costOf pp gf (nI many) (phi S Po (sf 0)) 3
      · rw [if_pos d3]
        exact e1 _ 1 (tv.one ⟨f1.mp d1, f2.mp d2, f3.mp d3⟩)
      · rw [if_neg d3]
        exact e1 _ 0 (tv.zero fun g => d3 (f3.mpr g.2.2))
    · rw [if_neg d2]
      refine s1 _ 3 0 (by decide) k3 ?_
      rw [a3, if_pos rfl]
      exact e1 _ 0 (tv.zero fun g => d2 (f2.mpr g.2.1))
  · rw [if_neg d1]
    refine s1 _ 2 0 (by decide) k2 ?_
    rw [a2, if_pos rfl]
    refine s1 _ 3 0 (by decide) k3 ?_
    rw [a3, if_pos rfl]
    exact e1 _ 0 (tv.zero fun g => d1 (f1.mpr g.1))
theorem w_209 {S Po : Nat → Bool} {su po : Nat → Int64} {kr kv : Nat → Int32} {k : Nat} {q : Nat → Nat} {oa ob obi sc : Nat → Int32} {sf : Nat → Int32} {cf : Nat → Int64} {c : Nat} {pl : Nat → Int32} (H : fin pp rf gf many n pl S Po su po kr kv k q oa ob obi sc sf cf c) (en : Int32) (kb : Nat → Int32) (cg : Int32) (fb : Int32) (mh : Int32) (ml : Int32) (ih : Int32) (lb : Int32) (ic : Int32) (an : Int32) (ch : Int32) (cn_ : Int32) (c1 : Nat → Int32) (c2 : Nat → Int32) (c3 : Nat → Int32) (c4 : Nat → Int32) (c5 : Nat → Int32) (c6 : Nat → Int32) (wn : Int32) (w1 : Nat → Int32) (w2 : Nat → Int32) (w3 : Nat → Int32) (w4 : Nat → Int32) (w5 : Nat → Int32) (w6 : Nat → Int32) (ac : Nat → Int32) (br : Nat → Int32) (pu : Int32) (gw : Int32) (tp : Nat → Int32) (tq : Nat → Int32) (ea : Nat → Int32) (es : Nat → Int32) (ef : Nat → Int32) (hZ : ∀ (hds : Nat → Int32) (hn b_1 b_2 b_3 b_p : Int32), Z (0, 1, su, po, hds, kr, kv, kb, oa, ob, cg, fb, mh, ml, ih, lb, ic, an, ch, cn_, c1, c2, c3, c4, c5, c6, wn, w1, w2, w3, w4, w5, w6, ac, obi, sc, br, nI c, 1, sf, cf, nI (rk (oO S Po) 6), 1, pu, gw, hn, nI k, b_1, b_2, b_3, b_p)) (QS : Nat → Int32) (hQ : ∀ i, i < c → QS i = phi S Po (sf i)) (hds : Nat → Int32) (hn b_1 b_2 b_3 b_p : Int32) : okW Z (m_k_L_isWalked_209 pp (nI n) (nI many) 1 en pl rf tp tq ea es gf ef (nI many) (nI n) QS (nI c) su po kr kv kb oa ob cg fb mh ml ih lb ic an ch cn_ c1 c2 c3 c4 c5 c6 wn w1 w2 w3 w4 w5 w6 ac obi sc br (nI c) 1 sf cf (nI (rk (oO S Po) 6)) 1 pu gw (nI k) wF 1 0 0 0 (fun _ => 0) hds hn b_1 b_2 b_3 b_p) := by
  have H' := H
  obtain ⟨h, hn6, hpl, hg, hpo, hob, hc, hco, ha⟩ := H
  have hon : oN (oO S Po) oa ob := hg.2.2.2.2.2
  have hz := h.1
  obtain ⟨m0, hm0⟩ := wF_ge
  have key : ∀ d m i (WF : Nat → Int32) (hds : Nat → Int32) (hn b_1 b_2 b_3 b_p : Int32), c - i = d → d < m → i ≤ c → (∀ p, p < n → WF p = nI (wi S Po sf p i)) → okW Z (m_k_L_isWalked_209 pp (nI n) (nI many) 1 en pl rf tp tq ea es gf ef (nI many) (nI n) QS (nI c) su po kr kv kb oa ob cg fb mh ml ih lb ic an ch cn_ c1 c2 c3 c4 c5 c6 wn w1 w2 w3 w4 w5 w6 ac obi sc br (nI c) 1 sf cf (nI (rk (oO S Po) 6)) 1 pu gw (nI k) m 1 (nI (sN (fun i => cn (bt (phi S Po (sf i)))) i)) (nI (rk (sBb pp gf many S Po sf) i)) (nI i) WF hds hn b_1 b_2 b_3 b_p) := by
    intro d
    induction d with
    | zero =>
      intro m i WF hds hn b_1 b_2 b_3 b_p hd hm hi hW
      obtain ⟨m, rfl⟩ : ∃ q, m = q + 1 := ⟨m - 1, by omega⟩
      have : i = c := by omega
      subst this
      rw [m_k_L_isWalked_209_succ, m_k_L_isWalked_209s, if_pos (Int32.le_refl _)]
      exact w_499 H' en tp tq ea es kb cg fb mh ml ih lb ic an ch cn_ c1 c2 c3 c4 c5 c6 wn w1 w2 w3 w4 w5 w6 ac br pu gw hds hn b_1 b_2 b_3 b_p (hZ hds hn b_1 b_2 b_3 b_p) WF hW
    | succ d IH =>
      intro m i WF hds hn b_1 b_2 b_3 b_p hd hm hi hW
      obtain ⟨m, rfl⟩ : ∃ q, m = q + 1 := ⟨m - 1, by omega⟩
      have hic : i < c := by omega
      have n1 : ¬ nI c ≤ nI i := by rw [kI_le (by omega) (by omega)]; omega
      have d1 : c - (i + 1) = d := by omega
      have d2 : d < m := by omega
      have hbc : m_k_J6_bitCount_0f7a4 (phi S Po (sf i)) = nI (cn (bt (phi S Po (sf i)))) := cn_bc (phi_sm S Po (sf i))
      rw [m_k_L_isWalked_209_succ, m_k_L_isWalked_209s, if_neg n1, if_neg (by decide), lE_of (a_setOf hg.1 hon hn6 hpl hc sf hic fun p hp => fin_n H' hic hp), kI_nat (by omega), if_pos (hQ i hic).symm, lE_of (q6_in hg.1 hc hic (ha i hic).1), lE_of hbc, if_pos rfl, lE_of (q7_0 hc sf cf hic), if_pos rfl]
      unfold m_k_L_isWalked_281
      rw [lE_of hbc]
      refine w_299 H' hic en kb cg fb mh ml ih lb ic an ch cn_ c1 c2 c3 c4 c5 c6 wn w1 w2 w3 w4 w5 w6 ac br pu gw ea es ef hds hn b_1 b_2 b_3 b_p _ _ _ _ WF QS (hQ 0 (by omega)) fun x hx => ?_
      unfold m_k_L_isWalked_382
      have ht : m_k_L_told x = nI (sBb pp gf many S Po sf i).toNat := by
        by_cases e : sB pp gf many S Po sf i
        · rw [hx.t e, show sBb pp gf many S Po sf i = true from @decide_eq_true _ (Classical.propDecidable _) e]
          exact told_1
        · rw [hx.f e, show sBb pp gf many S Po sf i = false from @decide_eq_false _ (Classical.propDecidable _) e]
          exact told_0
      rw [lE_of ht]
      refine w_395 H' hic en kb cg fb mh ml ih lb ic an ch cn_ c1 c2 c3 c4 c5 c6 wn w1 w2 w3 w4 w5 w6 ac br pu gw ea es ef _ _ _ _ _ WF (fun hds hn b_1 b_2 b_3 b_p W hW2 => ?_) hds hn b_1 b_2 b_3 b_p
      rw [nI_add, nI_add]
      exact IH m (i + 1) W hds hn b_1 b_2 b_3 b_p d1 d2 hic fun p hp => by
        rw [hW2 p hp, hW p hp]
        exact rk_c _ i
  exact key (c - 0) wF 0 (fun _ => 0) hds hn b_1 b_2 b_3 b_p rfl (by rw [hm0]; omega) (Nat.zero_le _) fun p hp => rfl
end WB
