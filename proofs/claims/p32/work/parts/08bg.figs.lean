/-! the pure argument, 33: the law's walk answers 1 -/
section WA
variable {pp : pT} {n many : Nat} {rf gf : Nat → Option Nat} {Z : r_k_L_isWalked → Prop}
def okW (Z : r_k_L_isWalked → Prop) (r : r_k_L_isWalked) : Prop := r.1 = 0 ∧ r.2.1 = 1 ∧ Z r
/-- what is known behind the walk -/
def fin (pp : pT) (rf gf : Nat → Option Nat) (many n : Nat) (pl : Nat → Int32) (S Po : Nat → Bool) (su po : Nat → Int64) (kr kv : Nat → Int32) (k : Nat) (q : Nat → Nat) (oa ob obi sc sf : Nat → Int32) (cf : Nat → Int64) (c : Nat) : Prop := prOK pp n rf gf many ∧ n ≤ 6 ∧ (∀ p, p < n → pl p = 0) ∧ gR pp rf gf many S Po su po kr kv k q oa ob ∧ (∀ p, Po p = true → p < n) ∧ oB S Po obi sc ∧ c ≤ 64 ∧ coOK pp gf many S Po sf cf c ∧ ∀ i, i < c → vS (oO S Po) (sf i) ∧ zA pp gf many (phi S Po (sf i))
/-- how many answers have the atom p -/
def wi (S Po : Nat → Bool) (sf : Nat → Int32) (p c : Nat) : Nat := rk (fun i => bt (phi S Po (sf i)) p) c
theorem at_d100 : ∀ p, p < 6 → nI (100 * p) / 100 = nI p ∧ nI (100 * p) - nI (100 * p) / 100 * 100 = 0 ∧ ¬ nI (100 * p) = (-2005) := by decide
theorem fin_n {S Po : Nat → Bool} {su po : Nat → Int64} {kr kv : Nat → Int32} {k : Nat} {q : Nat → Nat} {oa ob obi sc : Nat → Int32} {sf : Nat → Int32} {cf : Nat → Int64} {c : Nat} {pl : Nat → Int32} (H : fin pp rf gf many n pl S Po su po kr kv k q oa ob obi sc sf cf c) {i : Nat} (hi : i < c) {p : Nat} (hp : bt (phi S Po (sf i)) p = true) : p < n := by
  obtain ⟨h, -, -, hg, hpo, -, -, -, ha⟩ := H
  exact hpo p (phi_P (gR_sp h hg) hp)
theorem w_756 {S Po : Nat → Bool} {su po : Nat → Int64} {kr kv : Nat → Int32} {k : Nat} {q : Nat → Nat} {oa ob obi sc : Nat → Int32} {sf : Nat → Int32} {cf : Nat → Int64} {c : Nat} {pl : Nat → Int32} (H : fin pp rf gf many n pl S Po su po kr kv k q oa ob obi sc sf cf c) (en : Int32) (tp : Nat → Int32) (tq : Nat → Int32) (ea : Nat → Int32) (es : Nat → Int32) (kb : Nat → Int32) (cg : Int32) (fb : Int32) (mh : Int32) (ml : Int32) (ih : Int32) (lb : Int32) (ic : Int32) (an : Int32) (ch : Int32) (cn_ : Int32) (c1 : Nat → Int32) (c2 : Nat → Int32) (c3 : Nat → Int32) (c4 : Nat → Int32) (c5 : Nat → Int32) (c6 : Nat → Int32) (wn : Int32) (w1 : Nat → Int32) (w2 : Nat → Int32) (w3 : Nat → Int32) (w4 : Nat → Int32) (w5 : Nat → Int32) (w6 : Nat → Int32) (ac : Nat → Int32) (br : Nat → Int32) (pu : Int32) (gw : Int32) (hds : Nat → Int32) (hn : Int32) (b_1 : Int32) (b_2 : Int32) (b_3 : Int32) (b_p : Int32) (hZ : Z (0, 1, su, po, hds, kr, kv, kb, oa, ob, cg, fb, mh, ml, ih, lb, ic, an, ch, cn_, c1, c2, c3, c4, c5, c6, wn, w1, w2, w3, w4, w5, w6, ac, obi, sc, br, nI c, 1, sf, cf, nI (rk (oO S Po) 6), 1, pu, gw, hn, nI k, b_1, b_2, b_3, b_p)) : okW Z (m_k_L_isWalked_756 pp (nI n) (nI many) 1 en pl rf tp tq ea es (nI c) 1 su po hds kr kv kb oa ob cg fb mh ml ih lb ic an ch cn_ c1 c2 c3 c4 c5 c6 wn w1 w2 w3 w4 w5 w6 ac obi sc br (nI c) 1 sf cf (nI (rk (oO S Po) 6)) 1 pu gw hn (nI k) b_1 b_2 b_3 b_p) := by
  obtain ⟨h, hn6, hpl, hg, hpo, hob, hc, hco, ha⟩ := H
  have hon : oN (oO S Po) oa ob := hg.2.2.2.2.2
  unfold m_k_L_isWalked_756
  by_cases d : rk (oO S Po) 6 = 0 ∨ c = 0
  · rw [lE_of (q12_no su oa ob c hc sf d), if_neg (by decide), if_pos rfl]
    by_cases d1 : nI c = 0
    · rw [if_pos d1]
      exact ⟨rfl, rfl, hZ⟩
    · have d2 : rk (oO S Po) 6 = 0 := d.resolve_right fun e => d1 (by rw [e]; rfl)
      rw [if_neg d1, lE_of (q1 (nI many) 1 en rf tp tq ea es hn (nI k) (nI (rk (oO S Po) 6)) pu gw b_1 b_2 b_3 b_p su po hds kr kv kb oa ob)]
      dsimp only
      rw [if_pos (by rw [d2]; rfl)]
      exact ⟨rfl, rfl, hZ⟩
  · obtain ⟨p, p1, p2, p3⟩ := q12_yes hg.1 hon hc sf (fun e => d (Or.inl e)) (fun e => d (Or.inr e))
    obtain ⟨e1, e2, e3⟩ := at_d100 p p1
    have hS := (oO_S p2).1
    have hP := (oO_S p2).2
    rw [lE_of p3, if_neg (by decide), if_neg e3, e1, lE_of (q0 (rf := rf) hg.1 hg.2.1 hn6 hpl (hpo p hP) (nI many) 1 en tp tq ea es hn (nI k) pu gw b_1 b_2 b_3 b_p hds kr kv kb oa ob 0 0)]
    dsimp only
    rw [if_pos (by rw [if_neg (by rw [hS]; exact Bool.false_ne_true), if_pos hP]), ← e1, if_pos e2]
    exact ⟨rfl, rfl, hZ⟩
theorem wi_all {S Po : Nat → Bool} {su po : Nat → Int64} {kr kv : Nat → Int32} {k : Nat} {q : Nat → Nat} {oa ob obi sc : Nat → Int32} {sf : Nat → Int32} {cf : Nat → Int64} {c : Nat} {pl : Nat → Int32} (H : fin pp rf gf many n pl S Po su po kr kv k q oa ob obi sc sf cf c) {p : Nat} (hp : p < n) (h : S p = true) : wi S Po sf p c = c := (rk_i _ c).mpr fun i _ => phi_S (by have := H.2.1; omega) h
theorem wi_none {S Po : Nat → Bool} {su po : Nat → Int64} {kr kv : Nat → Int32} {k : Nat} {q : Nat → Nat} {oa ob obi sc : Nat → Int32} {sf : Nat → Int32} {cf : Nat → Int64} {c : Nat} {pl : Nat → Int32} (H : fin pp rf gf many n pl S Po su po kr kv k q oa ob obi sc sf cf c) {p : Nat} (h : ¬ Po p = true) : wi S Po sf p c = 0 := (rk_0 _ c).mpr fun i _ => by
  cases e : bt (phi S Po (sf i)) p with
  | false => rfl
  | true => exact absurd (phi_P (gR_sp H.1 H.2.2.2.1) e) h
theorem w_687 {S Po : Nat → Bool} {su po : Nat → Int64} {kr kv : Nat → Int32} {k : Nat} {q : Nat → Nat} {oa ob obi sc : Nat → Int32} {sf : Nat → Int32} {cf : Nat → Int64} {c : Nat} {pl : Nat → Int32} (H : fin pp rf gf many n pl S Po su po kr kv k q oa ob obi sc sf cf c) (en : Int32) (tp : Nat → Int32) (tq : Nat → Int32) (ea : Nat → Int32) (es : Nat → Int32) (kb : Nat → Int32) (pu : Int32) (gw : Int32) (hds : Nat → Int32) (hn : Int32) (b_1 : Int32) (b_2 : Int32) (b_3 : Int32) (b_p : Int32) (WF : Nat → Int32) (rec_549 : Int32 → Int32 → (Nat → Int64) → (Nat → Int64) → (Nat → Int32) → (Nat → Int32) → (Nat → Int32) → (Nat → Int32) → (Nat → Int32) → (Nat → Int32) → Int32 → Int32 → Int32 → Int32 → Int32 → Int32 → Int32 → Int32 → Int32 → Int32 → r_k_L_isWalked) {p : Nat} (hp : p < n) (hW : WF p = nI (wi S Po sf p c)) (hr : okW Z (rec_549 1 (nI (p + 1)) su po hds kr kv kb oa ob (nI (rk (oO S Po) 6)) 1 pu gw hn (nI k) b_1 b_2 b_3 b_p)) : okW Z (m_k_L_isWalked_687 pp (nI n) (nI many) 1 en pl rf tp tq ea es WF rec_549 (nI c) (nI p) su po hds kr kv kb oa ob (nI (rk (oO S Po) 6)) 1 pu gw hn (nI k) b_1 b_2 b_3 b_p) := by
  have H' := H
  obtain ⟨h, hn6, hpl, hg, hpo, hob, hc, hco, ha⟩ := H
  unfold m_k_L_isWalked_687 m_k_L_isWalked_692
  rw [lE_of (q0 (rf := rf) hg.1 hg.2.1 hn6 hpl hp (nI many) 1 en tp tq ea es hn (nI k) pu gw b_1 b_2 b_3 b_p hds kr kv kb oa ob 0 0), if_neg (by decide), kI_nat (by omega), hW]
  have g743 : ∀ x, okW Z (m_k_L_isWalked_743 rec_549 (x, su, po, hds, kr, kv, kb, oa, ob, nI (rk (oO S Po) 6), 1, pu, gw, hn, nI k, b_1, b_2, b_3, b_p) (nI p)) := fun x => by
    unfold m_k_L_isWalked_743 m_k_L_isWalked_748
    dsimp only
    rw [kI_s p]
    exact hr
  have g726 : okW Z (m_k_L_isWalked_726 WF rec_549 ((if S p = true then 115 else if Po p = true then 111 else 110), su, po, hds, kr, kv, kb, oa, ob, nI (rk (oO S Po) 6), 1, pu, gw, hn, nI k, b_1, b_2, b_3, b_p) (nI c) (nI p)) := by
    unfold m_k_L_isWalked_726
    dsimp only
    by_cases d : S p = true
    · rw [if_pos d, if_pos rfl, kI_nat (by omega), hW, wi_all H' hp d, if_pos rfl]
      exact g743 _
    · rw [if_neg d]
      by_cases d2 : Po p = true
      · rw [if_pos d2, if_neg (by decide)]
        exact g743 _
      · rw [if_neg d2, if_neg (by decide)]
        exact g743 _
  by_cases d0 : nI (wi S Po sf p c) = 0
  · rw [if_pos d0]
    exact g726
  · rw [if_neg d0]
    dsimp only
    rw [if_neg]
    · exact g726
    · intro e
      by_cases d : S p = true
      · rw [if_pos d] at e
        exact absurd e (by decide)
      · rw [if_neg d] at e
        by_cases d2 : Po p = true
        · rw [if_pos d2] at e
          exact absurd e (by decide)
        · exact d0 (by rw [wi_none H' d2]; rfl)
theorem w_668 {S Po : Nat → Bool} {su po : Nat → Int64} {kr kv : Nat → Int32} {k : Nat} {q : Nat → Nat} {oa ob obi sc : Nat → Int32} {sf : Nat → Int32} {cf : Nat → Int64} {c : Nat} {pl : Nat → Int32} (H : fin pp rf gf many n pl S Po su po kr kv k q oa ob obi sc sf cf c) (en : Int32) (tp : Nat → Int32) (tq : Nat → Int32) (ea : Nat → Int32) (es : Nat → Int32) (kb : Nat → Int32) (pu : Int32) (gw : Int32) (hds : Nat → Int32) (hn : Int32) (b_1 : Int32) (b_2 : Int32) (b_3 : Int32) (b_p : Int32) (WF : Nat → Int32) (rec_549 : Int32 → Int32 → (Nat → Int64) → (Nat → Int64) → (Nat → Int32) → (Nat → Int32) → (Nat → Int32) → (Nat → Int32) → (Nat → Int32) → (Nat → Int32) → Int32 → Int32 → Int32 → Int32 → Int32 → Int32 → Int32 → Int32 → Int32 → Int32 → r_k_L_isWalked) {p : Nat} (hp : p < n) (hW : WF p = nI (wi S Po sf p c)) (hr : okW Z (rec_549 1 (nI (p + 1)) su po hds kr kv kb oa ob (nI (rk (oO S Po) 6)) 1 pu gw hn (nI k) b_1 b_2 b_3 b_p)) : okW Z (m_k_L_isWalked_668 pp (nI n) (nI many) 1 en pl rf tp tq ea es WF rec_549 (nI c) (nI p) su po hds kr kv kb oa ob obi (nI c) 1 sf (nI (rk (oO S Po) 6)) 1 pu gw hn (nI k) b_1 b_2 b_3 b_p) := by
  have H' := H
  obtain ⟨h, hn6, hpl, hg, hpo, hob, hc, hco, ha⟩ := H
  have g := w_687 H' en tp tq ea es kb pu gw hds hn b_1 b_2 b_3 b_p WF rec_549 hp hW hr
  unfold m_k_L_isWalked_668
  by_cases d : 0 < nI c
  · rw [if_pos d]
    exact g
  · have c0 : c = 0 := by
      rw [show (0 : Int32) = nI 0 from rfl, kI_lt (by omega) (by omega)] at d
      omega
    rw [if_neg d, lE_of (q9 hob hn6 hc sf hp), if_pos (by rw [c0]; rfl)]
    exact g
theorem w_601 {S Po : Nat → Bool} {su po : Nat → Int64} {kr kv : Nat → Int32} {k : Nat} {q : Nat → Nat} {oa ob obi sc : Nat → Int32} {sf : Nat → Int32} {cf : Nat → Int64} {c : Nat} {pl : Nat → Int32} (H : fin pp rf gf many n pl S Po su po kr kv k q oa ob obi sc sf cf c) (en : Int32) (tp : Nat → Int32) (tq : Nat → Int32) (ea : Nat → Int32) (es : Nat → Int32) (kb : Nat → Int32) (cg : Int32) (fb : Int32) (mh : Int32) (ml : Int32) (ih : Int32) (lb : Int32) (ic : Int32) (an : Int32) (ch : Int32) (cn_ : Int32) (c1 : Nat → Int32) (c2 : Nat → Int32) (c3 : Nat → Int32) (c4 : Nat → Int32) (c5 : Nat → Int32) (c6 : Nat → Int32) (wn : Int32) (w1 : Nat → Int32) (w2 : Nat → Int32) (w3 : Nat → Int32) (w4 : Nat → Int32) (w5 : Nat → Int32) (w6 : Nat → Int32) (ac : Nat → Int32) (br : Nat → Int32) (pu : Int32) (gw : Int32) (hds : Nat → Int32) (hn : Int32) (b_1 : Int32) (b_2 : Int32) (b_3 : Int32) (b_p : Int32) (WF : Nat → Int32) (rec_549 : Int32 → Int32 → (Nat → Int64) → (Nat → Int64) → (Nat → Int32) → (Nat → Int32) → (Nat → Int32) → (Nat → Int32) → (Nat → Int32) → (Nat → Int32) → Int32 → Int32 → Int32 → Int32 → Int32 → Int32 → Int32 → Int32 → Int32 → Int32 → r_k_L_isWalked) {p : Nat} (hp : p < n) (hW : WF p = nI (wi S Po sf p c)) (hr : okW Z (rec_549 1 (nI (p + 1)) su po hds kr kv kb oa ob (nI (rk (oO S Po) 6)) 1 pu gw hn (nI k) b_1 b_2 b_3 b_p)) (x : Int32) : okW Z (m_k_L_isWalked_601 pp (nI n) (nI many) 1 en pl rf tp tq ea es WF rec_549 x (nI c) (nI p) su po hds kr kv kb oa ob cg fb mh ml ih lb ic an ch cn_ c1 c2 c3 c4 c5 c6 wn w1 w2 w3 w4 w5 w6 ac obi sc br (nI c) 1 sf cf (nI (rk (oO S Po) 6)) 1 pu gw hn (nI k) b_1 b_2 b_3 b_p x) := by
  have H' := H
  obtain ⟨h, hn6, hpl, hg, hpo, hob, hc, hco, ha⟩ := H
  have hon : oN (oO S Po) oa ob := hg.2.2.2.2.2
  have g := w_668 H' en tp tq ea es kb pu gw hds hn b_1 b_2 b_3 b_p WF rec_549 hp hW hr
  unfold m_k_L_isWalked_601
  rw [if_pos rfl]
  by_cases d : nI c = 0
  · rw [if_pos d]
    exact g
  · have c0 : ¬ c = 0 := fun e => d (by rw [e]; rfl)
    have hle : wi S Po sf p c ≤ c := rk_le _ c
    rw [if_neg d, lE_of (show m_k_X10_share (nI n) pl (nI (rk (oO S Po) 6)) su ob (nI c) 1 sf (nI p) 0 0 = (0, FP.fdiv (FP.i2f (nI (wi S Po sf p c))) (FP.i2f (nI c))) from q_share hg.1 hon hn6 hpl hc c0 sf hp 0 0)]
    dsimp only
    rw [if_pos rfl, kI_nat (by omega), hW, if_pos (f_self _ _ d), lE_of (q9 hob hn6 hc sf hp)]
    have f1 : (wi S Po sf p c = 0 ∨ wi S Po sf p c = c) → ndf (fun i => bt (phi S Po (sf i)) p) c = 1 := fun e => by
      unfold ndf
      exact (if_neg c0).trans (if_pos e)
    have f2 : ¬ (wi S Po sf p c = 0 ∨ wi S Po sf p c = c) → ndf (fun i => bt (phi S Po (sf i)) p) c = 2 := fun e => by
      unfold ndf
      exact (if_neg c0).trans (if_neg e)
    by_cases d1 : nI (wi S Po sf p c) = 0
    · have e1 : wi S Po sf p c = 0 := (kI_eq (by omega) (by omega)).mp d1
      rw [if_pos d1, m_k_L_isWalked_660, m_k_L_isWalked_665, if_pos (by rw [f1 (Or.inl e1)]; rfl)]
      exact g
    · rw [if_neg d1]
      by_cases d2 : nI (wi S Po sf p c) = nI c
      · have e1 : wi S Po sf p c = c := (kI_eq (by omega) (by omega)).mp d2
        rw [if_pos d2, m_k_L_isWalked_660, m_k_L_isWalked_665, if_pos (by rw [f1 (Or.inr e1)]; rfl)]
        exact g
      · rw [if_neg d2, m_k_L_isWalked_665, if_pos (by rw [f2 (fun e => e.elim (fun e => d1 (by rw [e]; rfl)) fun e => d2 (by rw [e]))]; rfl)]
        exact g
theorem w_549 {S Po : Nat → Bool} {su po : Nat → Int64} {kr kv : Nat → Int32} {k : Nat} {q : Nat → Nat} {oa ob obi sc : Nat → Int32} {sf : Nat → Int32} {cf : Nat → Int64} {c : Nat} {pl : Nat → Int32} (H : fin pp rf gf many n pl S Po su po kr kv k q oa ob obi sc sf cf c) (en : Int32) (tp : Nat → Int32) (tq : Nat → Int32) (ea : Nat → Int32) (es : Nat → Int32) (kb : Nat → Int32) (cg : Int32) (fb : Int32) (mh : Int32) (ml : Int32) (ih : Int32) (lb : Int32) (ic : Int32) (an : Int32) (ch : Int32) (cn_ : Int32) (c1 : Nat → Int32) (c2 : Nat → Int32) (c3 : Nat → Int32) (c4 : Nat → Int32) (c5 : Nat → Int32) (c6 : Nat → Int32) (wn : Int32) (w1 : Nat → Int32) (w2 : Nat → Int32) (w3 : Nat → Int32) (w4 : Nat → Int32) (w5 : Nat → Int32) (w6 : Nat → Int32) (ac : Nat → Int32) (br : Nat → Int32) (pu : Int32) (gw : Int32) (hds : Nat → Int32) (hn : Int32) (b_1 : Int32) (b_2 : Int32) (b_3 : Int32) (b_p : Int32) (hZ : Z (0, 1, su, po, hds, kr, kv, kb, oa, ob, cg, fb, mh, ml, ih, lb, ic, an, ch, cn_, c1, c2, c3, c4, c5, c6, wn, w1, w2, w3, w4, w5, w6, ac, obi, sc, br, nI c, 1, sf, cf, nI (rk (oO S Po) 6), 1, pu, gw, hn, nI k, b_1, b_2, b_3, b_p)) (WF : Nat → Int32) (hW : ∀ p, p < n → WF p = nI (wi S Po sf p c)) : okW Z (m_k_L_isWalked_549 pp (nI n) (nI many) 1 en pl rf tp tq ea es (nI n) WF (nI c) cg fb mh ml ih lb ic an ch cn_ c1 c2 c3 c4 c5 c6 wn w1 w2 w3 w4 w5 w6 ac obi sc br (nI c) 1 sf cf wF 1 0 su po hds kr kv kb oa ob (nI (rk (oO S Po) 6)) 1 pu gw hn (nI k) b_1 b_2 b_3 b_p) := by
  have H' := H
  obtain ⟨h, hn6, hpl, hg, hpo, hob, hc, hco, ha⟩ := H
  have hon : oN (oO S Po) oa ob := hg.2.2.2.2.2
  obtain ⟨m0, hm0⟩ := wF_ge
  have key : ∀ d m i, n - i = d → d < m → i ≤ n → okW Z (m_k_L_isWalked_549 pp (nI n) (nI many) 1 en pl rf tp tq ea es (nI n) WF (nI c) cg fb mh ml ih lb ic an ch cn_ c1 c2 c3 c4 c5 c6 wn w1 w2 w3 w4 w5 w6 ac obi sc br (nI c) 1 sf cf m 1 (nI i) su po hds kr kv kb oa ob (nI (rk (oO S Po) 6)) 1 pu gw hn (nI k) b_1 b_2 b_3 b_p) := by
    intro d
    induction d with
    | zero =>
      intro m i hd hm hi
      obtain ⟨m, rfl⟩ : ∃ q, m = q + 1 := ⟨m - 1, by omega⟩
      have : i = n := by omega
      subst this
      rw [m_k_L_isWalked_549_succ, m_k_L_isWalked_549s, if_pos (Int32.le_refl _)]
      exact w_756 H' en tp tq ea es kb cg fb mh ml ih lb ic an ch cn_ c1 c2 c3 c4 c5 c6 wn w1 w2 w3 w4 w5 w6 ac br pu gw hds hn b_1 b_2 b_3 b_p hZ
    | succ d IH =>
      intro m i hd hm hi
      obtain ⟨m, rfl⟩ : ∃ q, m = q + 1 := ⟨m - 1, by omega⟩
      have hin : i < n := by omega
      have n1 : ¬ nI n ≤ nI i := by rw [kI_le (by omega) (by omega)]; omega
      have hrec := IH m (i + 1) (by omega) (by omega) (by omega)
      rw [m_k_L_isWalked_549_succ, m_k_L_isWalked_549s, if_neg n1, if_neg (by decide), lE_of (show m_k_L_ask_10 (nI n) pl (nI (rk (oO S Po) 6)) su ob (nI c) 1 sf (nI i) 0 0 = if nI (wi S Po sf i c) = nI c then 97 else if nI (wi S Po sf i c) = 0 then 110 else 115 from q10 hg.1 hon hn6 hpl hc sf hin 0 0), kI_nat (by omega), hW i hin]
      by_cases d1 : nI (wi S Po sf i c) = nI c
      · rw [if_pos d1, if_pos d1]
        exact w_601 H' en tp tq ea es kb cg fb mh ml ih lb ic an ch cn_ c1 c2 c3 c4 c5 c6 wn w1 w2 w3 w4 w5 w6 ac br pu gw hds hn b_1 b_2 b_3 b_p WF _ hin (hW i hin) hrec _
      · rw [if_neg d1, if_neg d1]
        by_cases d2 : nI (wi S Po sf i c) = 0
        · rw [if_pos d2, if_pos d2]
          exact w_601 H' en tp tq ea es kb cg fb mh ml ih lb ic an ch cn_ c1 c2 c3 c4 c5 c6 wn w1 w2 w3 w4 w5 w6 ac br pu gw hds hn b_1 b_2 b_3 b_p WF _ hin (hW i hin) hrec _
        · rw [if_neg d2, if_neg d2]
          exact w_601 H' en tp tq ea es kb cg fb mh ml ih lb ic an ch cn_ c1 c2 c3 c4 c5 c6 wn w1 w2 w3 w4 w5 w6 ac br pu gw hds hn b_1 b_2 b_3 b_p WF _ hin (hW i hin) hrec _
  exact key (n - 0) wF 0 rfl (by rw [hm0]; omega) (Nat.zero_le _)
theorem w_499 {S Po : Nat → Bool} {su po : Nat → Int64} {kr kv : Nat → Int32} {k : Nat} {q : Nat → Nat} {oa ob obi sc : Nat → Int32} {sf : Nat → Int32} {cf : Nat → Int64} {c : Nat} {pl : Nat → Int32} (H : fin pp rf gf many n pl S Po su po kr kv k q oa ob obi sc sf cf c) (en : Int32) (tp : Nat → Int32) (tq : Nat → Int32) (ea : Nat → Int32) (es : Nat → Int32) (kb : Nat → Int32) (cg : Int32) (fb : Int32) (mh : Int32) (ml : Int32) (ih : Int32) (lb : Int32) (ic : Int32) (an : Int32) (ch : Int32) (cn_ : Int32) (c1 : Nat → Int32) (c2 : Nat → Int32) (c3 : Nat → Int32) (c4 : Nat → Int32) (c5 : Nat → Int32) (c6 : Nat → Int32) (wn : Int32) (w1 : Nat → Int32) (w2 : Nat → Int32) (w3 : Nat → Int32) (w4 : Nat → Int32) (w5 : Nat → Int32) (w6 : Nat → Int32) (ac : Nat → Int32) (br : Nat → Int32) (pu : Int32) (gw : Int32) (hds : Nat → Int32) (hn : Int32) (b_1 : Int32) (b_2 : Int32) (b_3 : Int32) (b_p : Int32) (hZ : Z (0, 1, su, po, hds, kr, kv, kb, oa, ob, cg, fb, mh, ml, ih, lb, ic, an, ch, cn_, c1, c2, c3, c4, c5, c6, wn, w1, w2, w3, w4, w5, w6, ac, obi, sc, br, nI c, 1, sf, cf, nI (rk (oO S Po) 6), 1, pu, gw, hn, nI k, b_1, b_2, b_3, b_p)) (WF : Nat → Int32) (hW : ∀ p, p < n → WF p = nI (wi S Po sf p c)) : okW Z (m_k_L_isWalked_499 pp (nI n) (nI many) 1 en pl rf tp tq ea es (nI n) WF (nI c) 1 (nI (sN (fun i => cn (bt (phi S Po (sf i)))) c)) (nI (rk (sBb pp gf many S Po sf) c)) su po hds kr kv kb oa ob cg fb mh ml ih lb ic an ch cn_ c1 c2 c3 c4 c5 c6 wn w1 w2 w3 w4 w5 w6 ac obi sc br (nI c) 1 sf cf (nI (rk (oO S Po) 6)) 1 pu gw hn (nI k) b_1 b_2 b_3 b_p) := by
  have g := w_549 H en tp tq ea es kb cg fb mh ml ih lb ic an ch cn_ c1 c2 c3 c4 c5 c6 wn w1 w2 w3 w4 w5 w6 ac br pu gw hds hn b_1 b_2 b_3 b_p hZ WF hW
  obtain ⟨h, hn6, hpl, hg, hpo, hob, hc, hco, ha⟩ := H
  unfold m_k_L_isWalked_499
  rw [if_neg (by decide), lE_of (q8 hc hco), if_pos rfl]
  by_cases d : nI c = 0
  · rw [if_pos d, m_k_L_isWalked_539, m_k_L_isWalked_544]
    exact g
  · rw [if_neg d, lE_of (q_mean hg.1 hc (fun e => d (by rw [e]; rfl)) sf fun i hi => (ha i hi).1)]
    dsimp only
    rw [if_pos rfl, if_pos (d_self _ _ d), m_k_L_isWalked_539, m_k_L_isWalked_544]
    exact g
end WA
