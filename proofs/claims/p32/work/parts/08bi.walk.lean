/-! the pure argument, 35: the law's walk, whole -/
section WT
variable {pp : pT} {n many : Nat} {rf gf : Nat → Option Nat}
theorem sh_n : ∀ n, n < 7 → (1 : Int32) <<< (nI n &&& 31) = nI (2 ^ n) := by decide
theorem lt_pow {n : Nat} (hn : n ≤ 6) {u : Nat} (hu : u < 64) (hb : ∀ p, bt (nI u) p = true → p < n) : u < 2 ^ n := by
  refine of_decide_eq_true ((v_dec n (by omega) u hu).trans (List.all_eq_true.mpr fun j _ => ?_))
  cases hj : bt (nI u) j with
  | false => exact Bool.or_true _
  | true => rw [decide_eq_true (hb j hj)]; rfl
/-- both lists are of the same sets -/
theorem fl_iff (h : prOK pp n rf gf many) (hn6 : n ≤ 6) {S Po : Nat → Bool} {su po : Nat → Int64} {kr kv : Nat → Int32} {k : Nat} {q : Nat → Nat} {oa ob : Nat → Int32} (hg : gR pp rf gf many S Po su po kr kv k q oa ob) {a5 a6 : Int32} (h5 : sm a5) (h6 : sm a6) (A : Int32) : (∃ s, fS pp gf many S Po (bt a5) (bt a6) 0 s ∧ phi S Po s = A) ↔ lS pp gf many a5 a6 (2 ^ n) A := by
  have hsp := gR_sp h hg
  constructor
  · rintro ⟨s, ⟨u, u1, -, u3, ⟨f1, f2⟩, ha⟩, rfl⟩
    obtain ⟨v, v1, v2⟩ := sm_nI (phi_sm S Po s)
    refine ⟨v, lt_pow hn6 v1 fun p hp => ?_, v2, ?_, ?_, ?_⟩
    · rw [← v2] at hp
      obtain ⟨r, r1, r2, -⟩ := zA_why h.1 ha hp
      exact p_head h r1 r2.2.2.1
    · rw [← v2, b_sub]
      exact fun p hp => f1 p (sm_lt h5 hp) hp
    · rw [← v2, b_dis]
      exact fun p hp => f2 p (sm_lt h6 hp) hp
    · rw [← v2]
      exact ha
  · rintro ⟨u, u1, rfl, f1, f2, ha⟩
    have hpw : 2 ^ n ≤ 2 ^ 6 := Nat.pow_le_pow_right (by omega) hn6
    have hu : u < 64 := Nat.lt_of_lt_of_le u1 hpw
    have hS := tC_S (p_def h) hg.2.2.1 ha.1
    have hP := tA_P (p_def h) hg.2.2.1 hg.2.2.2.1 ha
    obtain ⟨s, s1, s2⟩ := phi_onto (kI_sm u hu) hS hP
    obtain ⟨v, v1, v2⟩ := sm_nI (vS_sm s1)
    refine ⟨s, ⟨v, (v_iff v1).mp (by rw [← v2]; exact s1), Nat.zero_le _, v2, ⟨fun p _ hp => ?_, fun p _ hp => ?_⟩, by rw [s2]; exact ha⟩, s2⟩
    · rw [s2]
      exact b_sub.mp f1 p hp
    · rw [s2]
      exact b_dis.mp f2 p hp
theorem fl_list (h : prOK pp n rf gf many) (hn6 : n ≤ 6) {S Po : Nat → Bool} {su po : Nat → Int64} {kr kv : Nat → Int32} {k : Nat} {q : Nat → Nat} {oa ob : Nat → Int32} (hg : gR pp rf gf many S Po su po kr kv k q oa ob) {a5 a6 : Int32} (h5 : sm a5) (h6 : sm a6) {sf qL : Nat → Int32} {c cL : Nat} (h1 : oL (fun s t => ah pp gf many (phi S Po s) (phi S Po t)) (fS pp gf many S Po (bt a5) (bt a6) 0) sf c) (h2 : oL (ah pp gf many) (lS pp gf many a5 a6 (2 ^ n)) qL cL) : c = cL ∧ ∀ i, i < c → qL i = phi S Po (sf i) := by
  have e : oL (ah pp gf many) (lS pp gf many a5 a6 (2 ^ n)) (fun i => phi S Po (sf i)) c := ⟨fun i hi => (fl_iff h hn6 hg h5 h6 _).mp ⟨sf i, h1.1 i hi, rfl⟩, h1.2.1, fun x hx => by
    obtain ⟨s, s1, s2⟩ := (fl_iff h hn6 hg h5 h6 x).mpr hx
    obtain ⟨i, i1, i2⟩ := h1.2.2 s s1
    exact ⟨i, i1, by rw [← s2, ← i2]⟩⟩
  obtain ⟨e1, e2⟩ := oL_eq (fun x y g => ah_asym g) e h2
  exact ⟨e1, fun i hi => (e2 i hi).symm⟩
theorem fS_ok {S Po : Nat → Bool} {I Q : Nat → Bool} {s : Int32} (h : fS pp gf many S Po I Q 0 s) : vS (oO S Po) s ∧ zA pp gf many (phi S Po s) := by
  obtain ⟨u, u1, -, rfl, -, ha⟩ := h
  have h6 := rk6 (oO S Po)
  have hpw : 2 ^ rk (oO S Po) 6 ≤ 2 ^ 6 := Nat.pow_le_pow_right (by omega) h6
  exact ⟨(v_iff (Nat.lt_of_lt_of_le u1 hpw)).mpr u1, ha⟩

/-- the state that a walk leaves -/
def stW (pp : pT) (rf gf : Nat → Option Nat) (many n : Nat) (r : r_k_L_isWalked) : Prop := ∃ (S : Nat → Bool) (Po : Nat → Bool) (su : Nat → Int64) (po : Nat → Int64) (hds : Nat → Int32) (kr : Nat → Int32) (kv : Nat → Int32) (kb : Nat → Int32) (oa : Nat → Int32) (ob : Nat → Int32) (cg : Int32) (mh : Int32) (ml : Int32) (ih : Int32) (lb : Int32) (an : Int32) (ch : Int32) (c0 : Nat) (c1 : Nat → Int32) (c2 : Nat → Int32) (c3 : Nat → Int32) (c4 : Nat → Int32) (c5 : Nat → Int32) (c6 : Nat → Int32) (w0 : Nat) (w1 : Nat → Int32) (w2 : Nat → Int32) (w3 : Nat → Int32) (w4 : Nat → Int32) (w5 : Nat → Int32) (w6 : Nat → Int32) (ac : Nat → Int32) (obi : Nat → Int32) (sc : Nat → Int32) (br : Nat → Int32) (c : Nat) (sf : Nat → Int32) (cf : Nat → Int64) (pu : Int32) (gw : Int32) (hn : Int32) (k : Nat) (q : Nat → Nat) (b_1 : Int32) (b_2 : Int32) (b_3 : Int32) (b_p : Int32), r = (0, 1, su, po, hds, kr, kv, kb, oa, ob, cg, 0, mh, ml, ih, lb, 1, an, ch, nI c0, c1, c2, c3, c4, c5, c6, nI w0, w1, w2, w3, w4, w5, w6, ac, obi, sc, br, nI c, 1, sf, cf, nI (rk (oO S Po) 6), 1, pu, gw, hn, nI k, b_1, b_2, b_3, b_p) ∧ gR pp rf gf many S Po su po kr kv k q oa ob ∧ (∀ p, Po p = true → p < n) ∧ cP pp rf gf many S Po q k ch cg c0 w0 c1 c2 c3 c4 c5 c6 w1 w2 w3 obi sc
theorem lw_walk0 (h : prOK pp n rf gf many) (hn6 : n ≤ 6) {pl : Nat → Int32} (hpl : ∀ p, p < n → pl p = 0) {tp tq : Nat → Int32} (ht : tp 0 = 0) (hq : tq 0 = 0) {en : Nat} {es : Nat → Int32} (hx : exF en es) {a5 a6 : Int32} (h5 : sm a5) (h6 : sm a6) {ai ao : Nat → Int64} (hi : ws6 ai (bt a5)) (ho : ws6 ao (bt a6)) (ea : Nat → Int32) (hn : Int32) (kn : Int32) (on : Int32) (pu : Int32) (gw : Int32) (b_1 : Int32) (b_2 : Int32) (b_3 : Int32) (b_p : Int32) (su : Nat → Int64) (po : Nat → Int64) (hds : Nat → Int32) (kr : Nat → Int32) (kv : Nat → Int32) (kb : Nat → Int32) (oa : Nat → Int32) (ob : Nat → Int32) (an : Int32) (ch : Int32) (cg : Int32) (fb : Int32) (mh : Int32) (ml : Int32) (ih : Int32) (lb : Int32) (cn : Int32) (c1 : Nat → Int32) (c2 : Nat → Int32) (c3 : Nat → Int32) (c4 : Nat → Int32) (c5 : Nat → Int32) (c6 : Nat → Int32) (wn : Int32) (w1 : Nat → Int32) (w2 : Nat → Int32) (w3 : Nat → Int32) (w4 : Nat → Int32) (w5 : Nat → Int32) (w6 : Nat → Int32) (ac : Nat → Int32) (obi : Nat → Int32) (sc : Nat → Int32) (br : Nat → Int32) (nn : Int32) (se : Nat → Int32) (co : Nat → Int64) (ef : Nat → Int32) : okW (stW pp rf gf many n) (m_k_L_isWalked pp (nI n) (nI many) 1 (nI en) pl rf tp tq ea es hn kn on 0 pu gw b_1 b_2 b_3 b_p su po hds kr kv kb oa ob an ch cg fb mh ml ih lb 0 cn c1 c2 c3 c4 c5 c6 wn w1 w2 w3 w4 w5 w6 ac obi sc br ai ao nn 0 se co gf ef (nI many) (nI n) 0 0 a5 a6) := by
  have hpw : 2 ^ n ≤ 2 ^ 6 := Nat.pow_le_pow_right (by omega) hn6
  unfold m_k_L_isWalked
  obtain ⟨m, cL, qL, hm, eF, hcL, hoL⟩ := lw_list h.1 (N := 2 ^ n) hpw a5 a6 (m_k_L_isWalked_12 pp (nI n) (nI many) 1 (nI en) pl rf tp tq ea es hn kn on 0 pu gw b_1 b_2 b_3 b_p su po hds kr kv kb oa ob an ch cg fb mh ml ih lb 0 cn c1 c2 c3 c4 c5 c6 wn w1 w2 w3 w4 w5 w6 ac obi sc br ai ao nn 0 se co gf ef (nI many) (nI n) 0 0 a5 a6) (fun m c j q hj => by
    have n1 : ¬ nI (2 ^ n) ≤ nI j := by rw [kI_le (by omega) (by omega)]; omega
    rw [m_k_L_isWalked_12_succ, m_k_L_isWalked_12s, sh_n n (by omega), if_neg n1]
    rfl) (fun _ => 0)
  rw [eF]
  obtain ⟨m, rfl⟩ : ∃ q, m = q + 1 := ⟨m - 1, by omega⟩
  rw [m_k_L_isWalked_12_succ, m_k_L_isWalked_12s, sh_n n (by omega), if_pos (Int32.le_refl _)]
  obtain ⟨S, Po, su1, po1, hds1, kr1, kv1, kb1, oa1, ob1, cg1, mh1, ml1, ih1, lb1, an1, ch1, c0, c11, c21, c31, c41, c51, c61, w0, w11, w21, w31, w41, w51, w61, ac1, obi1, sc1, gw1, hn1, k, q, b11, b21, b31, bp1, cA, sA, e1, hg, hpo, hc, hoA⟩ := k_ask4a h ht hq hx ea hi ho hn kn on pu gw b_1 b_2 b_3 b_p su po hds kr kv kb oa ob an ch cg fb mh ml ih lb cn c1 c2 c3 c4 c5 c6 wn w1 w2 w3 w4 w5 w6 ac obi sc
  obtain ⟨mh2, ml2, ih2, lb2, an2, ac2, br2, c, sf, cf, e2, h64, hoB, hco⟩ := k_deed13 h hg hc hi ho 1 (nI en) tp tq ea es hn1 2 gw1 b11 b21 b31 bp1 hds1 kb1 an1 mh1 ml1 ih1 lb1 w41 w51 w61 ac1 br nn se co
  obtain ⟨mh3, ml3, ih3, lb3, an3, ac3, cC, sC, e3, hoC⟩ := k_ask4b h hg hc hi ho 1 (nI en) tp tq ea es hn1 2 gw1 b11 b21 b31 bp1 hds1 kb1 an2 mh2 ml2 ih2 lb2 w41 w51 w61 ac2
  obtain ⟨q1, -⟩ := fl_list h hn6 hg h5 h6 hoA hoL
  obtain ⟨q2, q2'⟩ := fl_list h hn6 hg h5 h6 hoB hoL
  obtain ⟨q3, -⟩ := fl_list h hn6 hg h5 h6 hoC hoL
  subst q1
  subst q2
  subst q3
  rw [lE_of e1]
  dsimp only
  rw [if_pos rfl, lE_of e2]
  dsimp only
  rw [if_pos rfl, lE_of e3]
  dsimp only
  rw [if_pos rfl, lE_of (q6_out h64 su1 sf), if_pos rfl, lE_of (q5_out hn6 h64 pl _ su1 ob1 sf 0 0), if_pos rfl]
  unfold m_k_L_isWalked_193
  exact w_209 ⟨h, hn6, hpl, hg, hpo, hc.2.2.1, h64, hco, fun i hi => fS_ok (hoB.1 i hi)⟩ (nI en) kb1 cg1 0 mh3 ml3 ih3 lb3 1 an3 ch1 (nI c0) c11 c21 c31 c41 c51 c61 (nI w0) w11 w21 w31 w41 w51 w61 ac3 br2 2 gw1 tp tq ea es ef (fun hds hn b_1 b_2 b_3 b_p => ⟨S, Po, su1, po1, hds, kr1, kv1, kb1, oa1, ob1, cg1, mh3, ml3, ih3, lb3, an3, ch1, c0, c11, c21, c31, c41, c51, c61, w0, w11, w21, w31, w41, w51, w61, ac3, obi1, sc1, br2, _, sf, cf, 2, gw1, hn, k, q, b_1, b_2, b_3, b_p, rfl, hg, hpo, hc⟩) qL q2' hds1 hn1 b11 b21 b31 bp1
theorem lw_walk1 (h : prOK pp n rf gf many) (hn6 : n ≤ 6) {pl : Nat → Int32} (hpl : ∀ p, p < n → pl p = 0) {S Po : Nat → Bool} {su po : Nat → Int64} {kr kv : Nat → Int32} {k : Nat} {q : Nat → Nat} {oa ob : Nat → Int32} (hg : gR pp rf gf many S Po su po kr kv k q oa ob) (hpo : ∀ p, Po p = true → p < n) {c0 w0 : Nat} {ch cg : Int32} {c1 c2 c3 c4 c5 c6 w1 w2 w3 obi sc : Nat → Int32} (hc : cP pp rf gf many S Po q k ch cg c0 w0 c1 c2 c3 c4 c5 c6 w1 w2 w3 obi sc) {a5 a6 : Int32} (h5 : sm a5) (h6 : sm a6) {ai ao : Nat → Int64} (hi : ws6 ai (bt a5)) (ho : ws6 ao (bt a6)) (en : Nat) (tp tq es : Nat → Int32) (ea : Nat → Int32) (hn : Int32) (pu : Int32) (gw : Int32) (b_1 : Int32) (b_2 : Int32) (b_3 : Int32) (b_p : Int32) (hds : Nat → Int32) (kb : Nat → Int32) (an : Int32) (mh : Int32) (ml : Int32) (ih : Int32) (lb : Int32) (w4 : Nat → Int32) (w5 : Nat → Int32) (w6 : Nat → Int32) (ac : Nat → Int32) (br : Nat → Int32) (nn : Int32) (se : Nat → Int32) (co : Nat → Int64) (ef : Nat → Int32) : okW (stW pp rf gf many n) (m_k_L_isWalked pp (nI n) (nI many) 1 (nI en) pl rf tp tq ea es hn (nI k) (nI (rk (oO S Po) 6)) 1 pu gw b_1 b_2 b_3 b_p su po hds kr kv kb oa ob an ch cg 0 mh ml ih lb 1 (nI c0) c1 c2 c3 c4 c5 c6 (nI w0) w1 w2 w3 w4 w5 w6 ac obi sc br ai ao nn 0 se co gf ef (nI many) (nI n) 0 0 a5 a6) := by
  have hpw : 2 ^ n ≤ 2 ^ 6 := Nat.pow_le_pow_right (by omega) hn6
  unfold m_k_L_isWalked
  obtain ⟨m, cL, qL, hm, eF, hcL, hoL⟩ := lw_list h.1 (N := 2 ^ n) hpw a5 a6 (m_k_L_isWalked_12 pp (nI n) (nI many) 1 (nI en) pl rf tp tq ea es hn (nI k) (nI (rk (oO S Po) 6)) 1 pu gw b_1 b_2 b_3 b_p su po hds kr kv kb oa ob an ch cg 0 mh ml ih lb 1 (nI c0) c1 c2 c3 c4 c5 c6 (nI w0) w1 w2 w3 w4 w5 w6 ac obi sc br ai ao nn 0 se co gf ef (nI many) (nI n) 0 0 a5 a6) (fun m c j q hj => by
    have n1 : ¬ nI (2 ^ n) ≤ nI j := by rw [kI_le (by omega) (by omega)]; omega
    rw [m_k_L_isWalked_12_succ, m_k_L_isWalked_12s, sh_n n (by omega), if_neg n1]
    rfl) (fun _ => 0)
  rw [eF]
  obtain ⟨m, rfl⟩ : ∃ q, m = q + 1 := ⟨m - 1, by omega⟩
  rw [m_k_L_isWalked_12_succ, m_k_L_isWalked_12s, sh_n n (by omega), if_pos (Int32.le_refl _)]
  obtain ⟨mh1, ml1, ih1, lb1, an1, ac1, cA, sA, e1, hoA⟩ := k_ask4b h hg hc hi ho 1 (nI en) tp tq ea es hn pu gw b_1 b_2 b_3 b_p hds kb an mh ml ih lb w4 w5 w6 ac
  obtain ⟨mh2, ml2, ih2, lb2, an2, ac2, br2, c, sf, cf, e2, h64, hoB, hco⟩ := k_deed13 h hg hc hi ho 1 (nI en) tp tq ea es hn pu gw b_1 b_2 b_3 b_p hds kb an1 mh1 ml1 ih1 lb1 w4 w5 w6 ac1 br nn se co
  obtain ⟨mh3, ml3, ih3, lb3, an3, ac3, cC, sC, e3, hoC⟩ := k_ask4b h hg hc hi ho 1 (nI en) tp tq ea es hn pu gw b_1 b_2 b_3 b_p hds kb an2 mh2 ml2 ih2 lb2 w4 w5 w6 ac2
  obtain ⟨q1, -⟩ := fl_list h hn6 hg h5 h6 hoA hoL
  obtain ⟨q2, q2'⟩ := fl_list h hn6 hg h5 h6 hoB hoL
  obtain ⟨q3, -⟩ := fl_list h hn6 hg h5 h6 hoC hoL
  subst q1
  subst q2
  subst q3
  rw [lE_of e1]
  dsimp only
  rw [if_pos rfl, lE_of e2]
  dsimp only
  rw [if_pos rfl, lE_of e3]
  dsimp only
  rw [if_pos rfl, lE_of (q6_out h64 su sf), if_pos rfl, lE_of (q5_out hn6 h64 pl _ su ob sf 0 0), if_pos rfl]
  unfold m_k_L_isWalked_193
  exact w_209 ⟨h, hn6, hpl, hg, hpo, hc.2.2.1, h64, hco, fun i hi => fS_ok (hoB.1 i hi)⟩ (nI en) kb cg 0 mh3 ml3 ih3 lb3 1 an3 ch (nI c0) c1 c2 c3 c4 c5 c6 (nI w0) w1 w2 w3 w4 w5 w6 ac3 br2 pu gw tp tq ea es ef (fun hds hn b_1 b_2 b_3 b_p => ⟨S, Po, su, po, hds, kr, kv, kb, oa, ob, cg, mh3, ml3, ih3, lb3, an3, ch, c0, c1, c2, c3, c4, c5, c6, w0, w1, w2, w3, w4, w5, w6, ac3, obi, sc, br2, _, sf, cf, pu, gw, hn, k, q, b_1, b_2, b_3, b_p, rfl, hg, hpo, hc⟩) qL q2' hds hn b_1 b_2 b_3 b_p
end WT
