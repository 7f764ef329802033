/-! the pure argument, 28: what is refreshed and prepared, the first questions and the walk -/
section PR
variable {pp : pT} {n many : Nat} {rf gf : Nat → Option Nat}
theorem g_same (rn : Int32) (tn : Int32) (en : Int32) (rf : Nat → Option Nat) (tp : Nat → Int32) (tq : Nat → Int32) (ea : Nat → Int32) (es : Nat → Int32) (hn : Int32) (kn : Int32) (on : Int32) (pu : Int32) (gw : Int32) (b_1 : Int32) (b_2 : Int32) (b_3 : Int32) (b_p : Int32) (su : Nat → Int64) (po : Nat → Int64) (hds : Nat → Int32) (kr : Nat → Int32) (kv : Nat → Int32) (kb : Nat → Int32) (oa : Nat → Int32) (ob : Nat → Int32) : m_k_X3_refresh pp rn tn en rf tp tq ea es hn kn on 1 pu gw b_1 b_2 b_3 b_p su po hds kr kv kb oa ob = (su, po, hds, kr, kv, kb, oa, ob, on, 1, pu, gw, hn, kn, b_1, b_2, b_3, b_p) := by
  unfold m_k_X3_refresh
  rw [if_neg (by decide)]
theorem g_ref (h : prOK pp n rf gf many) {tp tq : Nat → Int32} (ht : tp 0 = 0) (hq : tq 0 = 0) {en : Nat} {es : Nat → Int32} (hx : exF en es) (ea : Nat → Int32) (hn kn on pu gw b_1 b_2 b_3 b_p : Int32) (su po : Nat → Int64) (hds kr kv kb oa ob : Nat → Int32) : ∃ S Po su' po' hds' kr' kv' kb' oa' ob' gw' hn' k q b1' b2' b3' bp', m_k_X3_refresh pp (nI many) 1 (nI en) rf tp tq ea es hn kn on 0 pu gw b_1 b_2 b_3 b_p su po hds kr kv kb oa ob = (su', po', hds', kr', kv', kb', oa', ob', nI (rk (oO S Po) 6), 1, 2, gw', hn', nI k, b1', b2', b3', bp') ∧ gR pp rf gf many S Po su' po' kr' kv' k q oa' ob' ∧ ∀ p, Po p = true → p < n := g_refresh h ht hq hx ea hn kn on pu gw b_1 b_2 b_3 b_p su po hds kr kv kb oa ob
theorem gR_sp (h : prOK pp n rf gf many) {S Po : Nat → Bool} {su po : Nat → Int64} {kr kv : Nat → Int32} {k : Nat} {q : Nat → Nat} {oa ob : Nat → Int32} (hg : gR pp rf gf many S Po su po kr kv k q oa ob) : ∀ p, S p = true → Po p = true := tS_sub (p_def h) hg.2.2.1 hg.2.2.2.1
theorem k_prep0 (h : prOK pp n rf gf many) {S Po : Nat → Bool} {su po : Nat → Int64} {kr kv : Nat → Int32} {k : Nat} {q : Nat → Nat} {oa ob : Nat → Int32} (hg : gR pp rf gf many S Po su po kr kv k q oa ob) {en : Nat} {es : Nat → Int32} (hx : exF en es) (ea : Nat → Int32) {I Q : Nat → Bool} {ai ao : Nat → Int64} (hi : ws6 ai I) (hq : ws6 ao Q) (hn : Int32) (b_1 : Int32) (b_2 : Int32) (b_3 : Int32) (b_p : Int32) (hds : Nat → Int32) (ch : Int32) (cg : Int32) (fb : Int32) (lb : Int32) (cn : Int32) (c1 : Nat → Int32) (c2 : Nat → Int32) (c3 : Nat → Int32) (c4 : Nat → Int32) (c5 : Nat → Int32) (c6 : Nat → Int32) (wn : Int32) (w1 : Nat → Int32) (w2 : Nat → Int32) (w3 : Nat → Int32) (w4 : Nat → Int32) (w5 : Nat → Int32) (w6 : Nat → Int32) (obi : Nat → Int32) (sc : Nat → Int32) : ∃ hds1 cg1 mh1 ml1 ih1 ch1 c0 c11 c21 c31 c41 c51 c61 w0 w11 w21 w31 w41 w51 w61 obi1 sc1 hn1 b11 b21 b31 bp1, m_k_X9_prepare pp (nI many) (nI en) rf ea es hn (nI k) (nI (rk (oO S Po) 6)) b_1 b_2 b_3 b_p su po hds kr kv oa ob ch cg fb lb 0 cn c1 c2 c3 c4 c5 c6 wn w1 w2 w3 w4 w5 w6 obi sc ai ao = (hds1, cg1, 0, mh1, ml1, ih1, 0, 1, ch1, nI c0, c11, c21, c31, c41, c51, c61, nI w0, w11, w21, w31, w41, w51, w61, obi1, sc1, hn1, b11, b21, b31, bp1) ∧ cP pp rf gf many S Po q k ch1 cg1 c0 w0 c11 c21 c31 c41 c51 c61 w11 w21 w31 obi1 sc1 ∧ (∀ s, tv (m_k_X9_fits mh1 ml1 ih1 s) ((∀ p, p < 6 → I p = true → bt (phi S Po s) p = true) ∧ ∀ p, p < 6 → Q p = true → bt (phi S Po s) p = false)) := by
  obtain ⟨hds1, cg1, ch1, c0, c11, c21, c31, c41, c51, c61, w0, w11, w21, w31, w41, w51, w61, obi1, sc1, hn1, b11, b21, b31, bp1, e1, hc⟩ := k_compile h hg hx ea hn b_1 b_2 b_3 b_p hds c1 c2 c3 c4 c5 c6 w1 w2 w3 w4 w5 w6 obi sc
  obtain ⟨mh1, ml1, ih1, e2, hf⟩ := k_fit hg.1 hg.2.1 hi hq (gR_sp h hg) hg.2.2.2.2.2
  refine ⟨hds1, cg1, mh1, ml1, ih1, ch1, c0, c11, c21, c31, c41, c51, c61, w0, w11, w21, w31, w41, w51, w61, obi1, sc1, hn1, b11, b21, b31, bp1, ?_, hc, hf⟩
  unfold m_k_X9_prepare
  rw [if_pos rfl, lE_eq e1.symm]
  unfold m_k_X9_prepare_16
  rw [lE_eq e2.symm]
theorem k_prep1 (h : prOK pp n rf gf many) {S Po : Nat → Bool} {su po : Nat → Int64} {kr kv : Nat → Int32} {k : Nat} {q : Nat → Nat} {oa ob : Nat → Int32} (hg : gR pp rf gf many S Po su po kr kv k q oa ob) (en : Int32) (es ea : Nat → Int32) {I Q : Nat → Bool} {ai ao : Nat → Int64} (hi : ws6 ai I) (hq : ws6 ao Q) (hn : Int32) (b_1 : Int32) (b_2 : Int32) (b_3 : Int32) (b_p : Int32) (hds : Nat → Int32) (ch : Int32) (cg : Int32) (fb : Int32) (lb : Int32) (cn : Int32) (c1 : Nat → Int32) (c2 : Nat → Int32) (c3 : Nat → Int32) (c4 : Nat → Int32) (c5 : Nat → Int32) (c6 : Nat → Int32) (wn : Int32) (w1 : Nat → Int32) (w2 : Nat → Int32) (w3 : Nat → Int32) (w4 : Nat → Int32) (w5 : Nat → Int32) (w6 : Nat → Int32) (obi : Nat → Int32) (sc : Nat → Int32) : ∃ mh1 ml1 ih1, m_k_X9_prepare pp (nI many) en rf ea es hn (nI k) (nI (rk (oO S Po) 6)) b_1 b_2 b_3 b_p su po hds kr kv oa ob ch cg fb lb 1 cn c1 c2 c3 c4 c5 c6 wn w1 w2 w3 w4 w5 w6 obi sc ai ao = (hds, cg, fb, mh1, ml1, ih1, lb, 1, ch, cn, c1, c2, c3, c4, c5, c6, wn, w1, w2, w3, w4, w5, w6, obi, sc, hn, b_1, b_2, b_3, b_p) ∧ (∀ s, tv (m_k_X9_fits mh1 ml1 ih1 s) ((∀ p, p < 6 → I p = true → bt (phi S Po s) p = true) ∧ ∀ p, p < 6 → Q p = true → bt (phi S Po s) p = false)) := by
  obtain ⟨mh1, ml1, ih1, e2, hf⟩ := k_fit hg.1 hg.2.1 hi hq (gR_sp h hg) hg.2.2.2.2.2
  refine ⟨mh1, ml1, ih1, ?_, hf⟩
  unfold m_k_X9_prepare
  rw [if_neg (by decide)]
  unfold m_k_X9_prepare_16
  rw [lE_eq e2.symm]
theorem gR_on (S Po : Nat → Bool) {m : Nat} (hm : 6 ≤ m) (h2 : m < 1000) : ¬ nI m < nI (rk (oO S Po) 6) := by
  have := rk6 (oO S Po)
  rw [kI_lt (by omega) (by omega)]
  omega
theorem gR_on7 (S Po : Nat → Bool) : ¬ (7 : Int32) < nI (rk (oO S Po) 6) := gR_on S Po (m := 7) (by omega) (by omega)
theorem gR_on12 (S Po : Nat → Bool) : ¬ (12 : Int32) < nI (rk (oO S Po) 6) := gR_on S Po (m := 12) (by omega) (by omega)
theorem gR_kn (h : prOK pp n rf gf many) {S Po : Nat → Bool} {su po : Nat → Int64} {kr kv : Nat → Int32} {k : Nat} {q : Nat → Nat} {oa ob : Nat → Int32} (hg : gR pp rf gf many S Po su po kr kv k q oa ob) : nI k ≤ (300 : Int32) := by
  have h1 := hg.2.2.2.2.1.1
  have h2 := h.1.1
  rw [show (300 : Int32) = nI 300 from rfl, kI_le (by omega) (by omega)]
  omega
theorem k_ask4a (h : prOK pp n rf gf many) {tp tq : Nat → Int32} (ht : tp 0 = 0) (hq : tq 0 = 0) {en : Nat} {es : Nat → Int32} (hx : exF en es) (ea : Nat → Int32) {I Q : Nat → Bool} {ai ao : Nat → Int64} (hi : ws6 ai I) (hq2 : ws6 ao Q) (hn : Int32) (kn : Int32) (on : Int32) (pu : Int32) (gw : Int32) (b_1 : Int32) (b_2 : Int32) (b_3 : Int32) (b_p : Int32) (su : Nat → Int64) (po : Nat → Int64) (hds : Nat → Int32) (kr : Nat → Int32) (kv : Nat → Int32) (kb : Nat → Int32) (oa : Nat → Int32) (ob : Nat → Int32) (an : Int32) (ch : Int32) (cg : Int32) (fb : Int32) (mh : Int32) (ml : Int32) (ih : Int32) (lb : Int32) (cn : Int32) (c1 : Nat → Int32) (c2 : Nat → Int32) (c3 : Nat → Int32) (c4 : Nat → Int32) (c5 : Nat → Int32) (c6 : Nat → Int32) (wn : Int32) (w1 : Nat → Int32) (w2 : Nat → Int32) (w3 : Nat → Int32) (w4 : Nat → Int32) (w5 : Nat → Int32) (w6 : Nat → Int32) (ac : Nat → Int32) (obi : Nat → Int32) (sc : Nat → Int32) : ∃ S Po su1 po1 hds1 kr1 kv1 kb1 oa1 ob1 cg1 mh1 ml1 ih1 lb1 an1 ch1 c0 c11 c21 c31 c41 c51 c61 w0 w11 w21 w31 w41 w51 w61 ac1 obi1 sc1 gw1 hn1 k q b11 b21 b31 bp1 c sf, m_k_L_ask_4 pp (nI many) 1 (nI en) rf tp tq ea es hn kn on 0 pu gw b_1 b_2 b_3 b_p su po hds kr kv kb oa ob an ch cg fb mh ml ih lb 0 cn c1 c2 c3 c4 c5 c6 wn w1 w2 w3 w4 w5 w6 ac obi sc ai ao = (nI c, su1, po1, hds1, kr1, kv1, kb1, oa1, ob1, cg1, 0, mh1, ml1, ih1, lb1, 1, an1, ch1, nI c0, c11, c21, c31, c41, c51, c61, nI w0, w11, w21, w31, w41, w51, w61, ac1, obi1, sc1, nI (rk (oO S Po) 6), 1, 2, gw1, hn1, nI k, b11, b21, b31, bp1) ∧ gR pp rf gf many S Po su1 po1 kr1 kv1 k q oa1 ob1 ∧ (∀ p, Po p = true → p < n) ∧ cP pp rf gf many S Po q k ch1 cg1 c0 w0 c11 c21 c31 c41 c51 c61 w11 w21 w31 obi1 sc1 ∧ oL (fun s t => ah pp gf many (phi S Po s) (phi S Po t)) (fS pp gf many S Po I Q 0) sf c := by
  obtain ⟨S, Po, su1, po1, hds0, kr1, kv1, kb1, oa1, ob1, gw1, hn0, k, q, b10, b20, b30, bp0, e1, hg, hpo⟩ := g_ref h ht hq hx ea hn kn on pu gw b_1 b_2 b_3 b_p su po hds kr kv kb oa ob
  obtain ⟨hds1, cg1, mh1, ml1, ih1, ch1, c0, c11, c21, c31, c41, c51, c61, w0, w11, w21, w31, w41, w51, w61, obi1, sc1, hn1, b11, b21, b31, bp1, e2, hc, hf⟩ := k_prep0 h hg hx ea hi hq2 hn0 b10 b20 b30 bp0 hds0 ch cg fb lb cn c1 c2 c3 c4 c5 c6 wn w1 w2 w3 w4 w5 w6 obi sc
  obtain ⟨lb1, an1, ac1, c, sf, e3, ho⟩ := k_count h hg hc hf 0 an ac
  refine ⟨S, Po, su1, po1, hds1, kr1, kv1, kb1, oa1, ob1, cg1, mh1, ml1, ih1, lb1, an1, ch1, c0, c11, c21, c31, c41, c51, c61, w0, w11, w21, w31, w41, w51, w61, ac1, obi1, sc1, gw1, hn1, k, q, b11, b21, b31, bp1, c, sf, ?_, hg, hpo, hc, ho⟩
  unfold m_k_L_ask_4 m_k_L_asked_4 m_k_X10_walkByAll
  rw [lE_eq e1.symm]
  dsimp only
  rw [if_neg (gR_on7 S Po), if_pos (gR_kn h hg), lE_eq e2.symm]
  dsimp only
  rw [lE_eq e3.symm]
  rfl
theorem k_ask4b (h : prOK pp n rf gf many) {S Po : Nat → Bool} {su po : Nat → Int64} {kr kv : Nat → Int32} {k : Nat} {q : Nat → Nat} {oa ob : Nat → Int32} (hg : gR pp rf gf many S Po su po kr kv k q oa ob) {c0 w0 : Nat} {ch cg : Int32} {c1 c2 c3 c4 c5 c6 w1 w2 w3 obi sc : Nat → Int32} (hc : cP pp rf gf many S Po q k ch cg c0 w0 c1 c2 c3 c4 c5 c6 w1 w2 w3 obi sc) {I Q : Nat → Bool} {ai ao : Nat → Int64} (hi : ws6 ai I) (hq2 : ws6 ao Q) (tn : Int32) (en : Int32) (tp : Nat → Int32) (tq : Nat → Int32) (ea : Nat → Int32) (es : Nat → Int32) (hn : Int32) (pu : Int32) (gw : Int32) (b_1 : Int32) (b_2 : Int32) (b_3 : Int32) (b_p : Int32) (hds : Nat → Int32) (kb : Nat → Int32) (an : Int32) (mh : Int32) (ml : Int32) (ih : Int32) (lb : Int32) (w4 : Nat → Int32) (w5 : Nat → Int32) (w6 : Nat → Int32) (ac : Nat → Int32) : ∃ mh1 ml1 ih1 lb1 an1 ac1 c sf, m_k_L_ask_4 pp (nI many) tn en rf tp tq ea es hn (nI k) (nI (rk (oO S Po) 6)) 1 pu gw b_1 b_2 b_3 b_p su po hds kr kv kb oa ob an ch cg 0 mh ml ih lb 1 (nI c0) c1 c2 c3 c4 c5 c6 (nI w0) w1 w2 w3 w4 w5 w6 ac obi sc ai ao = (nI c, su, po, hds, kr, kv, kb, oa, ob, cg, 0, mh1, ml1, ih1, lb1, 1, an1, ch, nI c0, c1, c2, c3, c4, c5, c6, nI w0, w1, w2, w3, w4, w5, w6, ac1, obi, sc, nI (rk (oO S Po) 6), 1, pu, gw, hn, nI k, b_1, b_2, b_3, b_p) ∧ oL (fun s t => ah pp gf many (phi S Po s) (phi S Po t)) (fS pp gf many S Po I Q 0) sf c := by
  obtain ⟨mh1, ml1, ih1, e2, hf⟩ := k_prep1 h hg en es ea hi hq2 hn b_1 b_2 b_3 b_p hds ch cg 0 lb (nI c0) c1 c2 c3 c4 c5 c6 (nI w0) w1 w2 w3 w4 w5 w6 obi sc
  obtain ⟨lb1, an1, ac1, c, sf, e3, ho⟩ := k_count h hg hc hf lb an ac
  refine ⟨mh1, ml1, ih1, lb1, an1, ac1, c, sf, ?_, ho⟩
  unfold m_k_L_ask_4 m_k_L_asked_4 m_k_X10_walkByAll
  rw [lE_eq (g_same (nI many) tn en rf tp tq ea es hn (nI k) (nI (rk (oO S Po) 6)) pu gw b_1 b_2 b_3 b_p su po hds kr kv kb oa ob).symm]
  dsimp only
  rw [if_neg (gR_on7 S Po), if_pos (gR_kn h hg), lE_eq e2.symm]
  dsimp only
  rw [lE_eq e3.symm]
  rfl
theorem k_deed13 (h : prOK pp n rf gf many) {S Po : Nat → Bool} {su po : Nat → Int64} {kr kv : Nat → Int32} {k : Nat} {q : Nat → Nat} {oa ob : Nat → Int32} (hg : gR pp rf gf many S Po su po kr kv k q oa ob) {c0 w0 : Nat} {ch cg : Int32} {c1 c2 c3 c4 c5 c6 w1 w2 w3 obi sc : Nat → Int32} (hc : cP pp rf gf many S Po q k ch cg c0 w0 c1 c2 c3 c4 c5 c6 w1 w2 w3 obi sc) {I Q : Nat → Bool} {ai ao : Nat → Int64} (hi : ws6 ai I) (hq2 : ws6 ao Q) (tn : Int32) (en : Int32) (tp : Nat → Int32) (tq : Nat → Int32) (ea : Nat → Int32) (es : Nat → Int32) (hn : Int32) (pu : Int32) (gw : Int32) (b_1 : Int32) (b_2 : Int32) (b_3 : Int32) (b_p : Int32) (hds : Nat → Int32) (kb : Nat → Int32) (an : Int32) (mh : Int32) (ml : Int32) (ih : Int32) (lb : Int32) (w4 : Nat → Int32) (w5 : Nat → Int32) (w6 : Nat → Int32) (ac : Nat → Int32) (br : Nat → Int32) (nn : Int32) (se : Nat → Int32) (co : Nat → Int64) : ∃ mh1 ml1 ih1 lb1 an1 ac1 br1 c sf cf, m_k_L_deed_13 pp (nI many) tn en rf tp tq ea es hn (nI k) (nI (rk (oO S Po) 6)) 1 pu gw b_1 b_2 b_3 b_p su po hds kr kv kb oa ob an ch cg 0 mh ml ih lb 1 (nI c0) c1 c2 c3 c4 c5 c6 (nI w0) w1 w2 w3 w4 w5 w6 ac obi sc br ai ao nn 0 se co = (nI c, su, po, hds, kr, kv, kb, oa, ob, cg, 0, mh1, ml1, ih1, lb1, 1, an1, ch, nI c0, c1, c2, c3, c4, c5, c6, nI w0, w1, w2, w3, w4, w5, w6, ac1, obi, sc, br1, nI c, 1, sf, cf, nI (rk (oO S Po) 6), 1, pu, gw, hn, nI k, b_1, b_2, b_3, b_p) ∧ c ≤ 64 ∧ oL (fun s t => ah pp gf many (phi S Po s) (phi S Po t)) (fS pp gf many S Po I Q 0) sf c ∧ coOK pp gf many S Po sf cf c := by
  obtain ⟨mh1, ml1, ih1, e2, hf⟩ := k_prep1 h hg en es ea hi hq2 hn b_1 b_2 b_3 b_p hds ch cg 0 lb (nI c0) c1 c2 c3 c4 c5 c6 (nI w0) w1 w2 w3 w4 w5 w6 obi sc
  obtain ⟨lb1, an1, ac1, br1, c, sf, cf, e3, h64, ho, hco⟩ := k_find h hg hc hf lb an ac br se co
  refine ⟨mh1, ml1, ih1, lb1, an1, ac1, br1, c, sf, cf, ?_, h64, ho, hco⟩
  unfold m_k_L_deed_13 m_k_L_plain_13 m_k_X10_walk
  rw [if_pos rfl, lE_eq (g_same (nI many) tn en rf tp tq ea es hn (nI k) (nI (rk (oO S Po) 6)) pu gw b_1 b_2 b_3 b_p su po hds kr kv kb oa ob).symm]
  dsimp only
  rw [if_neg (gR_on12 S Po), if_pos (gR_kn h hg), lE_eq e2.symm]
  dsimp only
  rw [lE_eq e3.symm]
  rfl
end PR
