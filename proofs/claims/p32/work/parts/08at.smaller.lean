/-! the pure argument, 20: the search of a smaller enough set answers rightly -/
section HT
variable {pp : pT} {n many : Nat} {rf gf : Nat → Option Nat}
theorem tri {c w : Nat} {br : Nat → Int32} {A cur lo re : Int32} (hin : ∀ i, i < w + 1 → bs (br i) A ∧ i ≤ cn (bt (br i))) (hg1 : bs (br w) cur) (hlo : bs (cur ||| lo) A) (hre : bs (cur ||| re) A) (h1 : cn (bt cur) < cn (bt (cur ||| lo))) (h2 : cn (bt cur) < cn (bt (cur ||| re))) : (∀ i, i < w + 2 → bs (upd (upd br w (cur ||| lo)) (w + 1) (cur ||| re) i) A ∧ i ≤ cn (bt (upd (upd br w (cur ||| lo)) (w + 1) (cur ||| re) i))) ∧ mu (upd (upd br w (cur ||| lo)) (w + 1) (cur ||| re)) (w + 2) < mu br (w + 1) := by
  have h3 : cn (bt (br w)) ≤ cn (bt cur) := cn_mono fun q _ hq => hg1 q hq
  have h4 := (hin w (by omega)).2
  have h5 := cn_le (bt (cur ||| lo))
  have h6 := cn_le (bt (cur ||| re))
  constructor
  · intro i hi
    by_cases e1 : i = w + 1
    · subst e1
      rw [uu_same]
      exact ⟨hre, by omega⟩
    · rw [uu_else _ _ e1]
      by_cases e2 : i = w
      · subst e2
        rw [uu_same]
        exact ⟨hlo, by omega⟩
      · rw [uu_else _ _ e2]
        exact hin i (by omega)
  · show mu (upd (upd br w (cur ||| lo)) (w + 1) (cur ||| re)) w + 3 ^ (6 - cn (bt (upd (upd br w (cur ||| lo)) (w + 1) (cur ||| re) w))) + 3 ^ (6 - cn (bt (upd (upd br w (cur ||| lo)) (w + 1) (cur ||| re) (w + 1)))) < mu br w + 3 ^ (6 - cn (bt (br w)))
    rw [mu_upd _ _ _ (by omega), mu_upd _ _ _ (by omega), uu_same, uu_else _ _ (by omega), uu_same]
    have := p3 (cn (bt (br w))) (cn (bt (cur ||| lo))) (by omega) h5 (cn (bt (cur ||| re))) (by omega) h6
    omega
theorem k_small (h : prOK pp n rf gf many) {S Po : Nat → Bool} {su po : Nat → Int64} {kr kv : Nat → Int32} {k : Nat} {q : Nat → Nat} {oa ob : Nat → Int32} (hg : gR pp rf gf many S Po su po kr kv k q oa ob) {c w : Nat} {ch cg : Int32} {c1 c2 c3 c4 c5 c6 w1 w2 w3 obi sc : Nat → Int32} (hc : cP pp rf gf many S Po q k ch cg c w c1 c2 c3 c4 c5 c6 w1 w2 w3 obi sc) (ac br : Nat → Int32) {A : Int32} (hA : vS (oO S Po) A) (hcl : tC many (zK pp gf) (zM pp gf 1) (zM pp gf 4) (zM pp gf 5) (zM pp gf 8) (zM pp gf 9) (zI pp gf 2) (zI pp gf 3) (bt (phi S Po A))) : tv (m_k_X9_hasSmaller pp (nI many) rf ch cg 0 (nI c) c1 c2 c3 c4 ac obi sc br A).1 (∃ B, tL (bt (phi S Po A)) B ∧ tE many (zK pp gf) (zM pp gf 1) (zM pp gf 4) (zM pp gf 5) (zM pp gf 8) (zM pp gf 9) (bt (phi S Po A)) B) := by
  have hm := h.1.1
  have hkm := hg.2.2.2.2.1.1
  have hck1 := hc.1.1
  obtain ⟨m0, hm0⟩ := wF_ge
  obtain ⟨an, ac', el, hl⟩ := k_list (pp := pp) (rf := rf) (show c ≤ 300 by omega) (nI many) cg c1 c2 c3 c4 ac obi sc A
  have hgood := k_good h (show k ≤ 10 by omega) hc hA
  -- at most two heads
  have two : ∀ j, j < c → cn (bt (c4 j &&& A)) ≤ 2 := fun j hj => by
    obtain ⟨r, hrw⟩ := hc.1.2.1 j hj
    have h4 := hrw.2.2.1
    have e1 := cM_cn (s := A) h4
    have hs : sm (A &&& c4 j) := fun i hi => by rw [b_and, vS_sm hA i hi]; rfl
    rw [cn_bc hs, kI_eq (by have := cn_le (bt (A &&& c4 j)); omega) (by have := cn_le (fun p => oO S Po p && (zM pp gf 1 r p && bt (phi S Po A) p)); omega)] at e1
    rw [Int32.and_comm, e1]
    exact h_two h hrw.1.1 _ fun p hp => ((Bool.and_eq_true _ _).mp ((Bool.and_eq_true _ _).mp hp).2).1
  have key : ∀ e m w t br, mu br w ≤ e → e + 2 ≤ m → t + e ≤ 999 → (∀ i, i < w → bs (br i) A ∧ i ≤ cn (bt (br i))) → (∀ B, gd pp (nI many) cg ch rf c c1 c2 c3 c4 obi sc A B → ¬ B = A → ∃ i, i < w ∧ bs (br i) B) → tv (m_k_X9_hasSmaller_21 pp (nI many) rf ch cg c1 c2 c3 c4 obi sc A (nI an, ac') m (nI w) (nI t) br).1 (∃ B, gd pp (nI many) cg ch rf c c1 c2 c3 c4 obi sc A B ∧ ¬ B = A) := by
    intro e
    induction e with
    | zero =>
      intro m w t br h1 hm1 ht hin hco
      obtain ⟨m, rfl⟩ : ∃ q, m = q + 1 := ⟨m - 1, by omega⟩
      have hw : w = 0 := by
        cases w with
        | zero => rfl
        | succ w =>
          have h2 : mu br w + 3 ^ (6 - cn (bt (br w))) ≤ 0 := h1
          have h3 : 0 < 3 ^ (6 - cn (bt (br w))) := Nat.pow_pos (by omega)
          omega
      subst hw
      rw [m_k_X9_hasSmaller_21_succ, m_k_X9_hasSmaller_21s, if_pos (show nI 0 ≤ 0 by decide)]
      exact tv.zero fun ⟨B, hB, hne⟩ => by
        obtain ⟨i, hi, -⟩ := hco B hB hne
        omega
    | succ e ih =>
      intro m w t br h1 hm1 ht hin hco
      obtain ⟨m, rfl⟩ : ∃ q, m = q + 1 := ⟨m - 1, by omega⟩
      cases w with
      | zero =>
        rw [m_k_X9_hasSmaller_21_succ, m_k_X9_hasSmaller_21s, if_pos (show nI 0 ≤ 0 by decide)]
        exact tv.zero fun ⟨B, hB, hne⟩ => by
          obtain ⟨i, hi, -⟩ := hco B hB hne
          omega
      | succ w =>
        have hw6 := (hin w (by omega)).2
        have hw7 := cn_le (bt (br w))
        have hmu : mu br (w + 1) = mu br w + 3 ^ (6 - cn (bt (br w))) := rfl
        have hpw : 0 < 3 ^ (6 - cn (bt (br w))) := Nat.pow_pos (by omega)
        obtain ⟨cur, eg, g1, g2, g3, g4⟩ := k_grow (pp := pp) (rf := rf) (show c ≤ 300 by omega) hl ch cg (nI many) c1 c2 c3 c4 obi sc A (vS_sm hA) (gd pp (nI many) cg ch rf c c1 c2 c3 c4 obi sc A) hgood (br w) (hin w (by omega)).1
        have hsp := k_split (pp := pp) (rf := rf) (show c ≤ 300 by omega) hl ch cg (nI many) c1 c2 c3 c4 obi sc cur A
        rw [m_k_X9_hasSmaller_21_succ, m_k_X9_hasSmaller_21s, if_neg (by rw [show (0 : Int32) = nI 0 from rfl, kI_le (by omega) (by omega)]; omega), if_neg (by rw [show (26 : Int32) = nI 26 from rfl, kI_le (by omega) (by omega)]; omega), if_neg (by rw [show (1000000 : Int32) = nI 1000000 from rfl, kI_le (by omega) (by omega)]; omega)]
        dsimp only
        rw [lE, nI_m1, kI_nat (by omega), eg, lE]
        rcases hsp with ⟨s1, s2⟩ | ⟨j, hj, hact, s1, s2, s3, s4⟩
        · rw [if_pos s1]
          have hgd : gd pp (nI many) cg ch rf c c1 c2 c3 c4 obi sc A cur := ⟨g2, fun j hj ha hb => ⟨fun e1 e2 => hb (s2 j hj ha e1 e2), fun e1 => g4 j hj ha (fun e2 => absurd e2 e1) hb⟩⟩
          by_cases d1 : cur = A
          · rw [if_pos d1, m_k_X9_hasSmaller_130, kI_s]
            refine ih m w (t + 1) br (by omega) (by omega) (by omega) (fun i hi => hin i (by omega)) fun B hB hne => ?_
            obtain ⟨i, hi, hib⟩ := hco B hB hne
            rcases (show i = w ∨ i < w by omega) with rfl | g
            · refine absurd (b_ext fun b _ => ?_) hne
              rw [Bool.eq_iff_iff]
              exact ⟨hB.1 b, fun hb => g3 B hB hib b (by rw [d1]; exact hb)⟩
            · exact ⟨i, g, hib⟩
          · rw [if_neg d1]
            exact tv.one ⟨cur, hgd, d1⟩
        · rw [s4]
          have hx : ¬ c4 j &&& A = 0 := hact.1
          have hsm : sm (c4 j &&& A) := fun i hi => by rw [b_and, vS_sm hA i hi]; exact Bool.and_false _
          have hunf : ¬ (c4 j &&& A) &&& ((c4 j &&& A) - 1) = 0 := fun e0 => by
            have h5 := b_in3.mp (g4 j hj hact (fun _ => e0) s3)
            obtain ⟨b, i1, i2⟩ := b_some.mp hx
            exact absurd s2 (b_some3.mpr ⟨b, i1, i2, h5 b i1 i2⟩)
          obtain ⟨i, k2, b1, b2, b3, b4, b5⟩ := sp_all hsm (two j hj) hunf
          have inA : ∀ b, bt (c4 j &&& A) b = true → bt A b = true ∧ bt cur b = false ∧ bt (c4 j) b = true := fun b hb => by
            have hcu : bt cur b = false := by
              cases hc0 : bt cur b with
              | false => rfl
              | true =>
                have : bt ((c4 j &&& A) &&& cur) b = true := by rw [b_and, hb, hc0]; rfl
                rw [s2, b_0] at this
                cases this
            rw [b_and] at hb
            have g := (Bool.and_eq_true _ _).mp hb
            exact ⟨g.2, hcu, g.1⟩
          rw [if_neg hx, if_neg (by rw [kI_s, show (26 : Int32) = nI 26 from rfl, kI_le (by omega) (by omega)]; omega), kI_s w, kI_nat (by omega), m_k_X9_hasSmaller_130, kI_s, show nI w + 2 = nI (w + 2) by rw [← kI_s (w + 1), ← kI_s w, Int32.add_assoc]; rfl]
          generalize hlo : (c4 j &&& A) &&& (-(c4 j &&& A)) = lo at b3 b4 ⊢
          generalize hre : (c4 j &&& A) &&& (lo ^^^ (-1)) = re at b4 ⊢
          have add : ∀ y i, bt (c4 j &&& A) i = true → (∀ b, bt y b = true ↔ b = i) → bs (cur ||| y) A ∧ cn (bt cur) < cn (bt (cur ||| y)) := fun y i hi hy => by
            obtain ⟨i1, i2, -⟩ := inA i hi
            refine ⟨fun b hb => ?_, cn_lt (f := bt cur) (g := bt (cur ||| y)) (j := i) (fun b _ hb => by rw [b_or, hb]; rfl) (sm_lt hsm hi) i2 (by rw [b_or, (hy i).mpr rfl]; exact Bool.or_true _)⟩
            rw [b_or, Bool.or_eq_true] at hb
            rcases hb with hb | hb
            · exact g2 b hb
            · rw [(hy b).mp hb]
              exact i1
          obtain ⟨l1, l2⟩ := add lo i b1 b3
          obtain ⟨r1, r2⟩ := add re k2 b2 b4
          obtain ⟨t1, t2⟩ := tri (c := c) hin g1 l1 r1 l2 r2
          refine ih m (w + 2) (t + 1) _ (by omega) (by omega) (by omega) t1 fun B hB hne => ?_
          obtain ⟨i0, hi0, hib⟩ := hco B hB hne
          rcases (show i0 = w ∨ i0 < w by omega) with rfl | g
          · have hcB := g3 B hB hib
            have ok := hB.2 j hj hact (k_up h (show k ≤ 10 by omega) hc hA hB.1 hj hact (fun _ e => e) hcB s3)
            obtain ⟨b, q1, q2, q3⟩ := b_some3.mp (ok.1 s1)
            rcases b5 b (by rw [b_and, q1, q2]; rfl) with rfl | rfl
            · refine ⟨i0, by omega, ?_⟩
              rw [uu_else _ _ (by omega), uu_same]
              intro b' hb'
              rw [b_or, Bool.or_eq_true] at hb'
              rcases hb' with hb' | hb'
              · exact hcB b' hb'
              · rw [(b3 b').mp hb']
                exact q3
            · refine ⟨i0 + 1, by omega, ?_⟩
              rw [uu_same]
              intro b' hb'
              rw [b_or, Bool.or_eq_true] at hb'
              rcases hb' with hb' | hb'
              · exact hcB b' hb'
              · rw [(b4 b').mp hb']
                exact q3
          · refine ⟨i0, by omega, ?_⟩
            rw [uu_else _ _ (by omega), uu_else _ _ (by omega)]
            exact hib
  have hb0 : ∀ i, bt (A &&& 0) i = false := fun i => by rw [b_and, b_0]; exact Bool.and_false _
  unfold m_k_X9_hasSmaller
  rw [lE, el]
  refine (key 729 wF 1 0 _ ?_ (by rw [hm0]; omega) (by omega) (fun i hi => ?_) fun B hB hne => ⟨0, by omega, fun b hb => ?_⟩).iff ?_
  · show 0 + 3 ^ (6 - cn (bt (upd br 0 (A &&& 0) 0))) ≤ 729
    rw [uu_same]
    have : 3 ^ (6 - cn (bt (A &&& 0))) ≤ 3 ^ 6 := Nat.pow_le_pow_right (by omega) (by omega)
    omega
  · have hi0 : i = 0 := by omega
    subst hi0
    refine ⟨fun b hb => ?_, Nat.zero_le _⟩
    rw [show upd br ((0 : Int32).toNatClampNeg) (A &&& 0) 0 = A &&& 0 from uu_same _ _ _, hb0] at hb
    cases hb
  · rw [show upd br ((0 : Int32).toNatClampNeg) (A &&& 0) 0 = A &&& 0 from uu_same _ _ _, hb0] at hb
    cases hb
  · rw [enough_s h hg hA]
    constructor
    · rintro ⟨B, hB, hne⟩
      exact ⟨B, vS_sub hA hB.1, hB.1, hne, (k_okE h hg hc hB.1 hcl).mp hB.2⟩
    · rintro ⟨s, hv, h1, h2, hE⟩
      exact ⟨s, ⟨h1, (k_okE h hg hc h1 hcl).mpr hE⟩, h2⟩
end HT
