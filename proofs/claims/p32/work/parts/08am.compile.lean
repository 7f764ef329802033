/-! the pure argument, 13: what the solver compiles -/
section CP
variable {pp : pT} {n many : Nat} {rf gf : Nat → Option Nat}
def nS (pp : pT) (gf : Nat → Option Nat) (S : Nat → Bool) (r : Nat) : Nat := cn (fun p => zM pp gf 1 r p && S p)
/-- a row of the checks -/
def ckR (pp : pT) (gf : Nat → Option Nat) (many : Nat) (S Po : Nat → Bool) (r : Nat) (x1 x2 x3 x4 x5 x6 : Int32) : Prop := rwB pp gf many S Po r x1 x2 x3 ∧ ¬ zK pp gf r = 119 ∧ cM (oO S Po) (zM pp gf 1 r) x4 ∧ x5.toInt = (if zK pp gf r = 100 then 1 else (zI pp gf 2 r).toInt) - (nS pp gf S r : Int) ∧ x6.toInt = (if zK pp gf r = 100 then 2 else (zI pp gf 3 r).toInt - (nS pp gf S r : Int)) ∧ (zK pp gf r = 100 → nS pp gf S r = 0)
/-- an instance without a row of its own: no set breaks it -/
def hrm (pp : pT) (gf : Nat → Option Nat) (S Po : Nat → Bool) (r : Nat) : Prop := (∃ p, zM pp gf 4 r p = true ∧ zM pp gf 5 r p = true) ∨ zK pp gf r = 100 ∧ (∃ p, zM pp gf 1 r p = true ∧ S p = true) ∨ ¬ zK pp gf r = 100 ∧ (∀ p, zM pp gf 1 r p = true → oO S Po p = false) ∧ (zI pp gf 2 r).toInt - (nS pp gf S r : Int) ≤ 0 ∧ 0 ≤ (zI pp gf 3 r).toInt - (nS pp gf S r : Int)
def CK (pp : pT) (gf : Nat → Option Nat) (many : Nat) (S Po : Nat → Bool) (q : Nat → Nat) (i c : Nat) (c1 c2 c3 c4 c5 c6 : Nat → Int32) : Prop := c ≤ i ∧ (∀ j, j < c → ∃ r, ckR pp gf many S Po r (c1 j) (c2 j) (c3 j) (c4 j) (c5 j) (c6 j)) ∧ ∀ j, j < i → ¬ zK pp gf (q j) = 119 → (∃ l, l < c ∧ c1 l = nI (q j)) ∨ hrm pp gf S Po (q j)
def WK (pp : pT) (gf : Nat → Option Nat) (many : Nat) (S Po : Nat → Bool) (q : Nat → Nat) (i w : Nat) (w1 w2 w3 : Nat → Int32) : Prop := w ≤ i ∧ (∃ rw : Nat → Nat, (∀ j, j < w → rwB pp gf many S Po (rw j) (w1 j) (w2 j) (w3 j) ∧ zK pp gf (rw j) = 119 ∧ ∃ l, l < i ∧ rw j = q l) ∧ (∀ j j2, j < j2 → j2 < w → rw j < rw j2) ∧ ∀ j, j < i → zK pp gf (q j) = 119 → (∃ l, l < w ∧ rw l = q j) ∨ ∃ p, zM pp gf 4 (q j) p = true ∧ zM pp gf 5 (q j) p = true)
theorem uu_same (f : Nat → Int32) (k : Nat) (x : Int32) : upd f k x k = x := if_pos rfl
theorem uu_else (f : Nat → Int32) {k j : Nat} (x : Int32) (h : ¬ j = k) : upd f k x j = f j := if_neg h
theorem r_add {c : Nat} (hc : c < 300) (c1 c2 c3 c4 c5 c6 : Nat → Int32) (x1 x2 x3 : Int32) : m_k_X7_add (nI c) c1 c2 c3 c4 c5 c6 x1 x2 x3 = (nI (c + 1), upd c1 c x1, upd c2 c x2, upd c3 c x3, upd c4 c 0, upd c5 c 0, upd c6 c 0) := by
  unfold m_k_X7_add
  rw [if_neg (by rw [show (0 : Int32) = nI 0 from rfl, kI_lt (by omega) (by omega)]; omega), if_neg (by rw [show (300 : Int32) = nI 300 from rfl, kI_le (by omega) (by omega)]; omega), kI_nat (by omega), kI_s]
theorem r_bound {c : Nat} (hc : c < 300) (c4 c5 c6 : Nat → Int32) (x4 x5 x6 : Int32) : m_k_X7_boundLast (nI (c + 1)) c4 c5 c6 x4 x5 x6 = (upd c4 c x4, upd c5 c x5, upd c6 c x6) := by
  unfold m_k_X7_boundLast
  rw [nI_pred, if_neg (by rw [show (0 : Int32) = nI 0 from rfl, kI_lt (by omega) (by omega)]; omega), if_neg (by rw [show (300 : Int32) = nI 300 from rfl, kI_le (by omega) (by omega)]; omega), kI_nat (by omega)]
theorem CK_row {S Po : Nat → Bool} {q : Nat → Nat} {i c : Nat} {c1 c2 c3 c4 c5 c6 : Nat → Int32} (h : CK pp gf many S Po q i c c1 c2 c3 c4 c5 c6) {x2 x3 x4 x5 x6 : Int32} (hr : ckR pp gf many S Po (q i) (nI (q i)) x2 x3 x4 x5 x6) : CK pp gf many S Po q (i + 1) (c + 1) (upd c1 c (nI (q i))) (upd c2 c x2) (upd c3 c x3) (upd c4 c x4) (upd c5 c x5) (upd c6 c x6) := by
  obtain ⟨h1, h2, h3⟩ := h
  refine ⟨by omega, fun j hj => ?_, fun j hj hk => ?_⟩
  · by_cases e : j = c
    · subst e
      simp only [uu_same]
      exact ⟨_, hr⟩
    · simp only [uu_else _ _ e]
      exact h2 j (by omega)
  · rcases (show j = i ∨ j < i by omega) with rfl | g
    · exact Or.inl ⟨c, by omega, uu_same _ _ _⟩
    · rcases h3 j g hk with ⟨l, g1, g2⟩ | g1
      · exact Or.inl ⟨l, by omega, by rw [uu_else _ _ (by omega)]; exact g2⟩
      · exact Or.inr g1
theorem CK_none {S Po : Nat → Bool} {q : Nat → Nat} {i c : Nat} {c1 c2 c3 c4 c5 c6 : Nat → Int32} (h : CK pp gf many S Po q i c c1 c2 c3 c4 c5 c6) (hr : ¬ zK pp gf (q i) = 119 → hrm pp gf S Po (q i)) : CK pp gf many S Po q (i + 1) c c1 c2 c3 c4 c5 c6 := by
  obtain ⟨h1, h2, h3⟩ := h
  refine ⟨by omega, h2, fun j hj hk => ?_⟩
  rcases (show j = i ∨ j < i by omega) with rfl | g
  · exact Or.inr (hr hk)
  · exact h3 j g hk
theorem WK_row {S Po : Nat → Bool} {q : Nat → Nat} {i w : Nat} {w1 w2 w3 : Nat → Int32} (h : WK pp gf many S Po q i w w1 w2 w3) (hq : ∀ l, l < i → q l < q i) {x2 x3 : Int32} (hr : rwB pp gf many S Po (q i) (nI (q i)) x2 x3) (hk : zK pp gf (q i) = 119) : WK pp gf many S Po q (i + 1) (w + 1) (upd w1 w (nI (q i))) (upd w2 w x2) (upd w3 w x3) := by
  obtain ⟨h1, rw, h2, h3, h4⟩ := h
  refine ⟨by omega, fun j => if j < w then rw j else q i, fun j hj => ?_, fun j j2 hj hj2 => ?_, fun j hj hk' => ?_⟩
  · by_cases e : j = w
    · subst e
      simp only [uu_same]
      rw [if_neg (by omega)]
      exact ⟨hr, hk, i, by omega, rfl⟩
    · simp only [uu_else _ _ e]
      rw [if_pos (by omega)]
      obtain ⟨g1, g2, l, g3, g4⟩ := h2 j (by omega)
      exact ⟨g1, g2, l, by omega, g4⟩
  · by_cases e : j2 < w
    · dsimp only
      rw [if_pos (by omega), if_pos e]
      exact h3 j j2 hj e
    · dsimp only
      rw [if_neg e, if_pos (by omega)]
      obtain ⟨-, -, l, g3, g4⟩ := h2 j (by omega)
      rw [g4]
      exact hq l g3
  · rcases (show j = i ∨ j < i by omega) with rfl | g
    · exact Or.inl ⟨w, by omega, if_neg (by omega)⟩
    · rcases h4 j g hk' with ⟨l, g1, g2⟩ | g1
      · exact Or.inl ⟨l, by omega, (if_pos g1).trans g2⟩
      · exact Or.inr g1
theorem WK_none {S Po : Nat → Bool} {q : Nat → Nat} {i w : Nat} {w1 w2 w3 : Nat → Int32} (h : WK pp gf many S Po q i w w1 w2 w3) (hr : zK pp gf (q i) = 119 → ∃ p, zM pp gf 4 (q i) p = true ∧ zM pp gf 5 (q i) p = true) : WK pp gf many S Po q (i + 1) w w1 w2 w3 := by
  obtain ⟨h1, rw, h2, h3, h4⟩ := h
  refine ⟨by omega, rw, fun j hj => ?_, h3, fun j hj hk => ?_⟩
  · obtain ⟨g1, g2, l, g3, g4⟩ := h2 j hj
    exact ⟨g1, g2, l, by omega, g4⟩
  · rcases (show j = i ∨ j < i by omega) with rfl | g
    · exact Or.inr (hr hk)
    · exact h4 j g hk
theorem cM_cong {O M M' : Nat → Bool} {x : Int32} (h : cM O M x) (e : ∀ p, p < 6 → O p = true → M p = M' p) : cM O M' x := fun j => by
  rw [h j]
  constructor
  · rintro ⟨p, g1, g2, g3, g4⟩
    exact ⟨p, g1, g2, by rw [← e p g1 g2]; exact g3, g4⟩
  · rintro ⟨p, g1, g2, g3, g4⟩
    exact ⟨p, g1, g2, by rw [e p g1 g2]; exact g3, g4⟩
/-- the heads' bits and how many heads are sure -/
theorem k_heads {S Po : Nat → Bool} {oa ob : Nat → Int32} (ho : oN (oO S Po) oa ob) {hds : Nat → Int32} {r k : Nat} (hl : hL pp (zR gf r) hds k) (hP : ∀ p, zM pp gf 1 r p = true → Po p = true) {a0 : Nat} {c1 c2 c3 c4 c5 c6 : Nat → Int32} {c0 a1 a2 a3 : Int32} {t5 : r_k_X3_listHeads} (e5 : t5.2.1 = hds) (e6 : t5.2.2.1 = nI k) : ∃ x, cM (oO S Po) (zM pp gf 1 r) x ∧ m_k_X9_compileHeads_18 pp (nI (rk (oO S Po) 6)) ob c0 c1 c2 c3 c4 c5 c6 a0 a1 a2 a3 t5 wF 0 0 0 = if pI pp a0 0 = 100 then m_k_X9_compileHeads_90 pp c0 c1 c2 c3 c4 c5 c6 a0 a1 a2 a3 t5 x (nI (nS pp gf S r)) 1 else m_k_X9_compileHeads_90 pp c0 c1 c2 c3 c4 c5 c6 a0 a1 a2 a3 t5 x (nI (nS pp gf S r)) (pI pp a0 2) := by
  have hk2 := hl.1
  obtain ⟨m0, hm0⟩ := wF_ge
  have key : ∀ d m i (x : Int32) (M : Nat → Bool), k - i = d → d < m → i ≤ k → cM (oO S Po) M x → (∀ p, M p = true ↔ ∃ j, j < i ∧ hds j = nI (64 * p) ∧ p < 6) → ∃ y, cM (oO S Po) (zM pp gf 1 r) y ∧ m_k_X9_compileHeads_18 pp (nI (rk (oO S Po) 6)) ob c0 c1 c2 c3 c4 c5 c6 a0 a1 a2 a3 t5 m x (nI (cn (fun p => M p && S p))) (nI i) = if pI pp a0 0 = 100 then m_k_X9_compileHeads_90 pp c0 c1 c2 c3 c4 c5 c6 a0 a1 a2 a3 t5 y (nI (nS pp gf S r)) 1 else m_k_X9_compileHeads_90 pp c0 c1 c2 c3 c4 c5 c6 a0 a1 a2 a3 t5 y (nI (nS pp gf S r)) (pI pp a0 2) := by
    intro d
    induction d with
    | zero =>
      intro m i x M hd hm hi hx hM
      obtain ⟨m, rfl⟩ : ∃ q, m = q + 1 := ⟨m - 1, by omega⟩
      have hik : i = k := by omega
      subst hik
      have e : M = zM pp gf 1 r := funext fun p => by
        rw [Bool.eq_iff_iff, hM p]
        constructor
        · rintro ⟨j, g1, g2, g3⟩
          obtain ⟨p', h1, h2, h3⟩ := hl.2.1 j g1
          rw [h2, kI_eq (by omega) (by omega)] at g2
          rw [show p = p' by omega]
          exact h3
        · intro g
          obtain ⟨g1, j, g2, g3⟩ := hl.2.2.2 p g
          exact ⟨j, g2, g3, g1⟩
      subst e
      refine ⟨x, hx, ?_⟩
      rw [m_k_X9_compileHeads_18_succ, m_k_X9_compileHeads_18s, e6, if_pos (Int32.le_refl _)]
      rfl
    | succ d ih =>
      intro m i x M hd hm hi hx hM
      obtain ⟨m, rfl⟩ : ∃ q, m = q + 1 := ⟨m - 1, by omega⟩
      obtain ⟨p, hp, hpe, hpb⟩ := hl.2.1 i (by omega)
      have hMp : M p = false := by
        cases hb : M p with
        | false => rfl
        | true =>
          obtain ⟨j, g1, g2, -⟩ := (hM p).mp hb
          exact absurd (g2.trans hpe.symm) (hl.2.2.1 j i g1 (by omega))
      rw [m_k_X9_compileHeads_18_succ, m_k_X9_compileHeads_18s, e6, e5, if_neg (by rw [kI_le (by omega) (by omega)]; omega), lE, s_headAt (by omega), hpe, lE]
      have hM' : ∀ p', (M p' || decide (p' = p)) = true ↔ ∃ j, j < i + 1 ∧ hds j = nI (64 * p') ∧ p' < 6 := fun p' => by
        rw [Bool.or_eq_true, hM p', decide_eq_true_iff]
        constructor
        · rintro (⟨j, g1, g2, g3⟩ | rfl)
          · exact ⟨j, by omega, g2, g3⟩
          · exact ⟨i, by omega, hpe, hp⟩
        · rintro ⟨j, g1, g2, g3⟩
          rcases (show j = i ∨ j < i by omega) with rfl | g
          · rw [hpe, kI_eq (by omega) (by omega)] at g2
            exact Or.inr (by omega)
          · exact Or.inl ⟨j, g, g2, g3⟩
      have hor := cM_or ho hx hp
      have ecn : ∀ b : Bool, S p = b → nI (cn (fun q => M q && S q)) + (if b then 1 else 0) = nI (cn (fun q => (M q || decide (q = p)) && S q)) := fun b hb => by
        have e1 : cn (fun q => (M q || decide (q = p)) && S q) = cn (fun q => M q && S q) + b.toNat := by
          have h0 : ∀ q, ((M q || decide (q = p)) && S q).toNat = (M q && S q).toNat + (b && decide (q = p)).toNat := fun q => by
            by_cases e : q = p
            · subst e
              rw [hMp, hb, decide_eq_true rfl]
              cases b <;> rfl
            · rw [decide_eq_false e]
              cases M q <;> cases S q <;> cases b <;> rfl
          have h1 : cn (fun q => b && decide (q = p)) = b.toNat := cn_one (fun _ => b) hp
          unfold cn at h1 ⊢
          dsimp only at h1 ⊢
          rw [h0 0, h0 1, h0 2, h0 3, h0 4, h0 5]
          omega
        rw [e1]
        cases b with
        | true => exact kI_s _
        | false => exact Int32.add_zero _
      have hbit := c_bitOf ho hp
      by_cases c : m_k_X9_bitOf (nI (rk (oO S Po) 6)) ob (nI (64 * p)) = 0
      · rw [if_pos c, m_k_X9_compileHeads_64, kI_s i]
        have hO : oO S Po p = false := by
          cases hO : oO S Po p with
          | false => rfl
          | true =>
            rw [hbit, hO, if_pos rfl] at c
            have h1 := pos_lt hp hO
            have h2 := rk6 (oO S Po)
            have h3 : bt ((1 : Int32) <<< (nI (pos (oO S Po) p) &&& 31)) (pos (oO S Po) p) = true := by rw [b_one' (by omega)]; exact decide_eq_true rfl
            rw [c, b_0] at h3
            cases h3
        have hS : S p = true := by
          cases hS : S p with
          | true => rfl
          | false => rw [oO_of (hP p hpb) hS] at hO; cases hO
        have := ecn true hS
        rw [if_pos rfl] at this
        rw [this]
        exact ih m (i + 1) _ _ (by omega) (by omega) (by omega) hor hM'
      · rw [if_neg c, m_k_X9_compileHeads_64, kI_s i]
        have hO : oO S Po p = true := by
          cases hO : oO S Po p with
          | true => rfl
          | false => rw [hbit, hO] at c; exact absurd rfl c
        have := ecn false (oO_S hO).1
        rw [if_neg (by decide)] at this
        rw [this]
        exact ih m (i + 1) _ _ (by omega) (by omega) (by omega) hor hM'
  have h0 : cn (fun p => (fun _ => false : Nat → Bool) p && S p) = 0 := rfl
  have h := key (k - 0) wF 0 0 (fun _ => false) rfl (by rw [hm0]; omega) (Nat.zero_le _) (cM_0 _) (fun p => ⟨fun e => (by cases e), fun ⟨j, g, _⟩ => by omega⟩)
  rw [h0] at h
  exact h
theorem sub_ti {x : Int32} {k : Nat} (h1 : -100 ≤ x.toInt) (h2 : x.toInt ≤ 100) (hk : k ≤ 6) : (x - nI k).toInt = x.toInt - (k : Int) := by
  rw [wi_sub (by rw [kI_ti (by omega)]; omega) (by rw [kI_ti (by omega)]; omega), kI_ti (by omega)]
theorem nS_le (S : Nat → Bool) (r : Nat) : nS pp gf S r ≤ 6 := cn_le _
/-- an instance of a disjunction or a choice -/
theorem k_compHeads (h : prOK pp n rf gf many) {S Po : Nat → Bool} {oa ob : Nat → Int32} (ho : oN (oO S Po) oa ob) (su : Nat → Int64) {q : Nat → Nat} {i c : Nat} {c1 c2 c3 c4 c5 c6 : Nat → Int32} (hc : CK pp gf many S Po q i c c1 c2 c3 c4 c5 c6) (hi : i < 300) (hr : q i < many) (hP : ∀ p, zM pp gf 1 (q i) p = true → Po p = true) (hk : ¬ zK pp gf (q i) = 119) {x2 x3 : Int32} (hw : rwB pp gf many S Po (q i) (nI (q i)) x2 x3) (hds : Nat → Int32) (b1 b2 b3 bp : Int32) : ∃ hds' c' c1' c2' c3' c4' c5' c6' hn' , m_k_X9_compileHeads pp (nI (rk (oO S Po) 6)) b1 b2 b3 bp su hds ob (nI c) c1 c2 c3 c4 c5 c6 (rA rf (q i)) (nI (q i)) x2 x3 = (hds', nI c', c1', c2', c3', c4', c5', c6', hn', b3) ∧ CK pp gf many S Po q (i + 1) c' c1' c2' c3' c4' c5' c6' := by
  obtain ⟨-, hh, cc, hrr⟩ := h.2 (q i) hr
  obtain ⟨-, -, -, -, -, -, -, -, -, z2l, z2u, z3l, z3u⟩ := h.1.at hr
  have hkd := p_kind h hr
  have hcl := hc.1
  have hs6 := nS_le (pp := pp) (gf := gf) S (q i)
  obtain ⟨hds', k, e, hl⟩ := r_listHeads hrr su hds b1 b2 b3 bp
  unfold m_k_X9_compileHeads
  rw [lE, e]
  obtain ⟨x, hx, e2⟩ := k_heads (gf := gf) (r := q i) ho hl hP (a0 := rA rf (q i)) (c1 := c1) (c2 := c2) (c3 := c3) (c4 := c4) (c5 := c5) (c6 := c6) (c0 := nI c) (a1 := nI (q i)) (a2 := x2) (a3 := x3) (t5 := (1, hds', nI k, b3)) rfl rfl
  rw [e2]
  have add : (zK pp gf (q i) = 100 → nS pp gf S (q i) = 0) → ∀ x5 x6 : Int32, (x5 - nI (nS pp gf S (q i))).toInt = (if zK pp gf (q i) = 100 then 1 else (zI pp gf 2 (q i)).toInt) - (nS pp gf S (q i) : Int) → x6.toInt = (if zK pp gf (q i) = 100 then 2 else (zI pp gf 3 (q i)).toInt - (nS pp gf S (q i) : Int)) → ∃ hdz c' c1' c2' c3' c4' c5' c6' hn', m_k_X9_compileHeads_159 (nI c) c1 c2 c3 c4 c5 c6 (nI (q i)) x2 x3 x6 x5 (1, hds', nI k, b3) x (nI (nS pp gf S (q i))) 0 = (hdz, nI c', c1', c2', c3', c4', c5', c6', hn', b3) ∧ CK pp gf many S Po q (i + 1) c' c1' c2' c3' c4' c5' c6' := fun h7 x5 x6 h5 h6 => by
    refine ⟨hds', c + 1, _, _, _, _, _, _, nI k, ?_, CK_row hc (x2 := x2) (x3 := x3) (x4 := x) (x5 := x5 - nI (nS pp gf S (q i))) (x6 := x6) ⟨hw, hk, hx, h5, h6, h7⟩⟩
    unfold m_k_X9_compileHeads_159
    rw [if_pos rfl, lE, r_add (by omega), lE]
    dsimp only
    rw [r_bound (by omega)]
    have uu : ∀ (f : Nat → Int32) (a b : Int32), upd (upd f c a) c b = upd f c b := fun f a b => funext fun j => by
      unfold upd
      split <;> rfl
    rw [uu, uu, uu]
  have none' : hrm pp gf S Po (q i) → ∀ x6 x5, ∃ hdz c' c1' c2' c3' c4' c5' c6' hn', m_k_X9_compileHeads_159 (nI c) c1 c2 c3 c4 c5 c6 (nI (q i)) x2 x3 x6 x5 (1, hds', nI k, b3) x (nI (nS pp gf S (q i))) 1 = (hdz, nI c', c1', c2', c3', c4', c5', c6', hn', b3) ∧ CK pp gf many S Po q (i + 1) c' c1' c2' c3' c4' c5' c6' := fun hh x6 x5 => by
    refine ⟨hds', c, c1, c2, c3, c4, c5, c6, nI k, ?_, CK_none hc fun _ => hh⟩
    unfold m_k_X9_compileHeads_159
    rw [if_neg (by decide)]
  by_cases k1 : pI pp (rA rf (q i)) 0 = 100
  · have k1' : zK pp gf (q i) = 100 := hkd.trans k1
    rw [if_pos k1]
    unfold m_k_X9_compileHeads_90
    rw [if_pos k1]
    unfold m_k_X9_compileHeads_115
    rw [if_pos k1]
    by_cases k2 : nI (nS pp gf S (q i)) ≤ 0
    · rw [if_pos k2]
      refine add (fun _ => by
        have g := Int32.le_iff_toInt_le.mp k2
        rw [kI_ti (by omega), show (0 : Int32).toInt = 0 from rfl] at g
        omega) 1 2 ?_ ?_
      · rw [if_pos k1', sub_ti (by decide) (by decide) hs6]
        rfl
      · rw [if_pos k1']
        rfl
    · rw [if_neg k2]
      refine none' (Or.inr (Or.inl ⟨k1', ?_⟩)) 2 1
      have g := Int32.lt_iff_toInt_lt.mp (Int32.not_le.mp k2)
      rw [kI_ti (by omega), show (0 : Int32).toInt = 0 from rfl] at g
      obtain ⟨p, -, g2⟩ := cn_pos.mp (show 0 < nS pp gf S (q i) by omega)
      have g3 := (Bool.and_eq_true _ _).mp g2
      exact ⟨p, g3.1, g3.2⟩
  · have k1' : ¬ zK pp gf (q i) = 100 := fun e => k1 (hkd.symm.trans e)
    have k9 : pI pp (rA rf (q i)) 0 = 99 := by
      rcases hrr.2.1 with g | g | g
      · exact absurd g k1
      · exact g
      · exact absurd (hkd.trans g) hk
    obtain ⟨l2, l3⟩ := hrr.2.2.2.2.2.1 k9
    rw [if_neg k1]
    unfold m_k_X9_compileHeads_90
    rw [if_neg k1]
    unfold m_k_X9_compileHeads_115
    rw [if_neg k1, l2, l3]
    have t2 : (pI pp (zR gf (q i)) 2 - nI (nS pp gf S (q i))).toInt = (if zK pp gf (q i) = 100 then 1 else (zI pp gf 2 (q i)).toInt) - (nS pp gf S (q i) : Int) := by
      rw [if_neg k1', sub_ti (by omega) (by omega) hs6]
      rfl
    have t3 : (pI pp (zR gf (q i)) 3 - nI (nS pp gf S (q i))).toInt = (if zK pp gf (q i) = 100 then 2 else (zI pp gf 3 (q i)).toInt - (nS pp gf S (q i) : Int)) := by
      rw [if_neg k1', sub_ti (by omega) (by omega) hs6]
      rfl
    have go := add (fun e => absurd e k1') _ _ t2 t3
    unfold m_k_X9_compileHeads_158
    by_cases k2 : x = 0
    · rw [if_pos k2]
      by_cases k3 : 0 < pI pp (zR gf (q i)) 2 - nI (nS pp gf S (q i))
      · rw [if_pos k3]; exact go
      · rw [if_neg k3]
        by_cases k4 : pI pp (zR gf (q i)) 3 - nI (nS pp gf S (q i)) < 0
        · rw [if_pos k4]; exact go
        · rw [if_neg k4]
          refine none' (Or.inr (Or.inr ⟨k1', fun p hp => ?_, ?_, ?_⟩)) _ _
          · cases hO : oO S Po p with
            | false => rfl
            | true =>
              have hp6 : p < 6 := by
                by_cases g : p < 6
                · exact g
                · have := (h.1.at hr).2.2.2.2.1 p (by omega)
                  rw [show bt (pI pp (zR gf (q i)) 1) p = true from hp] at this
                  cases this
              have := (hx (pos (oO S Po) p)).mpr ⟨p, hp6, hO, hp, rfl⟩
              rw [k2, b_0] at this
              cases this
          · have g := Int32.le_iff_toInt_le.mp (Int32.not_lt.mp k3)
            rw [t2, if_neg k1', show (0 : Int32).toInt = 0 from rfl] at g
            exact g
          · have g := Int32.le_iff_toInt_le.mp (Int32.not_lt.mp k4)
            rw [t3, if_neg k1', show (0 : Int32).toInt = 0 from rfl] at g
            exact g
    · rw [if_neg k2]; exact go
end CP
