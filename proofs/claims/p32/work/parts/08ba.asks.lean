/-! the pure argument, 29: what is asked of answers, one by one -/
section AK
variable {pp : pT} {n many : Nat} {rf gf : Nat → Option Nat}
theorem lE_of {α β : Type} {x t : α} (h : x = t) (f : α → β) : lE x f = f t := by
  rw [h]
  rfl
theorem a_set {i : Nat} (hi : i < 64) (sf : Nat → Int32) : m_k_X0_setAt sf (nI i) = sf i := by
  unfold m_k_X0_setAt
  rw [if_neg (r64 hi).1, if_neg (r64 hi).2, kI_nat (by omega)]
theorem a_ck : m_k_X10_checkWalk 1 = 0 := by
  unfold m_k_X10_checkWalk
  exact if_neg (by decide)
theorem a_chk {c : Nat} (hc : c ≤ 64) (sf : Nat → Int32) {i : Nat} (hi : i < c) : m_k_X10_checkedAnswer (nI c) 1 sf (nI i) = (0, sf i) := by
  unfold m_k_X10_checkedAnswer
  rw [lE_of a_ck, if_pos rfl, if_neg (r64 (by omega)).1, if_pos (by rw [kI_lt (by omega) (by omega)]; omega), lE_of (a_set (by omega) sf)]
theorem a_chkN {c : Nat} (hc : c ≤ 64) (sf : Nat → Int32) : m_k_X10_checkedAnswer (nI c) 1 sf (nI c) = (1, 0) := by
  unfold m_k_X10_checkedAnswer
  rw [lE_of a_ck, if_pos rfl, if_neg (by rw [show (0 : Int32) = nI 0 from rfl, kI_lt (by omega) (by omega)]; omega), if_neg (by rw [kI_lt (by omega) (by omega)]; omega)]
  rfl
theorem q6_out {c : Nat} (hc : c ≤ 64) (su : Nat → Int64) (sf : Nat → Int32) : m_k_L_ask_6 su (nI c) 1 sf (nI c) = (-2001) := by
  unfold m_k_L_ask_6 m_k_L_asked_6 m_k_X10_size
  rw [lE_of (a_chkN hc sf)]
  rfl
theorem a_has {p : Nat} (hn : n ≤ 6) (hp : p < n) : m_k_X6_hasPredicate (nI n) (nI p) = 1 := by
  unfold m_k_X6_hasPredicate
  rw [if_neg (by rw [show (0 : Int32) = nI 0 from rfl, kI_lt (by omega) (by omega)]; omega), if_neg (by rw [kI_le (by omega) (by omega)]; omega), if_neg (by rw [show (6 : Int32) = nI 6 from rfl, kI_le (by omega) (by omega)]; omega)]
theorem a_hasN (hn : n ≤ 6) : m_k_X6_hasPredicate (nI n) (nI n) = 0 := by
  unfold m_k_X6_hasPredicate
  rw [if_neg (by rw [show (0 : Int32) = nI 0 from rfl, kI_lt (by omega) (by omega)]; omega), if_pos (Int32.le_refl _)]
theorem at_mul : ∀ p, p < 6 → ((nI p * 64) + (0 * 8)) + 0 = nI (64 * p) := by decide
theorem a_atom {p : Nat} (hn : n ≤ 6) (hp : p < n) {pl : Nat → Int32} (hpl : pl p = 0) (x y : Int32) : m_k_X10_checkedAtom (nI n) pl (nI p) x y = (0, nI (64 * p)) := by
  have h2 : m_k_X6_placesOf (nI n) pl (nI p) = 0 := by
    unfold m_k_X6_placesOf
    rw [lE_of (a_has hn hp), if_neg (by decide), kI_nat (by omega), hpl]
  unfold m_k_X10_checkedAtom
  rw [lE_of (a_has hn hp), if_neg (by decide), lE_of h2, if_pos (by decide)]
  unfold m_k_X10_checkedAtom_44
  rw [if_pos (by decide)]
  unfold m_k_X10_checkedAtom_68
  rw [if_pos (by decide)]
  unfold m_k_X10_checkedAtom_82
  rw [if_pos (by decide)]
  unfold m_k_X10_checkedAtom_97
  rw [at_mul p (by omega)]
theorem a_atomN (hn : n ≤ 6) (pl : Nat → Int32) (x y : Int32) : m_k_X10_checkedAtom (nI n) pl (nI n) x y = (1, 0) := by
  unfold m_k_X10_checkedAtom
  rw [lE_of (a_hasN hn), if_pos rfl]
theorem q5_out (hn : n ≤ 6) {c : Nat} (hc : c ≤ 64) (pl : Nat → Int32) (on : Int32) (su : Nat → Int64) (ob sf : Nat → Int32) (x y : Int32) : m_k_L_ask_5 (nI n) pl on su ob (nI c) 1 sf 0 (nI n) x y = (-2001) := by
  unfold m_k_L_ask_5 m_k_L_asked_5 m_k_X10_has
  rcases (show c = 0 ∨ 0 < c by omega) with rfl | g
  · rw [lE_of (show m_k_X10_checkedAnswer (nI 0) 1 sf 0 = (1, 0) from a_chkN hc sf)]
    rfl
  · rw [lE_of (show m_k_X10_checkedAnswer (nI c) 1 sf 0 = (0, sf 0) from a_chk hc sf g)]
    dsimp only
    rw [if_pos rfl, lE_of (a_atomN hn pl x y)]
    rfl
theorem a_isIn {S Po : Nat → Bool} {su : Nat → Int64} (hs : ws6 su S) {oa ob : Nat → Int32} (ho : oN (oO S Po) oa ob) {p : Nat} (hp : p < 6) (s : Int32) : tv (m_k_X9_isIn (nI (rk (oO S Po) 6)) su ob s (nI (64 * p))) (bt (phi S Po s) p = true) := by
  have hc := s_cont hs hp
  unfold m_k_X9_isIn
  rw [lE]
  by_cases c1 : m_k_X1_contains su (nI (64 * p)) = 0
  · have hS : S p = false := by
      cases e : S p with
      | false => rfl
      | true => exact absurd e (hc.z.mp c1)
    rw [if_pos c1, lE, c_bitOf ho hp]
    cases hO : oO S Po p with
    | true =>
      rw [if_pos rfl, phi_O hp hO]
      have h6 := pos_lt hp hO
      have h7 := rk6 (oO S Po)
      have e : s &&& (1 : Int32) <<< (nI (pos (oO S Po) p) &&& 31) = 0 ↔ bt s (pos (oO S Po) p) = false := by
        rw [b_dis]
        constructor
        · intro g
          exact g _ (by rw [b_one' (by omega)]; exact decide_eq_true rfl)
        · intro g i hi
          rw [b_one' (by omega)] at hi
          rw [of_decide_eq_true hi]
          exact g
      by_cases c2 : s &&& (1 : Int32) <<< (nI (pos (oO S Po) p) &&& 31) = 0
      · rw [if_pos c2]
        exact tv.zero (by rw [e.mp c2]; exact Bool.false_ne_true)
      · rw [if_neg c2]
        refine tv.one ?_
        cases hb : bt s (pos (oO S Po) p) with
        | true => rfl
        | false => exact absurd (e.mpr hb) c2
    | false =>
      rw [if_neg Bool.false_ne_true, if_pos Int32.and_zero]
      exact tv.zero (by rw [phi_b S Po s hp, hS, hO]; exact Bool.false_ne_true)
  · rw [if_neg c1]
    exact tv.one (phi_S hp (hc.nz.mp c1))
theorem rk_c (f : Nat → Bool) (i : Nat) : nI (rk f i) + nI (f i).toNat = nI (rk f (i + 1)) := nI_add _ _
theorem rk_le' (O : Nat → Bool) (p : Nat) : rk O p ≤ p := rk_le O p
theorem a_with {S Po : Nat → Bool} {su : Nat → Int64} (hs : ws6 su S) {oa ob : Nat → Int32} (ho : oN (oO S Po) oa ob) {c : Nat} (hc : c ≤ 64) (sf : Nat → Int32) {p : Nat} (hp : p < 6) : m_k_X10_answersWith (nI (rk (oO S Po) 6)) su ob (nI c) sf (nI (64 * p)) = nI (rk (fun i => bt (phi S Po (sf i)) p) c) := by
  obtain ⟨m0, hm0⟩ := wF_ge
  have key : ∀ d m i, c - i = d → d < m → i ≤ c → m_k_X10_answersWith_4 (nI (rk (oO S Po) 6)) su ob (nI c) sf (nI (64 * p)) m (nI (rk (fun i => bt (phi S Po (sf i)) p) i)) (nI i) = nI (rk (fun i => bt (phi S Po (sf i)) p) c) := by
    intro d
    induction d with
    | zero =>
      intro m i hd hm hi
      obtain ⟨m, rfl⟩ : ∃ q, m = q + 1 := ⟨m - 1, by omega⟩
      have : i = c := by omega
      subst this
      rw [m_k_X10_answersWith_4_succ, m_k_X10_answersWith_4s, if_pos (Int32.le_refl _)]
    | succ d ih =>
      intro m i hd hm hi
      obtain ⟨m, rfl⟩ : ∃ q, m = q + 1 := ⟨m - 1, by omega⟩
      have hin := a_isIn (Po := Po) hs ho hp (sf i)
      rw [m_k_X10_answersWith_4_succ, m_k_X10_answersWith_4s, if_neg (by rw [kI_le (by omega) (by omega)]; omega), lE_of (a_set (by omega) sf), lE]
      by_cases c1 : m_k_X9_isIn (nI (rk (oO S Po) 6)) su ob (sf i) (nI (64 * p)) = 0
      · rw [if_pos c1, m_k_X10_answersWith_37, kI_s i, ← ih m (i + 1) (by omega) (by omega) (by omega)]
        congr 1
        rw [← rk_c]
        have : bt (phi S Po (sf i)) p = false := by
          cases e : bt (phi S Po (sf i)) p with
          | false => rfl
          | true => exact absurd e (hin.z.mp c1)
        rw [this]
        exact (Int32.add_zero _).symm
      · rw [if_neg c1, m_k_X10_answersWith_37, kI_s i, ← ih m (i + 1) (by omega) (by omega) (by omega)]
        congr 1
        rw [← rk_c]
        rw [hin.nz.mp c1]
        rfl
  unfold m_k_X10_answersWith
  exact key (c - 0) wF 0 rfl (by rw [hm0]; omega) (Nat.zero_le _)
theorem a_count {w : Nat → Int64} {S : Nat → Bool} (hw : ws6 w S) : m_k_X1_count w = nI (cn S) := by
  obtain ⟨m0, hm0⟩ := wF_ge
  have key : ∀ d m i, 6 - i = d → d < m → i ≤ 6 → m_k_X1_count_4 w m (nI (rk S i)) (nI i) = nI (rk S 6) := by
    intro d
    induction d with
    | zero =>
      intro m i hd hm hi
      obtain ⟨m, rfl⟩ : ∃ q, m = q + 1 := ⟨m - 1, by omega⟩
      have : i = 6 := by omega
      subst this
      rw [m_k_X1_count_4_succ, m_k_X1_count_4s, if_pos (by decide)]
    | succ d ih =>
      intro m i hd hm hi
      obtain ⟨m, rfl⟩ : ∃ q, m = q + 1 := ⟨m - 1, by omega⟩
      rw [m_k_X1_count_4_succ, m_k_X1_count_4s, if_neg (by rw [show (6 : Int32) = nI 6 from rfl, kI_le (by omega) (by omega)]; omega), lE_of (s_countOf hw (by omega)), kI_s i, rk_c]
      exact ih m (i + 1) (by omega) (by omega) (by omega)
  unfold m_k_X1_count
  refine (key (6 - 0) wF 0 rfl (by rw [hm0]; omega) (Nat.zero_le _)).trans ?_
  congr 1
  simp only [rk, cn]
  omega
theorem a_size {S Po : Nat → Bool} {su : Nat → Int64} (hs : ws6 su S) {s : Int32} (hv : vS (oO S Po) s) : m_k_X9_sizeOf su s = nI (cn (bt (phi S Po s))) := by
  have h6 := rk6 (oO S Po)
  unfold m_k_X9_sizeOf
  rw [lE_of (a_count hs), lE_of (cn_bc (vS_sm hv)), nI_add]
  congr 1
  have e1 : cn (bt s) = cn (fun p => oO S Po p && bt (phi S Po s) p) := by
    rw [← cpO_cn]
    refine cn_cong fun j _ => ?_
    by_cases g : j < rk (oO S Po) 6
    · obtain ⟨p, p1, p2, p3⟩ := pos_onto g
      have e := cpO_iff (oO S Po) (bt (phi S Po s)) j
      cases hb : bt s j with
      | true => exact (e.mpr ⟨p, p1, by rw [p2, phi_O p1 p2, p3, hb]; rfl, p3⟩).symm
      | false =>
        cases hq : cpO (oO S Po) (bt (phi S Po s)) j with
        | false => rfl
        | true =>
          obtain ⟨q, q1, q2, q3⟩ := e.mp hq
          have q4 := (Bool.and_eq_true _ _).mp q2
          have q5 := q4.2
          rw [phi_O q1 q4.1, q3, hb] at q5
          cases q5
    · rw [hv j (by omega)]
      cases hq : cpO (oO S Po) (bt (phi S Po s)) j with
      | false => rfl
      | true =>
        obtain ⟨q, q1, q2, q3⟩ := (cpO_iff (oO S Po) (bt (phi S Po s)) j).mp hq
        have := pos_lt q1 ((Bool.and_eq_true _ _).mp q2).1
        omega
  rw [e1]
  have one : ∀ p, p < 6 → (S p).toNat + (oO S Po p && bt (phi S Po s) p).toNat = (bt (phi S Po s) p).toNat := fun p hp => by
    cases hS : S p with
    | true =>
      have hO : oO S Po p = false := by
        cases ho : oO S Po p with
        | false => rfl
        | true => have := (oO_S ho).1; rw [hS] at this; cases this
      rw [hO, phi_S hp hS]
      rfl
    | false =>
      cases hO : oO S Po p with
      | true => simp
      | false => rw [phi_b S Po s hp, hS, hO]; rfl
  simp only [cn]
  have o0 := one 0 (by omega)
  have o1 := one 1 (by omega)
  have o2 := one 2 (by omega)
  have o3 := one 3 (by omega)
  have o4 := one 4 (by omega)
  have o5 := one 5 (by omega)
  omega
theorem q6_in {S Po : Nat → Bool} {su : Nat → Int64} (hs : ws6 su S) {c : Nat} (hc : c ≤ 64) {sf : Nat → Int32} {i : Nat} (hi : i < c) (hv : vS (oO S Po) (sf i)) : m_k_L_ask_6 su (nI c) 1 sf (nI i) = nI (cn (bt (phi S Po (sf i)))) := by
  unfold m_k_L_ask_6 m_k_L_asked_6 m_k_X10_size
  rw [lE_of (a_chk hc sf hi)]
  dsimp only
  rw [if_pos rfl, lE_of (a_size hs hv)]
  rfl
theorem q5_in {S Po : Nat → Bool} {su : Nat → Int64} (hs : ws6 su S) {oa ob : Nat → Int32} (ho : oN (oO S Po) oa ob) (hn : n ≤ 6) {pl : Nat → Int32} (hpl : ∀ p, p < n → pl p = 0) {c : Nat} (hc : c ≤ 64) (sf : Nat → Int32) {i : Nat} (hi : i < c) {p : Nat} (hp : p < n) (x y : Int32) : tv (m_k_L_ask_5 (nI n) pl (nI (rk (oO S Po) 6)) su ob (nI c) 1 sf (nI i) (nI p) x y) (bt (phi S Po (sf i)) p = true) := by
  have hin := a_isIn (Po := Po) hs ho (show p < 6 by omega) (sf i)
  unfold m_k_L_ask_5 m_k_L_asked_5 m_k_X10_has
  rw [lE_of (a_chk hc sf hi)]
  dsimp only
  rw [if_pos rfl, lE_of (a_atom hn hp (hpl p hp) x y)]
  dsimp only
  rw [if_pos rfl]
  rcases hin.1 with e | e
  · rw [lE_of e]
    exact ⟨Or.inl rfl, fun g => absurd g (by decide), fun g => absurd g (hin.z.mp e)⟩
  · rw [lE_of e]
    exact ⟨Or.inr rfl, fun _ => hin.2.mp e, fun _ => rfl⟩
theorem a_setOf {S Po : Nat → Bool} {su : Nat → Int64} (hs : ws6 su S) {oa ob : Nat → Int32} (ho : oN (oO S Po) oa ob) (hn : n ≤ 6) {pl : Nat → Int32} (hpl : ∀ p, p < n → pl p = 0) {c : Nat} (hc : c ≤ 64) (sf : Nat → Int32) {i : Nat} (hi : i < c) (hb : ∀ p, bt (phi S Po (sf i)) p = true → p < n) : m_k_L_setOf (nI n) pl (nI (rk (oO S Po) 6)) su ob (nI c) 1 sf (nI i) (nI n) = phi S Po (sf i) := by
  obtain ⟨m0, hm0⟩ := wF_ge
  have key : ∀ d m j x, n - j = d → d < m → j ≤ n → (∀ b, bt x b = (decide (b < j) && bt (phi S Po (sf i)) b)) → m_k_L_setOf_5 (nI n) pl (nI (rk (oO S Po) 6)) su ob (nI c) 1 sf (nI i) (nI n) m x (nI j) = phi S Po (sf i) := by
    intro d
    induction d with
    | zero =>
      intro m j x hd hm hj hx
      obtain ⟨m, rfl⟩ : ∃ q, m = q + 1 := ⟨m - 1, by omega⟩
      have : j = n := by omega
      subst this
      rw [m_k_L_setOf_5_succ, m_k_L_setOf_5s, if_pos (Int32.le_refl _)]
      refine b_ext fun b _ => ?_
      rw [hx b]
      cases hbb : bt (phi S Po (sf i)) b with
      | false => exact Bool.and_false _
      | true => rw [decide_eq_true (hb b hbb)]; rfl
    | succ d ih =>
      intro m j x hd hm hj hx
      obtain ⟨m, rfl⟩ : ∃ q, m = q + 1 := ⟨m - 1, by omega⟩
      have hin := q5_in hs ho hn hpl hc sf hi (show j < n by omega) 0 0
      rw [m_k_L_setOf_5_succ, m_k_L_setOf_5s, if_neg (by rw [kI_le (by omega) (by omega)]; omega), lE]
      by_cases c1 : m_k_L_ask_5 (nI n) pl (nI (rk (oO S Po) 6)) su ob (nI c) 1 sf (nI i) (nI j) 0 0 = 1
      · rw [if_pos c1, m_k_L_setOf_34, kI_s j]
        refine ih m (j + 1) _ (by omega) (by omega) (by omega) fun b => ?_
        rw [b_or, hx b, b_one' (by omega)]
        by_cases e : b = j
        · subst e
          rw [hin.2.mp c1]
          simp
        · rw [decide_eq_false e, Bool.or_false]
          congr 1
          rw [decide_eq_decide]
          omega
      · rw [if_neg c1, m_k_L_setOf_34, kI_s j]
        refine ih m (j + 1) _ (by omega) (by omega) (by omega) fun b => ?_
        rw [b_or, hx b, b_0, Bool.or_false]
        by_cases e : b = j
        · subst e
          have : bt (phi S Po (sf i)) b = false := by
            cases g : bt (phi S Po (sf i)) b with
            | false => rfl
            | true => exact absurd (hin.2.mpr g) c1
          rw [this, Bool.and_false, Bool.and_false]
        · congr 1
          rw [decide_eq_decide]
          omega
  unfold m_k_L_setOf
  exact key (n - 0) wF 0 0 rfl (by rw [hm0]; omega) (Nat.zero_le _) fun b => by rw [b_0]; simp
end AK
