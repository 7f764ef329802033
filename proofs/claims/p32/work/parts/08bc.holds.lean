/-! the pure argument, 31: what holds, states, the commonest, shares -/
section HO
variable {pp : pT} {n many : Nat} {rf gf : Nat → Option Nat}
theorem q10 {S Po : Nat → Bool} {su : Nat → Int64} (hs : ws6 su S) {oa ob : Nat → Int32} (ho : oN (oO S Po) oa ob) (hn : n ≤ 6) {pl : Nat → Int32} (hpl : ∀ p, p < n → pl p = 0) {c : Nat} (hc : c ≤ 64) (sf : Nat → Int32) {p : Nat} (hp : p < n) (x y : Int32) : m_k_L_ask_10 (nI n) pl (nI (rk (oO S Po) 6)) su ob (nI c) 1 sf (nI p) x y = if nI (rk (fun i => bt (phi S Po (sf i)) p) c) = nI c then 97 else if nI (rk (fun i => bt (phi S Po (sf i)) p) c) = 0 then 110 else 115 := by
  unfold m_k_L_ask_10 m_k_L_asked_10 m_k_X10_holds
  rw [lE_of a_ck, if_pos rfl, lE_of (a_atom hn hp (hpl p hp) x y)]
  dsimp only
  rw [if_pos rfl, lE_of (a_with hs ho hc sf (show p < 6 by omega))]
  split
  · rfl
  · split
    · rfl
    · rfl
theorem q0 {S Po : Nat → Bool} {su po : Nat → Int64} (hs : ws6 su S) (hp0 : ws6 po Po) (hn6 : n ≤ 6) {pl : Nat → Int32} (hpl : ∀ p, p < n → pl p = 0) {p : Nat} (hp : p < n) (rn : Int32) (tn : Int32) (en : Int32) (rf : Nat → Option Nat) (tp : Nat → Int32) (tq : Nat → Int32) (ea : Nat → Int32) (es : Nat → Int32) (hn : Int32) (kn : Int32) (pu : Int32) (gw : Int32) (b_1 : Int32) (b_2 : Int32) (b_3 : Int32) (b_p : Int32) (hds : Nat → Int32) (kr : Nat → Int32) (kv : Nat → Int32) (kb : Nat → Int32) (oa : Nat → Int32) (ob : Nat → Int32) (a2 : Int32) (a3 : Int32) : m_k_L_ask_0 pp (nI n) rn tn en pl rf tp tq ea es hn kn (nI (rk (oO S Po) 6)) 1 pu gw b_1 b_2 b_3 b_p su po hds kr kv kb oa ob (nI p) a2 a3 = ((if S p = true then 115 else if Po p = true then 111 else 110), su, po, hds, kr, kv, kb, oa, ob, nI (rk (oO S Po) 6), 1, pu, gw, hn, kn, b_1, b_2, b_3, b_p) := by
  have c1 := s_cont hs (show p < 6 by omega)
  have c2 := s_cont hp0 (show p < 6 by omega)
  unfold m_k_L_ask_0 m_k_L_asked_0 m_k_X10_state
  rw [lE_of (a_atom hn6 hp (hpl p hp) a2 a3)]
  dsimp only
  rw [if_pos rfl, lE_of (g_same rn tn en rf tp tq ea es hn kn (nI (rk (oO S Po) 6)) pu gw b_1 b_2 b_3 b_p su po hds kr kv kb oa ob)]
  dsimp only
  rcases c1.1 with d1 | d1
  · rw [lE_of d1, if_pos rfl, if_neg (c1.z.mp d1)]
    rcases c2.1 with d2 | d2
    · rw [lE_of d2, if_pos rfl, if_neg (c2.z.mp d2)]
      rfl
    · rw [lE_of d2, if_neg (by decide), if_pos (c2.2.mp d2)]
      rfl
  · rw [lE_of d1, if_neg (by decide), if_pos (c1.2.mp d1)]
    rfl
theorem q1 (rn : Int32) (tn : Int32) (en : Int32) (rf : Nat → Option Nat) (tp : Nat → Int32) (tq : Nat → Int32) (ea : Nat → Int32) (es : Nat → Int32) (hn : Int32) (kn : Int32) (on : Int32) (pu : Int32) (gw : Int32) (b_1 : Int32) (b_2 : Int32) (b_3 : Int32) (b_p : Int32) (su : Nat → Int64) (po : Nat → Int64) (hds : Nat → Int32) (kr : Nat → Int32) (kv : Nat → Int32) (kb : Nat → Int32) (oa : Nat → Int32) (ob : Nat → Int32) : m_k_L_ask_1 pp rn tn en rf tp tq ea es hn kn on 1 pu gw b_1 b_2 b_3 b_p su po hds kr kv kb oa ob = (on, su, po, hds, kr, kv, kb, oa, ob, on, 1, pu, gw, hn, kn, b_1, b_2, b_3, b_p) := by
  unfold m_k_L_ask_1 m_k_L_asked_1 m_k_X10_open
  rw [lE_of (g_same rn tn en rf tp tq ea es hn kn on pu gw b_1 b_2 b_3 b_p su po hds kr kv kb oa ob)]
  rfl
theorem at_100 : ∀ p, p < 6 → (((100 * (nI (64 * p) / 64)) + (10 * ((nI (64 * p) - nI (64 * p) / 64 * 64) / 8))) + (nI (64 * p) - nI (64 * p) / 8 * 8)) = nI (100 * p) := by decide
theorem q12_no {S Po : Nat → Bool} (su : Nat → Int64) (oa ob : Nat → Int32) (c : Nat) (hc : c ≤ 64) (sf : Nat → Int32) (h0 : rk (oO S Po) 6 = 0 ∨ c = 0) : m_k_L_ask_12 (nI (rk (oO S Po) 6)) su oa ob (nI c) 1 sf = (-2005) := by
  unfold m_k_L_ask_12 m_k_L_asked_12 m_k_X10_commonest
  rw [lE_of a_ck, if_pos rfl]
  by_cases d1 : nI (rk (oO S Po) 6) ≤ 0
  · rw [if_pos d1]
    rfl
  · rw [if_neg d1]
    rcases h0 with h0 | h0
    · rw [h0] at d1
      exact absurd (Int32.le_refl _) d1
    · subst h0
      rw [if_neg (by decide)]
      rfl
theorem q12_yes {S Po : Nat → Bool} {su : Nat → Int64} (hs : ws6 su S) {oa ob : Nat → Int32} (ho : oN (oO S Po) oa ob) {c : Nat} (hc : c ≤ 64) (sf : Nat → Int32) (h1 : ¬ rk (oO S Po) 6 = 0) (h2 : ¬ c = 0) : ∃ p, p < 6 ∧ oO S Po p = true ∧ m_k_L_ask_12 (nI (rk (oO S Po) 6)) su oa ob (nI c) 1 sf = nI (100 * p) := by
  obtain ⟨m0, hm0⟩ := wF_ge
  have h6 := rk6 (oO S Po)
  have key : ∀ d m i v1 v2, rk (oO S Po) 6 - i = d → d < m → i ≤ rk (oO S Po) 6 → (i = 0 ∧ v1 = (-1) ∨ ∃ p, p < 6 ∧ oO S Po p = true ∧ v2 = nI (64 * p)) → ∃ p, p < 6 ∧ oO S Po p = true ∧ m_k_X10_commonest_41 (nI (rk (oO S Po) 6)) su oa ob (nI c) sf m v1 v2 (nI i) = (0, nI (100 * p)) := by
    intro d
    induction d with
    | zero =>
      intro m i v1 v2 hd hm hi hv
      obtain ⟨m, rfl⟩ : ∃ q, m = q + 1 := ⟨m - 1, by omega⟩
      rcases hv with ⟨g, -⟩ | ⟨p, p1, p2, p3⟩
      · omega
      · rw [m_k_X10_commonest_41_succ, m_k_X10_commonest_41s, if_pos (by rw [kI_le (by omega) (by omega)]; omega), p3, at_100 p p1]
        exact ⟨p, p1, p2, rfl⟩
    | succ d ih =>
      intro m i v1 v2 hd hm hi hv
      obtain ⟨m, rfl⟩ : ∃ q, m = q + 1 := ⟨m - 1, by omega⟩
      have b0 : i < rk (oO S Po) 6 := by clear hv; omega
      have b1 : rk (oO S Po) 6 - (i + 1) = d := by clear hv; omega
      have b2 : d < m := by clear hv; omega
      obtain ⟨q, q1, q2, q3⟩ := rk_onto (oO S Po) 6 i b0
      have e1 : m_k_X3_openAtomAt oa (nI i) = nI (64 * q) := by
        unfold m_k_X3_openAtomAt
        rw [if_neg (by rw [show (0 : Int32) = nI 0 from rfl, kI_lt (by omega) (by omega)]; omega), if_neg (by rw [show (384 : Int32) = nI 384 from rfl, kI_le (by omega) (by omega)]; omega), kI_nat (by omega), ← q3]
        exact (ho.1 q q1 q2).2
      rw [m_k_X10_commonest_41_succ, m_k_X10_commonest_41s, if_neg (by rw [kI_le (by omega) (by omega)]; omega), lE_of e1, lE_of (a_with hs ho hc sf q1)]
      by_cases d1 : nI (rk (fun i => bt (phi S Po (sf i)) q) c) ≤ v1
      · rw [if_pos d1, m_k_X10_commonest_84, kI_s i]
        refine ih m (i + 1) v1 v2 b1 b2 b0 (Or.inr ?_)
        rcases hv with ⟨-, g⟩ | g
        · rw [g] at d1
          have hle := rk_le (fun i => bt (phi S Po (sf i)) q) c
          rw [Int32.le_iff_toInt_le, kI_ti (by omega)] at d1
          have : ((-1 : Int32)).toInt = -1 := rfl
          omega
        · exact g
      · rw [if_neg d1, lE_of e1, m_k_X10_commonest_84, kI_s i]
        exact ih m (i + 1) _ _ b1 b2 b0 (Or.inr ⟨q, q1, q2, rfl⟩)
  obtain ⟨p, p1, p2, p3⟩ := key (rk (oO S Po) 6 - 0) wF 0 (-1) 0 rfl (by rw [hm0]; omega) (Nat.zero_le _) (Or.inl ⟨rfl, rfl⟩)
  refine ⟨p, p1, p2, ?_⟩
  unfold m_k_L_ask_12 m_k_L_asked_12 m_k_X10_commonest
  rw [lE_of a_ck, if_pos rfl, if_neg (by rw [show (0 : Int32) = nI 0 from rfl, kI_le (by omega) (by omega)]; omega), if_pos (by rw [show (0 : Int32) = nI 0 from rfl, kI_lt (by omega) (by omega)]; omega), lE_of (show m_k_X10_commonest_41 (nI (rk (oO S Po) 6)) su oa ob (nI c) sf wF (-1) 0 0 = _ from p3)]
  rfl
theorem q_share {S Po : Nat → Bool} {su : Nat → Int64} (hs : ws6 su S) {oa ob : Nat → Int32} (ho : oN (oO S Po) oa ob) (hn : n ≤ 6) {pl : Nat → Int32} (hpl : ∀ p, p < n → pl p = 0) {c : Nat} (hc : c ≤ 64) (h2 : ¬ c = 0) (sf : Nat → Int32) {p : Nat} (hp : p < n) (x y : Int32) : m_k_X10_share (nI n) pl (nI (rk (oO S Po) 6)) su ob (nI c) 1 sf (nI p) x y = (0, FP.fdiv (FP.i2f (nI (rk (fun i => bt (phi S Po (sf i)) p) c))) (FP.i2f (nI c))) := by
  unfold m_k_X10_share
  rw [lE_of a_ck, if_pos rfl, lE_of (a_atom hn hp (hpl p hp) x y)]
  dsimp only
  rw [if_pos rfl, if_pos (by rw [show (0 : Int32) = nI 0 from rfl, kI_lt (by omega) (by omega)]; omega), lE_of (a_with hs ho hc sf (show p < 6 by omega))]
/-- a sum -/
def sN (f : Nat → Nat) : Nat → Nat
  | 0 => 0
  | i + 1 => sN f i + f i
theorem q_mean {S Po : Nat → Bool} {su : Nat → Int64} (hs : ws6 su S) {c : Nat} (hc : c ≤ 64) (h2 : ¬ c = 0) (sf : Nat → Int32) (hv : ∀ i, i < c → vS (oO S Po) (sf i)) : m_k_X10_meanSize su (nI c) 1 sf = (0, FP.ddiv (FP.i2d (nI (sN (fun i => cn (bt (phi S Po (sf i)))) c))) (FP.i2d (nI c))) := by
  obtain ⟨m0, hm0⟩ := wF_ge
  have key : ∀ d m i, c - i = d → d < m → i ≤ c → m_k_X10_meanSize_29 su (nI c) sf m (nI (sN (fun i => cn (bt (phi S Po (sf i)))) i)) (nI i) = (0, FP.ddiv (FP.i2d (nI (sN (fun i => cn (bt (phi S Po (sf i)))) c))) (FP.i2d (nI c))) := by
    intro d
    induction d with
    | zero =>
      intro m i hd hm hi
      obtain ⟨m, rfl⟩ : ∃ q, m = q + 1 := ⟨m - 1, by omega⟩
      have : i = c := by omega
      subst this
      rw [m_k_X10_meanSize_29_succ, m_k_X10_meanSize_29s, if_pos (Int32.le_refl _)]
    | succ d ih =>
      intro m i hd hm hi
      obtain ⟨m, rfl⟩ : ∃ q, m = q + 1 := ⟨m - 1, by omega⟩
      rw [m_k_X10_meanSize_29_succ, m_k_X10_meanSize_29s, if_neg (by rw [kI_le (by omega) (by omega)]; omega), lE_of (a_set (by omega) sf), lE_of (a_size hs (hv i (by omega))), kI_s i, nI_add]
      exact ih m (i + 1) (by omega) (by omega) (by omega)
  unfold m_k_X10_meanSize
  rw [lE_of a_ck, if_pos rfl, if_pos (by rw [show (0 : Int32) = nI 0 from rfl, kI_lt (by omega) (by omega)]; omega)]
  exact key (c - 0) wF 0 rfl (by rw [hm0]; omega) (Nat.zero_le _)
end HO
