/-! the pure argument, 30: costs, the best, projections, figures -/
section FG
variable {pp : pT} {n many : Nat} {rf gf : Nat → Option Nat}
theorem w_cast {x : Int64} {y : Int32} (h : x.toInt = y.toInt) : x.toInt32 = y := by
  refine Int32.toInt_inj.mp ?_
  have h1 := wi_rng y
  rw [Int64.toInt_toInt32, h, Int.bmod_eq_of_le (by omega) (by omega)]
theorem a_lv : m_k_X10_checkLevel 1 = 0 ∧ m_k_X10_checkLevel 2 = 0 ∧ m_k_X10_checkLevel 3 = 0 ∧ m_k_X10_checkLevel 0 = 2 := by
  unfold m_k_X10_checkLevel
  exact ⟨by rw [if_neg (by decide), if_pos (by decide)], by rw [if_neg (by decide), if_pos (by decide)], by rw [if_neg (by decide), if_pos (by decide)], by rw [if_pos (by decide)]; rfl⟩
theorem q7_any {c : Nat} (hc : c ≤ 64) {sf : Nat → Int32} {cf : Nat → Int64} {i : Nat} (hi : i < c) {lv : Int32} (hl : m_k_X10_checkLevel lv = 0) {x : Int64} (hx : m_k_X0_costAt cf (nI i) lv = x) : m_k_L_ask_7 (nI c) 1 sf cf (nI i) lv = x.toInt32 := by
  unfold m_k_L_ask_7 m_k_L_asked_7 m_k_X10_cost
  rw [lE_of (a_chk hc sf hi)]
  dsimp only
  rw [if_pos rfl, lE_of hl, if_pos rfl, lE_of hx]
  rfl
theorem q7_0 {c : Nat} (hc : c ≤ 64) (sf : Nat → Int32) (cf : Nat → Int64) {i : Nat} (hi : i < c) : m_k_L_ask_7 (nI c) 1 sf cf (nI i) 0 = (-2002) := by
  unfold m_k_L_ask_7 m_k_L_asked_7 m_k_X10_cost
  rw [lE_of (a_chk hc sf hi)]
  dsimp only
  rw [if_pos rfl, lE_of a_lv.2.2.2]
  rfl
theorem q7_in (hz : zsOK pp gf many) {S Po : Nat → Bool} {c : Nat} (hc : c ≤ 64) {sf : Nat → Int32} {cf : Nat → Int64} (hco : coOK pp gf many S Po sf cf c) {i : Nat} (hi : i < c) : m_k_L_ask_7 (nI c) 1 sf cf (nI i) 1 = m_k_L_costOf pp gf (nI many) (phi S Po (sf i)) 1 ∧ m_k_L_ask_7 (nI c) 1 sf cf (nI i) 2 = m_k_L_costOf pp gf (nI many) (phi S Po (sf i)) 2 ∧ m_k_L_ask_7 (nI c) 1 sf cf (nI i) 3 = m_k_L_costOf pp gf (nI many) (phi S Po (sf i)) 3 := by
  obtain ⟨k1, k2, k3⟩ := k_costAt (show i < 64 by omega) cf
  obtain ⟨c1, c2, c3⟩ := hco i hi
  refine ⟨?_, ?_, ?_⟩
  · rw [q7_any hc hi a_lv.1 k1]
    exact w_cast (c1.trans (lw_cost hz _ _).symm)
  · rw [q7_any hc hi a_lv.2.1 k2]
    exact w_cast (c2.trans (lw_cost hz _ _).symm)
  · rw [q7_any hc hi a_lv.2.2.1 k3]
    exact w_cast (c3.trans (lw_cost hz _ _).symm)
/-- answer i costs what the first one costs -/
def sB (pp : pT) (gf : Nat → Option Nat) (many : Nat) (S Po : Nat → Bool) (sf : Nat → Int32) (i : Nat) : Prop := zC pp gf many 1 (phi S Po (sf i)) = zC pp gf many 1 (phi S Po (sf 0)) ∧ zC pp gf many 2 (phi S Po (sf i)) = zC pp gf many 2 (phi S Po (sf 0)) ∧ zC pp gf many 3 (phi S Po (sf i)) = zC pp gf many 3 (phi S Po (sf 0))
noncomputable def sBb (pp : pT) (gf : Nat → Option Nat) (many : Nat) (S Po : Nat → Bool) (sf : Nat → Int32) (i : Nat) : Bool := @decide (sB pp gf many S Po sf i) (Classical.propDecidable _)
theorem best_in (cf : Nat → Int64) (rec4 : Int32 → Int32 → r_k_X0_countBest) (v1 : Int32) {i : Nat} (hi : i < 64) : ∃ x, m_k_X0_countBest_17 cf rec4 v1 (nI i) wF 1 1 = m_k_X0_countBest_67 rec4 v1 (nI i) x ∧ tv x ((cf (3 * i)).toInt = (cf 0).toInt ∧ (cf (3 * i + 1)).toInt = (cf 1).toInt ∧ (cf (3 * i + 2)).toInt = (cf 2).toInt) := by
  obtain ⟨m, hm⟩ := wF_ge
  obtain ⟨k1, k2, k3⟩ := k_costAt hi cf
  obtain ⟨j1, j2, j3⟩ := k_costAt (show 0 < 64 by omega) cf
  have s1 : ∀ m (l : Int32) (x y : Int64), ¬ 3 < l → m_k_X0_costAt cf (nI i) l = x → m_k_X0_costAt cf 0 l = y → m_k_X0_countBest_17 cf rec4 v1 (nI i) (m + 1) 1 l = m_k_X0_countBest_17 cf rec4 v1 (nI i) m (if x.toInt = y.toInt then 1 else 0) (l + 1) := fun m l x y h1 h2 h3 => by
    rw [m_k_X0_countBest_17_succ, m_k_X0_countBest_17s, if_neg h1, if_neg (by decide), lE_of h2, lE_of h3]
    by_cases e : x.toInt = y.toInt
    · rw [if_pos (cmp_0.mpr e), if_pos e]
      rfl
    · rw [if_neg (fun g => e (cmp_0.mp g)), if_neg e]
      rfl
  have s0 : ∀ m (l : Int32), ¬ 3 < l → m_k_X0_countBest_17 cf rec4 v1 (nI i) (m + 1) 0 l = m_k_X0_countBest_17 cf rec4 v1 (nI i) m 0 (l + 1) := fun m l h1 => by
    rw [m_k_X0_countBest_17_succ, m_k_X0_countBest_17s, if_neg h1, if_pos rfl]
    rfl
  have e1 : ∀ m, m_k_X0_countBest_17 cf rec4 v1 (nI i) (m + 1) 1 4 = m_k_X0_countBest_67 rec4 v1 (nI i) 1 := fun m => by
    rw [m_k_X0_countBest_17_succ, m_k_X0_countBest_17s, if_pos (by decide), if_neg (by decide)]
  have e0 : ∀ m, m_k_X0_countBest_17 cf rec4 v1 (nI i) (m + 1) 0 4 = m_k_X0_countBest_67 rec4 v1 (nI i) 0 := fun m => by
    rw [m_k_X0_countBest_17_succ, m_k_X0_countBest_17s, if_pos (by decide), if_pos rfl]
  have a1 : (1 : Int32) + 1 = 2 := by decide
  have a2 : (2 : Int32) + 1 = 3 := by decide
  have a3 : (3 : Int32) + 1 = 4 := by decide
  rw [hm, s1 _ 1 _ _ (by decide) k1 j1, a1]
  by_cases d1 : (cf (3 * i)).toInt = (cf (3 * 0)).toInt
  · rw [if_pos d1, s1 _ 2 _ _ (by decide) k2 j2, a2]
    by_cases d2 : (cf (3 * i + 1)).toInt = (cf (3 * 0 + 1)).toInt
    · rw [if_pos d2, s1 _ 3 _ _ (by decide) k3 j3, a3]
      by_cases d3 : (cf (3 * i + 2)).toInt = (cf (3 * 0 + 2)).toInt
      · rw [if_pos d3, e1]
        exact ⟨1, rfl, tv.one ⟨d1, d2, d3⟩⟩
      · rw [if_neg d3, e0]
        exact ⟨0, rfl, tv.zero fun g => d3 g.2.2⟩
    · rw [if_neg d2, s0 _ 3 (by decide), a3, e0]
      exact ⟨0, rfl, tv.zero fun g => d2 g.2.1⟩
  · rw [if_neg d1, s0 _ 2 (by decide), a2, s0 _ 3 (by decide), a3, e0]
    exact ⟨0, rfl, tv.zero fun g => d1 g.1⟩
theorem q8 {S Po : Nat → Bool} {c : Nat} (hc : c ≤ 64) {sf : Nat → Int32} {cf : Nat → Int64} (hco : coOK pp gf many S Po sf cf c) : m_k_L_ask_8 (nI c) 1 cf = nI (rk (sBb pp gf many S Po sf) c) := by
  obtain ⟨m0, hm0⟩ := wF_ge
  have key : ∀ d m i, c - i = d → d < m → i ≤ c → m_k_X0_countBest_4 (nI c) cf m (nI (rk (sBb pp gf many S Po sf) i)) (nI i) = nI (rk (sBb pp gf many S Po sf) c) := by
    intro d
    induction d with
    | zero =>
      intro m i hd hm hi
      obtain ⟨m, rfl⟩ : ∃ q, m = q + 1 := ⟨m - 1, by omega⟩
      have : i = c := by omega
      subst this
      rw [m_k_X0_countBest_4_succ, m_k_X0_countBest_4s, if_pos (Int32.le_refl _)]
    | succ d ih =>
      intro m i hd hm hi
      obtain ⟨m, rfl⟩ : ∃ q, m = q + 1 := ⟨m - 1, by omega⟩
      rw [m_k_X0_countBest_4_succ, m_k_X0_countBest_4s, if_neg (by rw [kI_le (by omega) (by omega)]; omega)]
      obtain ⟨x, e1, hx⟩ := best_in cf (fun v1_4 v2_4 => m_k_X0_countBest_4 (nI c) cf m v1_4 v2_4) (nI (rk (sBb pp gf many S Po sf) i)) (show i < 64 by omega)
      rw [e1, m_k_X0_countBest_67, kI_s i, ← ih m (i + 1) (by omega) (by omega) (by omega)]
      congr 1
      obtain ⟨c1, c2, c3⟩ := hco i (by omega)
      obtain ⟨z1, z2, z3⟩ := hco 0 (by omega)
      have hiff := hx.iff (show _ ↔ sB pp gf many S Po sf i by
        unfold sB
        rw [← c1, ← c2, ← c3, ← z1, ← z2, ← z3])
      rw [← rk_c]
      congr 1
      by_cases e : sB pp gf many S Po sf i
      · rw [hiff.t e, show sBb pp gf many S Po sf i = true from @decide_eq_true _ (Classical.propDecidable _) e]
        rfl
      · rw [hiff.f e, show sBb pp gf many S Po sf i = false from @decide_eq_false _ (Classical.propDecidable _) e]
        rfl
  unfold m_k_L_ask_8 m_k_L_asked_8 m_k_X10_best m_k_X0_countBest
  rw [lE_of a_ck, if_pos rfl, lE_of (show m_k_X0_countBest_4 (nI c) cf wF 0 0 = nI (rk (sBb pp gf many S Po sf) c) from key (c - 0) wF 0 rfl (by rw [hm0]; omega) (Nat.zero_le _))]
  rfl
/-- how many different ones there are of two -/
def ndf (g : Nat → Bool) (i : Nat) : Nat := if i = 0 then 0 else if rk g i = 0 ∨ rk g i = i then 1 else 2
theorem rk_0 (g : Nat → Bool) : ∀ i, rk g i = 0 ↔ ∀ j, j < i → g j = false
  | 0 => ⟨fun _ j hj => absurd hj (Nat.not_lt_zero j), fun _ => rfl⟩
  | i + 1 => by
    have h := rk_0 g i
    show rk g i + (g i).toNat = 0 ↔ _
    constructor
    · intro e j hj
      rcases (show j < i ∨ j = i by omega) with g1 | rfl
      · exact h.mp (by omega) j g1
      · cases hg : g j with
        | false => rfl
        | true => rw [hg] at e; simp at e
    · intro e
      rw [h.mpr fun j hj => e j (by omega), e i (by omega)]
      rfl
theorem rk_i (g : Nat → Bool) : ∀ i, rk g i = i ↔ ∀ j, j < i → g j = true
  | 0 => ⟨fun _ j hj => absurd hj (Nat.not_lt_zero j), fun _ => rfl⟩
  | i + 1 => by
    have h := rk_i g i
    have hle := rk_le g i
    show rk g i + (g i).toNat = i + 1 ↔ _
    constructor
    · intro e j hj
      have hg : g i = true := by
        cases hg : g i with
        | true => rfl
        | false => rw [hg] at e; simp at e; omega
      rcases (show j < i ∨ j = i by omega) with g1 | rfl
      · rw [hg] at e
        exact h.mp (by simp at e; exact e) j g1
      · exact hg
    · intro e
      rw [h.mpr fun j hj => e j (by omega), e i (by omega)]
      rfl
theorem ndf_s (g : Nat → Bool) (i : Nat) : ((∀ j, j < i → ¬ g i = g j) → ndf g (i + 1) = ndf g i + 1) ∧ (¬ (∀ j, j < i → ¬ g i = g j) → ndf g (i + 1) = ndf g i) := by
  have h0 := rk_0 g i
  have hi := rk_i g i
  have hle := rk_le g i
  have hs : rk g (i + 1) = rk g i + (g i).toNat := rfl
  unfold ndf
  rw [hs]
  cases hg : g i with
  | true =>
    have e : (∀ j, j < i → ¬ true = g j) ↔ rk g i = 0 := by
      rw [h0]
      refine forall_congr' fun j => forall_congr' fun _ => ?_
      cases g j <;> simp
    rw [e]
    refine ⟨fun c => ?_, fun c => ?_⟩
    · rw [c]
      by_cases d : i = 0
      · subst d; rfl
      · rw [if_neg (by omega), if_neg (by simp; omega), if_neg d, if_pos (Or.inl rfl)]
    · have : ¬ i = 0 := fun d => by subst d; exact c rfl
      rw [if_neg (by omega), if_neg this]
      by_cases d : rk g i = i
      · rw [if_pos (Or.inr d), if_pos (Or.inr (by rw [d]; rfl))]
      · rw [if_neg (by simp; omega), if_neg (by simp; omega)]
  | false =>
    have e : (∀ j, j < i → ¬ false = g j) ↔ rk g i = i := by
      rw [hi]
      refine forall_congr' fun j => forall_congr' fun _ => ?_
      cases g j <;> simp
    rw [e]
    refine ⟨fun c => ?_, fun c => ?_⟩
    · rw [c]
      by_cases d : i = 0
      · subst d; rfl
      · rw [if_neg (by omega), if_neg (by simp; omega), if_neg d, if_pos (Or.inr rfl)]
    · have : ¬ i = 0 := fun d => by subst d; exact c rfl
      rw [if_neg (by omega), if_neg this]
      by_cases d : rk g i = 0
      · rw [if_pos (Or.inl d), if_pos (Or.inl (by rw [d]; rfl))]
      · rw [if_neg (by simp; omega), if_neg (by simp; omega)]
theorem same_iff {S Po : Nat → Bool} {obi sc : Nat → Int32} (ho : oB S Po obi sc) {p : Nat} (hp : p < 6) (s t : Int32) : s &&& obi p = t &&& obi p ↔ bt (phi S Po s) p = bt (phi S Po t) p := by
  constructor
  · intro e
    have h1 := k_found ho s hp
    have h2 := k_found ho t hp
    rw [e, h2] at h1
    cases a : bt (phi S Po s) p <;> cases b : bt (phi S Po t) p <;> rw [a, b] at h1 <;> first | rfl | exact absurd h1 (by decide)
  · intro e
    refine b_ext fun j _ => ?_
    rw [b_and, b_and]
    cases hb : bt (obi p) j with
    | false => rw [Bool.and_false, Bool.and_false]
    | true =>
      obtain ⟨q, q1, q2, q3, q4⟩ := (ho.1 p hp j).mp hb
      have := of_decide_eq_true q3
      subst this
      rw [phi_O q1 q2, phi_O q1 q2, q4] at e
      rw [e]
theorem diff_in {S Po : Nat → Bool} {obi sc : Nat → Int32} (ho : oB S Po obi sc) {p : Nat} (hp : p < 6) (sf : Nat → Int32) (rec4 : Int32 → Int32 → r_k_X0_countDifferent) (v2 : Int32) {i : Nat} (hi : i < 64) : ∃ x, m_k_X0_countDifferent_18 sf (obi p) rec4 v2 (nI i) wF 1 0 = m_k_X0_countDifferent_60 rec4 v2 (nI i) x ∧ tv x (∀ j, j < i → ¬ bt (phi S Po (sf i)) p = bt (phi S Po (sf j)) p) := by
  obtain ⟨m0, hm0⟩ := wF_ge
  have key : ∀ d m j x, i - j = d → d + 1 < m → j ≤ i → tv x (∀ l, l < j → ¬ bt (phi S Po (sf i)) p = bt (phi S Po (sf l)) p) → ∃ y, m_k_X0_countDifferent_18 sf (obi p) rec4 v2 (nI i) m x (nI j) = m_k_X0_countDifferent_60 rec4 v2 (nI i) y ∧ tv y (∀ j, j < i → ¬ bt (phi S Po (sf i)) p = bt (phi S Po (sf j)) p) := by
    intro d
    induction d with
    | zero =>
      intro m j x hd hm hj hx
      obtain ⟨m, rfl⟩ : ∃ q, m = q + 1 := ⟨m - 1, by omega⟩
      have : j = i := by omega
      subst this
      rw [m_k_X0_countDifferent_18_succ, m_k_X0_countDifferent_18s, if_pos (Int32.le_refl _)]
      exact ⟨x, rfl, hx⟩
    | succ d ih =>
      intro m j x hd hm hj hx
      obtain ⟨m, rfl⟩ : ∃ q, m = q + 1 := ⟨m - 1, by omega⟩
      have hs := same_iff ho hp (sf i) (sf j)
      rw [m_k_X0_countDifferent_18_succ, m_k_X0_countDifferent_18s, if_neg (by rw [kI_le (by omega) (by omega)]; omega)]
      by_cases c1 : x = 0
      · rw [if_pos c1]
        refine ⟨x, rfl, ?_⟩
        rw [c1]
        refine tv.zero fun g => hx.z.mp c1 fun l hl => g l (by omega)
      · rw [if_neg c1, lE_of (a_set hi sf), lE_of (a_set (by omega) sf)]
        by_cases c2 : sf i &&& obi p = sf j &&& obi p
        · rw [if_pos c2, m_k_X0_countDifferent_52, kI_s j]
          exact ih m (j + 1) 0 (by omega) (by omega) (by omega) (tv.zero fun g => g j (by omega) (hs.mp c2))
        · rw [if_neg c2, m_k_X0_countDifferent_52, kI_s j]
          refine ih m (j + 1) 1 (by omega) (by omega) (by omega) (tv.one fun l hl => ?_)
          rcases (show l < j ∨ l = j by omega) with g | rfl
          · exact hx.nz.mp c1 l g
          · exact fun e => c2 (hs.mpr e)
  exact key (i - 0) wF 0 1 rfl (by rw [hm0]; omega) (Nat.zero_le _) (tv.one fun l hl => absurd hl (Nat.not_lt_zero l))
theorem q9 {S Po : Nat → Bool} {obi sc : Nat → Int32} (ho : oB S Po obi sc) (hn : n ≤ 6) {c : Nat} (hc : c ≤ 64) (sf : Nat → Int32) {p : Nat} (hp : p < n) : m_k_L_ask_9 (nI n) obi (nI c) 1 sf (nI p) = nI (ndf (fun i => bt (phi S Po (sf i)) p) c) := by
  obtain ⟨m0, hm0⟩ := wF_ge
  have key : ∀ d m i, c - i = d → d < m → i ≤ c → m_k_X0_countDifferent_4 (nI c) sf (obi p) m (nI (ndf (fun i => bt (phi S Po (sf i)) p) i)) (nI i) = nI (ndf (fun i => bt (phi S Po (sf i)) p) c) := by
    intro d
    induction d with
    | zero =>
      intro m i hd hm hi
      obtain ⟨m, rfl⟩ : ∃ q, m = q + 1 := ⟨m - 1, by omega⟩
      have : i = c := by omega
      subst this
      rw [m_k_X0_countDifferent_4_succ, m_k_X0_countDifferent_4s, if_pos (Int32.le_refl _)]
    | succ d ih =>
      intro m i hd hm hi
      obtain ⟨m, rfl⟩ : ∃ q, m = q + 1 := ⟨m - 1, by omega⟩
      rw [m_k_X0_countDifferent_4_succ, m_k_X0_countDifferent_4s, if_neg (by rw [kI_le (by omega) (by omega)]; omega)]
      obtain ⟨x, e1, hx⟩ := diff_in ho (show p < 6 by omega) sf (fun v2_4 v3_4 => m_k_X0_countDifferent_4 (nI c) sf (obi p) m v2_4 v3_4) (nI (ndf (fun i => bt (phi S Po (sf i)) p) i)) (show i < 64 by omega)
      rw [e1, m_k_X0_countDifferent_60]
      have hnd := ndf_s (fun i => bt (phi S Po (sf i)) p) i
      by_cases c1 : x = 0
      · rw [if_pos c1, m_k_X0_countDifferent_71, kI_s i, ← ih m (i + 1) (by omega) (by omega) (by omega), hnd.2 (hx.z.mp c1)]
        congr 1
        exact Int32.add_zero _
      · rw [if_neg c1, m_k_X0_countDifferent_71, kI_s i, kI_s, ← ih m (i + 1) (by omega) (by omega) (by omega), hnd.1 (hx.nz.mp c1)]
  have ho' : m_k_X9_openBitsOf obi (nI p) = obi p := by
    unfold m_k_X9_openBitsOf
    rw [if_neg (by rw [show (0 : Int32) = nI 0 from rfl, kI_lt (by omega) (by omega)]; omega), if_neg (by rw [show (6 : Int32) = nI 6 from rfl, kI_le (by omega) (by omega)]; omega), kI_nat (by omega)]
  unfold m_k_L_ask_9 m_k_L_asked_9 m_k_X10_projected m_k_X0_countDifferent
  rw [lE_of a_ck, if_pos rfl, lE_of (a_has hn hp), if_neg (by decide), lE_of ho', lE_of (show m_k_X0_countDifferent_4 (nI c) sf (obi p) wF 0 0 = nI (ndf (fun i => bt (phi S Po (sf i)) p) c) from key (c - 0) wF 0 rfl (by rw [hm0]; omega) (Nat.zero_le _))]
  rfl
end FG
