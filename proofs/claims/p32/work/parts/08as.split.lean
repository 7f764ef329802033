/-! the pure argument, 19: whether a smaller set is enough, by splitting -/
section HS
variable {pp : pT} {n many : Nat} {rf gf : Nat → Option Nat}
theorem one_dec : ∀ a, a < 64 → ∀ i, i < 6 → ∀ j, j < 6 → (!decide (nI a &&& (nI a - 1) = 0) || !bt (nI a) i || !bt (nI a) j || decide (i = j)) = true := by decide +kernel
theorem one_bit {x : Int32} (h : sm x) (h0 : x &&& (x - 1) = 0) {i j : Nat} (hi : bt x i = true) (hj : bt x j = true) : i = j := by
  have h1 := sm_lt h hi
  have h2 := sm_lt h hj
  obtain ⟨a, ha, rfl⟩ := sm_nI h
  have h3 := one_dec a ha i h1 j h2
  rw [decide_eq_true h0, hi, hj] at h3
  exact of_decide_eq_true h3
theorem vS_sub {O : Nat → Bool} {A s : Int32} (h : vS O A) (hs : bs s A) : vS O s := fun j hj => by
  cases hb : bt s j with
  | false => rfl
  | true =>
    have := hs j hb
    rw [h j hj] at this
    cases this
/-- what a good set is: enough, for all active rows -/
def gd (pp : pT) (rn cg ch : Int32) (rf : Nat → Option Nat) (c : Nat) (c1 c2 c3 c4 obi sc : Nat → Int32) (A B : Int32) : Prop := bs B A ∧ ∀ j, j < c → actR pp rn cg rf c1 c2 c3 c4 obi sc A j → okR ch c1 c2 c3 c4 A B (m_k_X9_countsHeld pp rn rf cg obi sc B) j
/-- what holds in a part of a good set holds in it -/
theorem k_up (h : prOK pp n rf gf many) {S Po : Nat → Bool} {q : Nat → Nat} {k c w : Nat} {ch cg : Int32} {c1 c2 c3 c4 c5 c6 w1 w2 w3 obi sc : Nat → Int32} (hkm : k ≤ 10) (hc : cP pp rf gf many S Po q k ch cg c w c1 c2 c3 c4 c5 c6 w1 w2 w3 obi sc) {A B st cur : Int32} (hA : vS (oO S Po) A) (hB : bs B A) {j : Nat} (hj : j < c) (ha : actR pp (nI many) cg rf c1 c2 c3 c4 obi sc A j) (h1 : bs st cur) (h2 : bs cur B) (hb : ¬ m_k_X7_bodyHolds c1 c2 c3 (nI j) cur (m_k_X9_countsHeld pp (nI many) rf cg obi sc st) = 0) : ¬ m_k_X7_bodyHolds c1 c2 c3 (nI j) B (m_k_X9_countsHeld pp (nI many) rf cg obi sc B) = 0 := by
  obtain ⟨hck, hwk, hob, hcg, hch⟩ := hc
  have hm := h.1.1
  have hck1 := hck.1
  obtain ⟨r, hrw⟩ := hck.2.1 j hj
  have hr := hrw.1.1
  have hvB := vS_sub hA hB
  have hvst := vS_sub hvB fun b hb => h2 b (h1 b hb)
  obtain ⟨t1, t2, t3⟩ := (k_body (c2 := c2) (c3 := c3) (show j < 300 by omega) cur (m_k_X9_countsHeld pp (nI many) rf cg obi sc st) (show r < 32 by omega) hrw.1.2.1).nz.mp hb
  obtain ⟨a1, a2, a3⟩ := (k_body (c2 := c2) (c3 := c3) (show j < 300 by omega) A (m_k_X9_countsHeld pp (nI many) rf cg obi sc A) (show r < 32 by omega) hrw.1.2.1).nz.mp ha.2
  refine (k_body (c2 := c2) (c3 := c3) (show j < 300 by omega) B (m_k_X9_countsHeld pp (nI many) rf cg obi sc B) (show r < 32 by omega) hrw.1.2.1).nz.mpr ⟨b_sub.mpr fun i hi => h2 i (b_sub.mp t1 i hi), b_dis.mpr fun i hi => ?_, (k_held h hob hcg B hr).mpr ⟨fun p hp => ?_, fun p hp => ?_⟩⟩
  · cases hx : bt B i with
    | false => rfl
    | true =>
      have := b_dis.mp a2 i hi
      rw [hB i hx] at this
      cases this
  · exact (phi_sub (s := B) hvst).mpr (fun b hb => h2 b (h1 b hb)) p (((k_held h hob hcg st hr).mp t3).1 p hp)
  · cases hx : bt (phi S Po B) p with
    | false => rfl
    | true =>
      have := ((k_held h hob hcg A hr).mp a3).2 p hp
      rw [(phi_sub (s := A) hvB).mpr hB p hx] at this
      cases this
theorem k_good (h : prOK pp n rf gf many) {S Po : Nat → Bool} {q : Nat → Nat} {k c w : Nat} {ch cg : Int32} {c1 c2 c3 c4 c5 c6 w1 w2 w3 obi sc : Nat → Int32} (hkm : k ≤ 10) (hc : cP pp rf gf many S Po q k ch cg c w c1 c2 c3 c4 c5 c6 w1 w2 w3 obi sc) {A : Int32} (hA : vS (oO S Po) A) : ∀ B, gd pp (nI many) cg ch rf c c1 c2 c3 c4 obi sc A B → ∀ st cur j, j < c → actR pp (nI many) cg rf c1 c2 c3 c4 obi sc A j → fcd ch c1 c4 A j → bs st cur → bs cur B → ¬ m_k_X7_bodyHolds c1 c2 c3 (nI j) cur (m_k_X9_countsHeld pp (nI many) rf cg obi sc st) = 0 → ∀ b, bt (c4 j) b = true → bt A b = true → bt B b = true := by
  intro B hB st cur j hj ha hf h1 h2 hb
  have ok := hB.2 j hj ha (k_up h hkm hc hA hB.1 hj ha h1 h2 hb)
  by_cases e : m_k_X9_isChoice ch c1 (nI j) = 0
  · obtain ⟨b2, i1, i2, i3⟩ := b_some3.mp (ok.1 e)
    intro b g1 g2
    have hs : sm (c4 j &&& A) := fun i hi => by rw [b_and, vS_sm hA i hi]; exact Bool.and_false _
    rw [one_bit hs (hf e) (i := b) (j := b2) (by rw [b_and, g1, g2]; rfl) (by rw [b_and, i1, i2]; rfl)]
    exact i3
  · exact b_in3.mp (ok.2 e)
/-- a disjunction of which a set has no head yet -/
theorem k_split {c : Nat} (hc : c ≤ 300) {act : Nat → Prop} {an : Nat} {ac : Nat → Int32} (hl : aL c act an ac) (ch cg rn : Int32) (c1 c2 c3 c4 obi sc : Nat → Int32) (cur A : Int32) : (m_k_X9_headsToSplit pp rn rf (nI an) ch cg c1 c2 c3 c4 ac obi sc cur A = 0 ∧ ∀ j, j < c → act j → m_k_X9_isChoice ch c1 (nI j) = 0 → (c4 j &&& A) &&& cur = 0 → m_k_X7_bodyHolds c1 c2 c3 (nI j) cur (m_k_X9_countsHeld pp rn rf cg obi sc cur) = 0) ∨ ∃ j, j < c ∧ act j ∧ m_k_X9_isChoice ch c1 (nI j) = 0 ∧ (c4 j &&& A) &&& cur = 0 ∧ ¬ m_k_X7_bodyHolds c1 c2 c3 (nI j) cur (m_k_X9_countsHeld pp rn rf cg obi sc cur) = 0 ∧ m_k_X9_headsToSplit pp rn rf (nI an) ch cg c1 c2 c3 c4 ac obi sc cur A = c4 j &&& A := by
  obtain ⟨m0, hm0⟩ := wF_ge
  have han := hl.1
  unfold m_k_X9_headsToSplit
  rw [lE]
  generalize ht : m_k_X9_countsHeld pp rn rf cg obi sc cur = t2
  have lp : ∀ d m i, an - i = d → d < m → i ≤ an → (m_k_X9_headsToSplit_9 (nI an) ch c1 c2 c3 c4 ac cur A t2 m (nI i) = 0 ∧ ∀ l, i ≤ l → l < an → ∀ j, j < c → ac l = nI j → m_k_X9_isChoice ch c1 (nI j) = 0 → (c4 j &&& A) &&& cur = 0 → m_k_X7_bodyHolds c1 c2 c3 (nI j) cur t2 = 0) ∨ ∃ j, j < c ∧ act j ∧ m_k_X9_isChoice ch c1 (nI j) = 0 ∧ (c4 j &&& A) &&& cur = 0 ∧ ¬ m_k_X7_bodyHolds c1 c2 c3 (nI j) cur t2 = 0 ∧ m_k_X9_headsToSplit_9 (nI an) ch c1 c2 c3 c4 ac cur A t2 m (nI i) = c4 j &&& A := by
    intro d
    induction d with
    | zero =>
      intro m i hd hm hi
      obtain ⟨m, rfl⟩ : ∃ q, m = q + 1 := ⟨m - 1, by omega⟩
      have hi' : i = an := by omega
      subst hi'
      rw [m_k_X9_headsToSplit_9_succ, m_k_X9_headsToSplit_9s, if_pos (Int32.le_refl _)]
      exact Or.inl ⟨rfl, fun l h1 h2 => by omega⟩
    | succ d ih =>
      intro m i hd hm hi
      obtain ⟨m, rfl⟩ : ∃ q, m = q + 1 := ⟨m - 1, by omega⟩
      obtain ⟨j, hj, he, hact⟩ := hl.2.1 i (by omega)
      have next : (m_k_X9_isChoice ch c1 (nI j) = 0 → (c4 j &&& A) &&& cur = 0 → m_k_X7_bodyHolds c1 c2 c3 (nI j) cur t2 = 0) → (m_k_X9_headsToSplit_9 (nI an) ch c1 c2 c3 c4 ac cur A t2 m (nI (i + 1)) = 0 ∧ ∀ l, i ≤ l → l < an → ∀ j, j < c → ac l = nI j → m_k_X9_isChoice ch c1 (nI j) = 0 → (c4 j &&& A) &&& cur = 0 → m_k_X7_bodyHolds c1 c2 c3 (nI j) cur t2 = 0) ∨ ∃ j, j < c ∧ act j ∧ m_k_X9_isChoice ch c1 (nI j) = 0 ∧ (c4 j &&& A) &&& cur = 0 ∧ ¬ m_k_X7_bodyHolds c1 c2 c3 (nI j) cur t2 = 0 ∧ m_k_X9_headsToSplit_9 (nI an) ch c1 c2 c3 c4 ac cur A t2 m (nI (i + 1)) = c4 j &&& A := fun hok => by
        rcases ih m (i + 1) (by omega) (by omega) (by omega) with ⟨g1, g2⟩ | g
        · refine Or.inl ⟨g1, fun l i1 i2 j2 hj2 he2 => ?_⟩
          rcases (show l = i ∨ i + 1 ≤ l by omega) with rfl | g
          · rw [he, kI_eq (by omega) (by omega)] at he2
            rw [← he2]
            exact hok
          · exact g2 l g i2 j2 hj2 he2
        · exact Or.inr g
      rw [m_k_X9_headsToSplit_9_succ, m_k_X9_headsToSplit_9s, if_neg (nle (by omega) (by omega)), if_neg (by rw [show (300 : Int32) = nI 300 from rfl, kI_le (by omega) (by omega)]; omega), lE, kI_nat (by omega), he, k_headsAt (by omega), lE]
      by_cases e1 : m_k_X9_isChoice ch c1 (nI j) = 0
      · rw [if_pos e1]
        by_cases e2 : (c4 j &&& A) &&& cur = 0
        · rw [if_pos e2, lE]
          by_cases e3 : m_k_X7_bodyHolds c1 c2 c3 (nI j) cur t2 = 0
          · rw [if_pos e3, m_k_X9_headsToSplit_81, kI_s]
            exact next fun _ _ => e3
          · rw [if_neg e3]
            exact Or.inr ⟨j, hj, hact, e1, e2, e3, rfl⟩
        · rw [if_neg e2, m_k_X9_headsToSplit_81, kI_s]
          exact next fun _ g => absurd g e2
      · rw [if_neg e1, m_k_X9_headsToSplit_81, kI_s]
        exact next fun g => absurd g e1
  rcases lp (an - 0) wF 0 rfl (by rw [hm0]; omega) (Nat.zero_le _) with ⟨g1, g2⟩ | g
  · refine Or.inl ⟨g1, fun j hj ha => ?_⟩
    obtain ⟨i, hi, he⟩ := hl.2.2 j hj ha
    exact g2 i (Nat.zero_le _) hi j hj he
  · exact Or.inr g
theorem sp1 : ∀ a, a < 64 → ∀ b, b < 6 → ∀ d, d < 6 → bt (nI a &&& (-(nI a))) b = true → bt (nI a &&& (-(nI a))) d = true → b = d := by decide +kernel
theorem sp2 : ∀ a, a < 64 → ∀ b, b < 6 → ∀ d, d < 6 → (!decide (cn (bt (nI a)) ≤ 2) || !bt (nI a &&& ((nI a &&& (-(nI a))) ^^^ (-1))) b || !bt (nI a &&& ((nI a &&& (-(nI a))) ^^^ (-1))) d || decide (b = d)) = true := by decide +kernel
theorem sp3 : ∀ a, a < 64 → ∀ b, b < 6 → bt (nI a) b = (bt (nI a &&& (-(nI a))) b || bt (nI a &&& ((nI a &&& (-(nI a))) ^^^ (-1))) b) := by decide +kernel
theorem sp4 : ∀ a, a < 64 → ¬ nI a = 0 → 0 < cn (bt (nI a &&& (-(nI a)))) := by decide +kernel
theorem sp5 : ∀ a, a < 64 → ¬ nI a &&& (nI a - 1) = 0 → 0 < cn (bt (nI a &&& ((nI a &&& (-(nI a))) ^^^ (-1)))) := by decide +kernel
/-- the two parts of two heads -/
theorem sp_all {x : Int32} (h : sm x) (h2 : cn (bt x) ≤ 2) (h0 : ¬ x &&& (x - 1) = 0) : ∃ i k, bt x i = true ∧ bt x k = true ∧ (∀ b, bt (x &&& (-x)) b = true ↔ b = i) ∧ (∀ b, bt (x &&& ((x &&& (-x)) ^^^ (-1))) b = true ↔ b = k) ∧ ∀ b, bt x b = true → b = i ∨ b = k := by
  have s1 : ∀ y b, bt (x &&& y) b = true → bt x b = true := fun y b hb => by
    rw [b_and] at hb
    exact ((Bool.and_eq_true _ _).mp hb).1
  have s2 : ∀ b, bt x b = true → b < 6 := fun b hb => sm_lt h hb
  obtain ⟨a, ha, rfl⟩ := sm_nI h
  have hx : ¬ nI a = 0 := fun e => h0 (by rw [e]; rfl)
  obtain ⟨i, hi, hib⟩ := cn_pos.mp (sp4 a ha hx)
  obtain ⟨k, hk, hkb⟩ := cn_pos.mp (sp5 a ha h0)
  have s2' : ∀ b, b < 6 → bt (nI a &&& ((nI a &&& (-(nI a))) ^^^ (-1))) b = true → b = k := fun b h3 hb => by
    have h4 := sp2 a ha b h3 k hk
    rw [decide_eq_true h2, hb, hkb] at h4
    exact of_decide_eq_true h4
  refine ⟨i, k, s1 _ i hib, s1 _ k hkb, fun b => ⟨fun hb => ?_, fun e => by rw [e]; exact hib⟩, fun b => ⟨fun hb => ?_, fun e => by rw [e]; exact hkb⟩, fun b hb => ?_⟩
  · exact sp1 a ha b (s2 b (s1 _ b hb)) i hi hb hib
  · exact s2' b (s2 b (s1 _ b hb)) hb
  · have h3 := s2 b hb
    rw [sp3 a ha b h3, Bool.or_eq_true] at hb
    rcases hb with hb | hb
    · exact Or.inl (sp1 a ha b h3 i hi hb hib)
    · exact Or.inr (s2' b h3 hb)
theorem nI_m1 (w : Nat) : nI (w + 1) + (-1) = nI w := by
  rw [← kI_s, Int32.add_assoc]
  exact Int32.add_zero _
/-- the branches' weight -/
def mu (br : Nat → Int32) : Nat → Nat
  | 0 => 0
  | w + 1 => mu br w + 3 ^ (6 - cn (bt (br w)))
theorem mu_upd (br : Nat → Int32) {k : Nat} (x : Int32) : ∀ w, w ≤ k → mu (upd br k x) w = mu br w
  | 0, _ => rfl
  | w + 1, hw => by
    show mu (upd br k x) w + 3 ^ (6 - cn (bt (upd br k x w))) = mu br w + 3 ^ (6 - cn (bt (br w)))
    rw [mu_upd br x w (by omega), uu_else _ _ (by omega)]
theorem p3 : ∀ a b, a < b → b ≤ 6 → ∀ d, a < d → d ≤ 6 → 3 ^ (6 - b) + 3 ^ (6 - d) < 3 ^ (6 - a) := by
  intro a b h1 h2 d h3 h4
  have k : ∀ b, a < b → b ≤ 6 → 3 ^ (6 - b) ≤ 3 ^ (5 - a) := fun b hb hb6 => Nat.pow_le_pow_right (by omega) (by omega)
  have k1 := k b h1 h2
  have k2 := k d h3 h4
  have k3 : 3 ^ (6 - a) = 3 * 3 ^ (5 - a) := by rw [show 6 - a = (5 - a) + 1 by omega, Nat.pow_succ, Nat.mul_comm]
  have k4 : 0 < 3 ^ (5 - a) := Nat.pow_pos (by omega)
  omega
end HS
