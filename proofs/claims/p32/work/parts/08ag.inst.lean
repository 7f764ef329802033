/-! the pure argument, 7: words of atoms, bodies that may hold, heads of an instance -/
def b64 (b : Bool) : Int64 := if b then 1 else 0
/-- a word for each predicate, its lowest bit tells -/
def ws6 (w : Nat → Int64) (S : Nat → Bool) : Prop := ∀ p, p < 6 → w p = b64 (S p)
theorem at_div : ∀ q, q < 384 → (nI q / 64).toNatClampNeg = q / 64 := by decide +kernel
theorem at_bit : ∀ q, q < 384 → ∀ b : Bool, lg_cmp ((((b64 b).toUInt64 >>> ((nI q - nI q / 64 * 64).toInt64.toUInt64 &&& Int64.toUInt64 63)).toInt64) &&& 1) 0 = (if b && decide (q % 64 = 0) then 1 else 0) := by decide +kernel
theorem at_or : ∀ q, q < 384 → q % 64 = 0 → ∀ b : Bool, (b64 b ||| ((1 : Int64) <<< ((nI q - nI q / 64 * 64).toInt64 &&& 63))) = 1 := by decide +kernel
theorem at_rng {q : Nat} (h : q < 384) : ¬ nI q < 0 ∧ ¬ 384 ≤ nI q := by
  rw [show (0 : Int32) = nI 0 from rfl, show (384 : Int32) = nI 384 from rfl, kI_lt (by omega) (by omega), kI_le (by omega) (by omega)]
  omega
theorem s_contains {w : Nat → Int64} {S : Nat → Bool} (hw : ws6 w S) {q : Nat} (hq : q < 384) : tv (m_k_X1_contains w (nI q)) (S (q / 64) = true ∧ q % 64 = 0) := by
  unfold m_k_X1_contains
  rw [if_neg (at_rng hq).1, if_neg (at_rng hq).2, at_div q hq, hw (q / 64) (by omega), at_bit q hq]
  cases h1 : S (q / 64) with
  | false => exact tv.zero fun h => by cases h.1
  | true =>
    by_cases h2 : q % 64 = 0
    · rw [decide_eq_true h2]
      exact tv.one ⟨rfl, h2⟩
    · rw [decide_eq_false h2]
      exact tv.zero fun h => h2 h.2
theorem s_cont {w : Nat → Int64} {S : Nat → Bool} (hw : ws6 w S) {p : Nat} (hp : p < 6) : tv (m_k_X1_contains w (nI (64 * p))) (S p = true) := by
  have h := s_contains hw (show 64 * p < 384 by omega)
  rw [show 64 * p / 64 = p by omega] at h
  exact h.iff ⟨fun g => g.1, fun g => ⟨g, by omega⟩⟩
theorem cmp_eq (x : Int64) : lg_cmp x x = 0 := by
  unfold lg_cmp
  rw [if_neg (show ¬ x > x from Int64.lt_irrefl), if_pos rfl]
theorem s_add {w : Nat → Int64} {S : Nat → Bool} (hw : ws6 w S) {p : Nat} (hp : p < 6) : m_k_X1_add w (nI (64 * p)) = (if S p then 0 else 1, vp_updL w p 1) ∧ ws6 (vp_updL w p 1) (fun q => S q || decide (q = p)) := by
  have hq : 64 * p < 384 := by omega
  have h1 := at_div _ hq
  rw [show 64 * p / 64 = p by omega] at h1
  refine ⟨?_, fun q h => ?_⟩
  · unfold m_k_X1_add
    rw [if_neg (at_rng hq).1, if_pos (Int32.not_le.mp (at_rng hq).2), h1, hw p hp, at_or _ hq (by omega)]
    have e : vp_updL w p 1 p = 1 := if_pos rfl
    rw [e]
    cases h2 : S p with
    | false => rfl
    | true => rfl
  · show (if q = p then (1 : Int64) else w q) = _
    by_cases e : q = p
    · subst e
      rw [if_pos rfl]
      show 1 = b64 (S q || decide (q = q))
      rw [decide_eq_true rfl]
      cases S q <;> rfl
    · rw [if_neg e, hw q h]
      show b64 (S q) = b64 (S q || decide (q = p))
      rw [decide_eq_false e]
      cases S q <;> rfl
section MI
variable {pp : pT} {n a z h c : Nat} {su po : Nat → Int64} {S Po : Nat → Bool}
theorem r_mayHoldOne {b : Nat} (hb : lOK pp n b) (hk : kOK pp b) (hn : n ≤ 6) (hs : ws6 su S) (hp : ws6 po Po) (pu b1 b2 b3 bp : Int32) : tv (m_k_X3_mayHoldOne pp pu b1 b2 b3 bp su po b) ((pI pp b 0 = 116 → (if pu = 0 then S else Po) (pd pp b) = true) ∧ (pI pp b 0 = 102 → S (pd pp b) = false)) := by
  obtain ⟨-, e2⟩ := l_pd hb hn
  have h1 := s_cont hs e2
  have h2 := s_cont hp e2
  unfold m_k_X3_mayHoldOne m_k_X3_mayHoldOne_27 m_k_X3_mayHoldOne_27a
  simp only [lE, l_atom hb hn]
  by_cases c1 : pI pp b 0 = 116
  · rw [if_pos c1]
    have c2 : ¬ pI pp b 0 = 102 := fun e => absurd (c1.symm.trans e) (by decide)
    by_cases c3 : pu = 0
    · rw [if_pos c3, if_pos c3]
      exact h1.iff ⟨fun g => ⟨fun _ => g, fun e => absurd e c2⟩, fun g => g.1 c1⟩
    · rw [if_neg c3, if_neg c3]
      exact h2.iff ⟨fun g => ⟨fun _ => g, fun e => absurd e c2⟩, fun g => g.1 c1⟩
  · rw [if_neg c1]
    by_cases c2 : pI pp b 0 = 102
    · rw [if_pos c2]
      by_cases c3 : m_k_X1_contains su (nI (64 * pd pp b)) = 0
      · rw [if_pos c3]
        refine tv.one ⟨fun e => absurd e c1, fun _ => ?_⟩
        have := h1.z.mp c3
        cases hS : S (pd pp b) with
        | false => rfl
        | true => exact absurd hS this
      · rw [if_neg c3]
        refine tv.zero fun g => ?_
        have := h1.nz.mp c3
        rw [g.2 c2] at this
        cases this
    · rw [if_neg c2, l_test hb (hk.elim (fun g => absurd g c1) fun hk => hk.elim (fun g => absurd g c2) fun hk => hk.elim (fun g => Or.inl g.1) fun g => Or.inr g.1)]
      exact tv.one ⟨fun e => absurd e c1, fun e => absurd e c2⟩
theorem r_mayHold (hr : rOK pp n a z h c) (hs : ws6 su S) (hp : ws6 po Po) (pu b1 b2 b3 bp : Int32) : tv (m_k_X3_mayHold pp pu b1 b2 b3 bp su po a 0) ((∀ p, bt (pI pp z 4) p = true → (if pu = 0 then S else Po) p = true) ∧ ∀ p, bt (pI pp z 5) p = true → S p = false) := by
  obtain ⟨h3, -, hl, h4, h5, -⟩ := hr.2.2.2.2.2.2.2.2
  have key := cond_all (c := c) (m_k_X3_mayHold_2 pp pu b1 b2 b3 bp su po a 0) (fun i => (pI pp (cA pp a i) 0 = 116 → (if pu = 0 then S else Po) (pd pp (cA pp a i)) = true) ∧ (pI pp (cA pp a i) 0 = 102 → S (pd pp (cA pp a i)) = false)) 1 True (tv.one trivial)
    (fun m => by rw [m_k_X3_mayHold_2_succ, m_k_X3_mayHold_2s, if_pos (c_end hr)])
    (fun m i hi => by
      obtain ⟨-, hlo, hk⟩ := hl i hi
      have ht := r_mayHoldOne hlo hk hr.1 hs hp pu b1 b2 b3 bp
      rw [m_k_X3_mayHold_2_succ, m_k_X3_mayHold_2s, if_neg (c_in hr hi), lE, r_cond hr hi, oE_some, lE, m_k_X3_mayHold_42, kI_s, if_pos hlo.2.2.2.2.1]
      by_cases c1 : m_k_X3_mayHoldOne pp pu b1 b2 b3 bp su po (cA pp a i) = 0
      · rw [if_pos c1]
        exact Or.inr ⟨rfl, ht.z.mp c1⟩
      · rw [if_neg c1]
        exact Or.inl ⟨rfl, ht.nz.mp c1⟩)
  obtain ⟨m, hm⟩ := wF_ge
  refine (key (c - 0) wF 0 rfl (by rw [hm]; omega) (Nat.zero_le _)).iff ⟨fun g => ⟨fun p hp => ?_, fun p hp => ?_⟩, fun g => ⟨trivial, fun i _ hi => ⟨fun e => ?_, fun e => ?_⟩⟩⟩
  · obtain ⟨i, hi, e1, e2⟩ := (h4 p).mp hp
    rw [← e2]
    exact (g.2 i (Nat.zero_le _) hi).1 e1
  · obtain ⟨i, hi, e1, e2⟩ := (h5 p).mp hp
    rw [← e2]
    exact (g.2 i (Nat.zero_le _) hi).2 e1
  · exact g.1 _ ((h4 _).mpr ⟨i, hi, e, rfl⟩)
  · exact g.2 _ ((h5 _).mpr ⟨i, hi, e, rfl⟩)
theorem r_mayHold_d (hr : rOK pp n a z h c) (pu b1 b2 b3 bp : Int32) {d : Int32} (hd : ¬ d = 0) : m_k_X3_mayHold pp pu b1 b2 b3 bp su po a d = 1 := by
  obtain ⟨h3, -, hl, h4, h5, -⟩ := hr.2.2.2.2.2.2.2.2
  have key := cond_all (c := c) (m_k_X3_mayHold_2 pp pu b1 b2 b3 bp su po a d) (fun i => True) 1 True (tv.one trivial)
    (fun m => by rw [m_k_X3_mayHold_2_succ, m_k_X3_mayHold_2s, if_pos (c_end hr)])
    (fun m i hi => by
      obtain ⟨-, hlo, hk⟩ := hl i hi
      rw [m_k_X3_mayHold_2_succ, m_k_X3_mayHold_2s, if_neg (c_in hr hi), lE, r_cond hr hi, oE_some, m_k_X3_mayHold_42, kI_s, if_neg (by rw [hlo.2.2.2.2.1]; exact fun e => hd e.symm)]
      exact Or.inl ⟨rfl, trivial⟩)
  obtain ⟨m, hm⟩ := wF_ge
  exact (key (c - 0) wF 0 rfl (by rw [hm]; omega) (Nat.zero_le _)).t ⟨trivial, fun _ _ _ => trivial⟩
theorem s_headAt {hds : Nat → Int32} {i : Nat} (hi : i < 16) : m_k_X3_headAtomAt hds (nI i) = hds i := by
  unfold m_k_X3_headAtomAt
  rw [if_neg (by rw [show (0 : Int32) = nI 0 from rfl, kI_lt (by omega) (by omega)]; omega), if_neg (by rw [show (16 : Int32) = nI 16 from rfl, kI_le (by omega) (by omega)]; omega), kI_nat (by omega)]
theorem s_listHead (hds : Nat → Int32) {k : Nat} (hk : k < 16) (x : Int32) : (∃ i, i < k ∧ hds i = x) ∧ m_k_X3_listHead (nI k) hds x = (hds, nI k) ∨ (¬ ∃ i, i < k ∧ hds i = x) ∧ m_k_X3_listHead (nI k) hds x = (upd hds k x, nI (k + 1)) := by
  have key : ∀ d m i, k - i = d → d < m → i ≤ k → (¬ ∃ j, j < i ∧ hds j = x) → (∃ i, i < k ∧ hds i = x) ∧ m_k_X3_listHead_2 (nI k) hds x m (nI i) = (hds, nI k) ∨ (¬ ∃ i, i < k ∧ hds i = x) ∧ m_k_X3_listHead_2 (nI k) hds x m (nI i) = (upd hds k x, nI (k + 1)) := by
    intro d
    induction d with
    | zero =>
      intro m i hd hm hi hno
      obtain ⟨m, rfl⟩ : ∃ q, m = q + 1 := ⟨m - 1, by omega⟩
      have : i = k := by omega
      subst this
      refine Or.inr ⟨hno, ?_⟩
      rw [m_k_X3_listHead_2_succ, m_k_X3_listHead_2s, if_pos (Int32.le_refl _), if_neg (by rw [show (0 : Int32) = nI 0 from rfl, kI_lt (by omega) (by omega)]; omega), if_neg (by rw [show (16 : Int32) = nI 16 from rfl, kI_le (by omega) (by omega)]; omega), kI_nat (by omega), kI_s]
    | succ d ih =>
      intro m i hd hm hi hno
      obtain ⟨m, rfl⟩ : ∃ q, m = q + 1 := ⟨m - 1, by omega⟩
      rw [m_k_X3_listHead_2_succ, m_k_X3_listHead_2s, if_neg (by rw [kI_le (by omega) (by omega)]; omega), lE, s_headAt (by omega), kI_s]
      by_cases e : hds i = x
      · rw [if_pos e]
        exact Or.inl ⟨⟨i, by omega, e⟩, rfl⟩
      · rw [if_neg e]
        refine ih m (i + 1) (by omega) (by omega) (by omega) fun ⟨j, g1, g2⟩ => ?_
        rcases (show j = i ∨ j < i by omega) with rfl | g
        · exact e g2
        · exact hno ⟨j, g, g2⟩
  obtain ⟨m, hm⟩ := wF_ge
  exact key (k - 0) wF 0 rfl (by rw [hm]; omega) (Nat.zero_le _) fun ⟨j, g, _⟩ => by omega
/-- the listed heads: each head of the row once -/
def hL (pp : pT) (z : Nat) (hds : Nat → Int32) (k : Nat) : Prop := k ≤ 2 ∧ (∀ i, i < k → ∃ p, p < 6 ∧ hds i = nI (64 * p) ∧ bt (pI pp z 1) p = true) ∧ (∀ i j, i < j → j < k → ¬ hds i = hds j) ∧ ∀ p, bt (pI pp z 1) p = true → p < 6 ∧ ∃ i, i < k ∧ hds i = nI (64 * p)
theorem at_ne : ∀ p, p < 6 → ¬ nI (64 * p) = -1 := by decide +kernel
theorem r_listHeads (hr : rOK pp n a z h c) (su : Nat → Int64) (hds : Nat → Int32) (b1 b2 b3 bp : Int32) : ∃ hds' k, m_k_X3_listHeads pp b1 b2 b3 bp su hds a = (1, hds', nI k, b3) ∧ hL pp z hds' k := by
  obtain ⟨hh, h8, -, hl, hm1⟩ := hr.2.2.2.2.2.2.2.1
  obtain ⟨m0, hm0⟩ := wF_ge
  have hn := hr.1
  have key : ∀ (rc : Int32 → (Nat → Int32) → Int32 → Int32 → r_k_X3_listHeads) (v4 : Int32) (d m i k : Nat) (hds : Nat → Int32), h - i = d → d < m → i ≤ h → k ≤ i → (∀ j, j < k → ∃ q, q < i ∧ hds j = nI (64 * pd pp (hA pp a q))) → (∀ j j2, j < j2 → j2 < k → ¬ hds j = hds j2) → (∀ q, q < i → ∃ j, j < k ∧ hds j = nI (64 * pd pp (hA pp a q))) →
      ∃ hds' k', m_k_X3_listHeads_72 pp b1 b2 bp a rc v4 b3 m (nI i) hds (nI k) = rc (v4 + 1) hds' (nI k') b3 ∧ k' ≤ h ∧ (∀ j, j < k' → ∃ q, q < h ∧ hds' j = nI (64 * pd pp (hA pp a q))) ∧ (∀ j j2, j < j2 → j2 < k' → ¬ hds' j = hds' j2) ∧ (∀ q, q < h → ∃ j, j < k' ∧ hds' j = nI (64 * pd pp (hA pp a q))) := by
    intro rc v4 d
    induction d with
    | zero =>
      intro m i k hds hd hm hi hk i1 i2 i3
      obtain ⟨m, rfl⟩ : ∃ q, m = q + 1 := ⟨m - 1, by omega⟩
      have : i = h := by omega
      subst this
      refine ⟨hds, k, ?_, hk, i1, i2, i3⟩
      rw [m_k_X3_listHeads_72_succ, m_k_X3_listHeads_72s, if_pos (by rw [h8]; exact Int32.le_refl _), m_k_X3_listHeads_128]
    | succ d ih =>
      intro m i k hds hd hm hi hk i1 i2 i3
      obtain ⟨m, rfl⟩ : ∃ q, m = q + 1 := ⟨m - 1, by omega⟩
      have hi' : i < h := by omega
      have hlo := (hl i hi').2
      obtain ⟨-, e2⟩ := l_pd hlo hn
      rw [m_k_X3_listHeads_72_succ, m_k_X3_listHeads_72s, if_neg (by rw [h8, kI_le (by omega) (by omega)]; omega), lE, r_head hr hi', oE_some, lE, l_atom hlo hn, if_neg (at_ne _ e2), lE, m_k_X3_listHeads_122, kI_s]
      rcases s_listHead hds (show k < 16 by omega) (nI (64 * pd pp (hA pp a i))) with ⟨⟨j, g1, g2⟩, e⟩ | ⟨g, e⟩
      · rw [e]
        dsimp only
        refine ih m (i + 1) k hds (by omega) (by omega) (by omega) (by omega) (fun j hj => ?_) i2 (fun q hq => ?_)
        · obtain ⟨q, hq, hqe⟩ := i1 j hj
          exact ⟨q, by omega, hqe⟩
        · rcases (show q = i ∨ q < i by omega) with rfl | g
          · exact ⟨j, g1, g2⟩
          · exact i3 q g
      · rw [e]
        dsimp only
        have u1 : ∀ j, j < k → upd hds k (nI (64 * pd pp (hA pp a i))) j = hds j := fun j hj => if_neg (by omega)
        have u2 : upd hds k (nI (64 * pd pp (hA pp a i))) k = nI (64 * pd pp (hA pp a i)) := if_pos rfl
        refine ih m (i + 1) (k + 1) _ (by omega) (by omega) (by omega) (by omega) (fun j hj => ?_) (fun j j2 hj hj2 he => ?_) (fun q hq => ?_)
        · rcases (show j = k ∨ j < k by omega) with rfl | g
          · exact ⟨i, by omega, u2⟩
          · obtain ⟨q, hq, hqe⟩ := i1 j g
            exact ⟨q, by omega, (u1 j g).trans hqe⟩
        · rcases (show j2 = k ∨ j2 < k by omega) with rfl | g2
          · rw [u2, u1 j hj] at he
            exact g ⟨j, hj, he⟩
          · rw [u1 j (by omega), u1 j2 g2] at he
            exact i2 j j2 hj g2 he
        · rcases (show q = i ∨ q < i by omega) with rfl | g
          · exact ⟨k, by omega, u2⟩
          · obtain ⟨j, hj, hje⟩ := i3 q g
            exact ⟨j, by omega, (u1 j hj).trans hje⟩
  obtain ⟨hds', k', e, g0, g1, g2, g3⟩ := key (m_k_X3_listHeads_24 pp b1 b2 bp su a 1 0 (m0 + 999)) 0 (h - 0) wF 0 0 hds rfl (by rw [hm0]; omega) (Nat.zero_le _) (Nat.le_refl _) (fun j hj => absurd hj (Nat.not_lt_zero j)) (fun j j2 _ hj => absurd hj (Nat.not_lt_zero j2)) (fun q hq => absurd hq (Nat.not_lt_zero q))
  refine ⟨hds', k', ?_, by omega, fun i hi => ?_, g2, fun p hp => ?_⟩
  · unfold m_k_X3_listHeads m_k_X3_listHeads_20
    rw [lE, show m_k_X8_hasSpan pp a = 0 from if_pos hr.2.2.2.2.1, if_pos rfl, show m_k_X3_listHeads_24 pp b1 b2 bp su a 1 0 wF = m_k_X3_listHeads_24 pp b1 b2 bp su a 1 0 (m0 + 999 + 1) from by rw [hm0], m_k_X3_listHeads_24_succ, m_k_X3_listHeads_24s, if_neg (by decide), if_pos rfl, m_k_X3_listHeads_69]
    refine (show _ = _ from e).trans ?_
    rw [m_k_X3_listHeads_24_succ, m_k_X3_listHeads_24s, if_pos (by decide)]
  · obtain ⟨q, hq, he⟩ := g1 i hi
    exact ⟨pd pp (hA pp a q), (l_pd (hl q hq).2 hn).2, he, (hm1 _).mpr ⟨q, hq, rfl⟩⟩
  · obtain ⟨q, hq, he⟩ := (hm1 p).mp hp
    obtain ⟨j, hj, hje⟩ := g3 q hq
    rw [he] at hje
    exact ⟨by rw [← he]; exact (l_pd (hl q hq).2 hn).2, j, hj, hje⟩
end MI
