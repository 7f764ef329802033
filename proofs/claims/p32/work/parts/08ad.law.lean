/-! the pure argument, 4: the law's answers, costs, order, reasons -/
theorem all_loop2 {many : Nat} (f : Nat → Int32 → Int32 → Int32) (P : Nat → Prop) (hend : ∀ n, f (n + 1) 1 (nI many) = 1) (hzero : ∀ n i, i ≤ many → f (n + 1) 0 (nI i) = 0) (hstep : ∀ n i, i < many → ∃ v', tv v' (P i) ∧ f (n + 1) 1 (nI i) = f n v' (nI (i + 1))) :
    ∀ d n i, many - i = d → d < n → i ≤ many → tv (f n 1 (nI i)) (∀ r, i ≤ r → r < many → P r) := by
  intro d
  induction d with
  | zero =>
    intro n i hd hn hi
    obtain ⟨n, rfl⟩ : ∃ m, n = m + 1 := ⟨n - 1, by omega⟩
    have : i = many := by omega
    subst this
    rw [hend]
    exact tv.one fun r h1 h2 => absurd h2 (by omega)
  | succ d ih =>
    intro n i hd hn hi
    obtain ⟨n, rfl⟩ : ∃ m, n = m + 1 := ⟨n - 1, by omega⟩
    obtain ⟨v', h1, h2⟩ := hstep n i (by omega)
    rw [h2]
    rcases h1.1 with rfl | rfl
    · obtain ⟨m, rfl⟩ : ∃ m, n = m + 1 := ⟨n - 1, by omega⟩
      rw [hzero m (i + 1) (by omega)]
      exact tv.zero fun h => absurd (h1.2.mpr (h i (Nat.le_refl _) (by omega))) (by decide)
    · refine (ih n (i + 1) (by omega) (by omega) (by omega)).iff ⟨fun h r g1 g2 => ?_, fun h r g1 g2 => h r (by omega) g2⟩
      rcases (show r = i ∨ i + 1 ≤ r by omega) with rfl | g
      · exact h1.2.mp rfl
      · exact h r g g2
theorem sm_nI {x : Int32} (h : sm x) : ∃ k, k < 64 ∧ x = nI k := by
  refine ⟨(bt x 0).toNat + 2 * (bt x 1).toNat + 4 * (bt x 2).toNat + 8 * (bt x 3).toNat + 16 * (bt x 4).toNat + 32 * (bt x 5).toNat, ?_, (mk6_self h).symm⟩
  have h0 := Bool.toNat_le (bt x 0)
  have h1 := Bool.toNat_le (bt x 1)
  have h2 := Bool.toNat_le (bt x 2)
  have h3 := Bool.toNat_le (bt x 3)
  have h4 := Bool.toNat_le (bt x 4)
  have h5 := Bool.toNat_le (bt x 5)
  omega
theorem kI_sm : ∀ k, k < 64 → sm (nI k) := fun k hk i hi => by
  by_cases h : i < 32
  · have h1 : ∀ k, k < 64 → ∀ i, i < 32 → 6 ≤ i → bt (nI k) i = false := by decide +kernel
    exact h1 k hk i h hi
  · exact b_big (Nat.not_lt.mp h)
theorem sub_le64 : ∀ j, j < 64 → ∀ k, k < 64 → nI j &&& (nI k ^^^ (-1)) = 0 → j ≤ k := by decide +kernel
theorem b_sub0 {x y : Int32} : x &&& (y ^^^ (-1)) = 0 ↔ ∀ p, bt x p = true → bt y p = true := by
  constructor
  · intro e p h
    by_cases hp : p < 32
    · have h3 : bt (x &&& (y ^^^ (-1))) p = bt 0 p := by rw [e]
      rw [b_and, b_not y hp, b_0, h] at h3
      simpa using h3
    · rw [b_big (Nat.not_lt.mp hp)] at h
      cases h
  · intro e
    apply b_ext
    intro p hp
    rw [b_and, b_not y hp, b_0]
    cases h1 : bt x p with
    | false => rfl
    | true => rw [e p h1]; rfl
section LW
variable {pp : pT} {gf : Nat → Option Nat} {many : Nat}
/-- an answer of the law's rows -/
def zA (pp : pT) (gf : Nat → Option Nat) (many : Nat) (A : Int32) : Prop := tA many (zK pp gf) (zM pp gf 1) (zM pp gf 4) (zM pp gf 5) (zM pp gf 8) (zM pp gf 9) (zI pp gf 2) (zI pp gf 3) (bt A)
theorem lw_answer (hz : zsOK pp gf many) {A : Int32} (hA : sm A) : tv (m_k_L_isAnswer pp gf (nI many) 0 0 A) (zA pp gf many A) := by
  obtain ⟨k, hk, rfl⟩ := sm_nI hA
  have h0 : ∀ x : Int32, x &&& 0 = 0 := fun x => Int32.and_zero
  unfold m_k_L_isAnswer
  rw [if_pos (h0 _), lE]
  have hc := lw_closed hz (nI k)
  by_cases c1 : m_k_L_isClosed pp gf (nI many) (nI k) = 0
  · rw [if_pos c1]
    exact tv.zero fun h => (hc.z.mp c1) h.1
  · rw [if_neg c1]
    have g1 := hc.nz.mp c1
    have key := all_loop2 (many := k) (m_k_L_isAnswer_26 pp gf (nI many) 0 0 (nI k)) (fun j => nI j &&& (nI k ^^^ (-1)) = 0 → ¬ tE many (zK pp gf) (zM pp gf 1) (zM pp gf 4) (zM pp gf 5) (zM pp gf 8) (zM pp gf 9) (bt (nI k)) (bt (nI j)))
      (fun n => by rw [m_k_L_isAnswer_26_succ, m_k_L_isAnswer_26s, if_pos (Int32.le_refl _)])
      (fun n i _ => by
        rw [m_k_L_isAnswer_26_succ, m_k_L_isAnswer_26s, if_pos (rfl : (0 : Int32) = 0)]
        split <;> rfl)
      (fun n i hi => by
        rw [m_k_L_isAnswer_26_succ, m_k_L_isAnswer_26s, if_neg (by rw [kI_le (by omega) (by omega)]; omega), if_neg (by decide : ¬ (1 : Int32) = 0)]
        simp only [m_k_L_isAnswer_72, m_k_L_isAnswer_73, m_k_L_isAnswer_92, m_k_L_isAnswer_97, lE, kI_s, Int32.and_zero, Int32.zero_and, if_pos (rfl : (0 : Int32) = 0), if_neg (by decide : ¬ (1 : Int32) = 0)]
        by_cases c2 : nI i &&& (nI k ^^^ (-1)) = 0
        · rw [if_pos c2]
          have he := lw_enough hz (nI k) (nI i)
          by_cases c3 : m_k_L_isEnough pp gf (nI many) (nI k) (nI i) = 0
          · rw [if_pos c3]
            exact ⟨1, tv.one fun _ => he.z.mp c3, rfl⟩
          · rw [if_neg c3]
            exact ⟨0, tv.zero fun h => h c2 (he.nz.mp c3), rfl⟩
        · rw [if_neg c2]
          exact ⟨1, tv.one fun h => absurd h c2, rfl⟩)
    obtain ⟨n, hn⟩ : ∃ n, wF = n + 100 := ⟨4294967197, rfl⟩
    have h := key (k - 0) wF 0 rfl (by rw [hn]; omega) (Nat.zero_le _)
    refine h.iff ⟨fun h => ⟨g1, fun B hB hE => ?_⟩, fun h j _ hj hs => ?_⟩
    · have hb : ∀ p, bt (mk6 B) p = B p := fun p => by
        rw [mk6_b]
        by_cases hp : p < 6
        · rw [decide_eq_true hp]; rfl
        · rw [decide_eq_false hp]
          cases hb : B p with
          | false => rfl
          | true =>
            have := hB.1 p hb
            rw [hA p (by omega)] at this
            cases this
      obtain ⟨j, hj, hje⟩ := sm_nI (mk6_sm B)
      have hb2 : ∀ p, bt (nI j) p = B p := fun p => by rw [← hje]; exact hb p
      have hs : nI j &&& (nI k ^^^ (-1)) = 0 := b_sub0.mpr fun p hp => hB.1 p (by rw [← hb2]; exact hp)
      have hle := sub_le64 j hj k hk hs
      have hlt : j < k := by
        rcases Nat.lt_or_ge j k with g | g
        · exact g
        · have : j = k := by omega
          subst this
          obtain ⟨p, g1, g2⟩ := hB.2
          rw [hb2 p, g2] at g1
          cases g1
      refine h j (Nat.zero_le _) hlt hs ?_
      rw [show bt (nI j) = B from funext hb2]
      exact hE
    · refine h.2 (bt (nI j)) ⟨b_sub0.mp hs, ?_⟩
      by_cases g : ∃ p, bt (nI k) p = true ∧ bt (nI j) p = false
      · exact g
      · have : nI k = nI j := b_ext fun p _ => by
          cases h1 : bt (nI j) p with
          | true => exact b_sub0.mp hs p h1
          | false =>
            cases h2 : bt (nI k) p with
            | false => rfl
            | true => exact absurd ⟨p, h2, h1⟩ g
        rw [kI_eq (by omega) (by omega)] at this
        omega
/-- what a row costs at a level -/
noncomputable def zc (pp : pT) (gf : Nat → Option Nat) (lv : Int32) (A : Int32) (r : Nat) : Int := if zK pp gf r = 119 ∧ zI pp gf 3 r = lv ∧ m_k_L_isHeld pp (zR gf r) A = 1 then (zI pp gf 2 r).toInt else 0
def isum (f : Nat → Int) : Nat → Int
  | 0 => 0
  | n + 1 => isum f n + f n
noncomputable def zC (pp : pT) (gf : Nat → Option Nat) (many : Nat) (lv A : Int32) : Int := isum (zc pp gf lv A) many
theorem zc_rng (hz : zsOK pp gf many) (lv A : Int32) {r : Nat} (hr : r < many) : -4 ≤ zc pp gf lv A r ∧ zc pp gf lv A r ≤ 4 := by
  obtain ⟨-, -, -, -, -, -, -, -, -, h1, h2, -⟩ := hz.at hr
  unfold zc zI
  split
  · exact ⟨h1, h2⟩
  · omega
theorem isum_rng {f : Nat → Int} : ∀ (n : Nat), (∀ r, r < n → -4 ≤ f r ∧ f r ≤ 4) → -4 * (n : Int) ≤ isum f n ∧ isum f n ≤ 4 * (n : Int)
  | 0, _ => ⟨by simp [isum], by simp [isum]⟩
  | n + 1, h => by
    have h1 := isum_rng n fun r hr => h r (by omega)
    have h2 := h n (by omega)
    simp only [isum]
    omega
theorem zC_rng (hz : zsOK pp gf many) (lv A : Int32) : -40 ≤ zC pp gf many lv A ∧ zC pp gf many lv A ≤ 40 := by
  have h1 := isum_rng (f := zc pp gf lv A) many fun r hr => zc_rng hz lv A hr
  have h2 := hz.1
  unfold zC
  omega
theorem lw_cost (hz : zsOK pp gf many) (A lv : Int32) : (m_k_L_costOf pp gf (nI many) A lv).toInt = zC pp gf many lv A := by
  have hm := hz.1
  have key : ∀ d n i (v : Int32), many - i = d → d < n → i ≤ many → v.toInt = isum (zc pp gf lv A) i → (m_k_L_costOf_6 pp gf (nI many) A lv n v (nI i)).toInt = isum (zc pp gf lv A) many := by
    intro d
    induction d with
    | zero =>
      intro n i v hd hn hi hv
      obtain ⟨n, rfl⟩ : ∃ m, n = m + 1 := ⟨n - 1, by omega⟩
      have : i = many := by omega
      subst this
      rw [m_k_L_costOf_6_succ, m_k_L_costOf_6s, if_pos (Int32.le_refl _)]
      exact hv
    | succ d ih =>
      intro n i v hd hn hi hv
      obtain ⟨n, rfl⟩ : ∃ m, n = m + 1 := ⟨n - 1, by omega⟩
      have hi' : i < many := by omega
      obtain ⟨hg, hk, h7, h6, -⟩ := hz.at hi'
      have hh := lw_held h7 h6 A
      have h4 := isum_rng (f := zc pp gf lv A) i fun r hr => zc_rng hz lv A (show r < many by omega)
      have h5 := zc_rng hz lv A hi'
      rw [m_k_L_costOf_6_succ, m_k_L_costOf_6s, if_neg (by rw [kI_le (by omega) (by omega)]; omega), kI_nat (by omega), hg, oE_some, z0, z2, z3]
      simp only [m_k_L_costOf_55, m_k_L_costOf_56, lE, kI_s]
      have go : ∀ w : Int32, w.toInt = zc pp gf lv A i → (m_k_L_costOf_6 pp gf (nI many) A lv n (v + w) (nI (i + 1))).toInt = isum (zc pp gf lv A) many := fun w hw => by
        refine ih n (i + 1) (v + w) (by omega) (by omega) (by omega) ?_
        rw [wi_add (by omega) (by omega), hv, hw]
        rfl
      by_cases c1 : pI pp (zR gf i) 0 = 119
      · rw [if_pos c1]
        by_cases c2 : pI pp (zR gf i) 3 = lv
        · rw [if_pos c2]
          by_cases c3 : m_k_L_isHeld pp (zR gf i) A = 0
          · rw [if_pos c3]
            refine go 0 ?_
            unfold zc
            rw [if_neg (fun h => absurd (c3.symm.trans h.2.2) (by decide))]
            rfl
          · rw [if_neg c3]
            refine go _ ?_
            unfold zc
            rw [if_pos ⟨c1, c2, hh.1.resolve_left c3⟩]
            rfl
        · rw [if_neg c2]
          refine go 0 ?_
          unfold zc
          rw [if_neg (fun h => c2 h.2.1)]
          rfl
      · rw [if_neg c1]
        refine go 0 ?_
        unfold zc
        rw [if_neg (fun h => c1 h.1)]
        rfl
  obtain ⟨n, hn⟩ : ∃ n, wF = n + 20 := ⟨4294967277, rfl⟩
  exact key (many - 0) wF 0 0 rfl (by rw [hn]; omega) (Nat.zero_le _) rfl
/-- the first atom in which two sets differ is in the first one -/
def fstA (A B : Int32) : Prop := ∃ p, bt A p = true ∧ bt B p = false ∧ ∀ q, q < p → bt A q = bt B q
/-- the order of answers -/
def ahC (pp : pT) (gf : Nat → Option Nat) (many : Nat) (A B : Int32) (P : Prop) : Prop := zC pp gf many 3 A < zC pp gf many 3 B ∨ zC pp gf many 3 A = zC pp gf many 3 B ∧ (zC pp gf many 2 A < zC pp gf many 2 B ∨ zC pp gf many 2 A = zC pp gf many 2 B ∧ (zC pp gf many 1 A < zC pp gf many 1 B ∨ zC pp gf many 1 A = zC pp gf many 1 B ∧ P))
def ah (pp : pT) (gf : Nat → Option Nat) (many : Nat) (A B : Int32) : Prop := ahC pp gf many A B (fstA A B)
theorem fstA_asym {A B : Int32} (h : fstA A B) : ¬ fstA B A := by
  rintro ⟨q, h1, h2, h3⟩
  obtain ⟨p, g1, g2, g3⟩ := h
  rcases Nat.lt_trichotomy p q with h | h | h
  · have := h3 p h
    rw [g1, g2] at this
    cases this
  · subst h
    rw [g1] at h2
    cases h2
  · have := g3 q h
    rw [h1, h2] at this
    cases this
theorem fstA_tr {A B C : Int32} (h : fstA A B) (h' : fstA B C) : fstA A C := by
  obtain ⟨p, g1, g2, g3⟩ := h
  obtain ⟨q, h1, h2, h3⟩ := h'
  rcases Nat.lt_trichotomy p q with h | h | h
  · exact ⟨p, g1, by rw [← h3 p h]; exact g2, fun r hr => (g3 r hr).trans (h3 r (by omega))⟩
  · subst h
    rw [g2] at h1
    cases h1
  · exact ⟨q, by rw [g3 q h]; exact h1, h2, fun r hr => (g3 r (by omega)).trans (h3 r hr)⟩
theorem fstA_tot {A B : Int32} (h : ¬ A = B) : fstA A B ∨ fstA B A := by
  have h1 : ¬ ∀ n, ∀ p, p < n → bt A p = bt B p := fun h2 => h (b_ext fun i hi => h2 32 i hi)
  have h3 : ∀ n, (∀ p, p < n → bt A p = bt B p) ∨ ∃ p, ¬ bt A p = bt B p ∧ ∀ q, q < p → bt A q = bt B q := by
    intro n
    induction n with
    | zero => exact Or.inl fun p hp => absurd hp (Nat.not_lt_zero p)
    | succ n ih =>
      rcases ih with ih | ih
      · by_cases e : bt A n = bt B n
        · refine Or.inl fun p hp => ?_
          rcases (show p = n ∨ p < n by omega) with rfl | g
          · exact e
          · exact ih p g
        · exact Or.inr ⟨n, e, ih⟩
      · exact Or.inr ih
  rcases h3 32 with h4 | ⟨p, g1, g2⟩
  · exact absurd (b_ext fun i hi => h4 i hi) h
  · cases ha : bt A p with
    | true =>
      refine Or.inl ⟨p, ha, ?_, g2⟩
      cases hb : bt B p with
      | false => rfl
      | true => exact absurd (ha.trans hb.symm) g1
    | false =>
      refine Or.inr ⟨p, ?_, ha, fun q hq => (g2 q hq).symm⟩
      cases hb : bt B p with
      | true => rfl
      | false => exact absurd (ha.trans hb.symm) g1
theorem ah_asym {A B : Int32} (h : ah pp gf many A B) : ¬ ah pp gf many B A := by
  intro h'
  unfold ah ahC at h h'
  rcases h with h | ⟨e3, h | ⟨e2, h | ⟨e1, h⟩⟩⟩ <;> rcases h' with h' | ⟨e3', h' | ⟨e2', h' | ⟨e1', h'⟩⟩⟩ <;> first | omega | exact fstA_asym h h'
theorem ah_irr {A : Int32} : ¬ ah pp gf many A A := fun h => ah_asym h h
theorem ah_tr {A B C : Int32} (h : ah pp gf many A B) (h' : ah pp gf many B C) : ah pp gf many A C := by
  unfold ah ahC at h h' ⊢
  rcases h with h | ⟨e3, h | ⟨e2, h | ⟨e1, h⟩⟩⟩ <;> rcases h' with h' | ⟨e3', h' | ⟨e2', h' | ⟨e1', h'⟩⟩⟩
  all_goals first
    | exact Or.inl (by omega)
    | exact Or.inr ⟨by omega, Or.inl (by omega)⟩
    | exact Or.inr ⟨by omega, Or.inr ⟨by omega, Or.inl (by omega)⟩⟩
    | exact Or.inr ⟨by omega, Or.inr ⟨by omega, Or.inr ⟨by omega, fstA_tr h h'⟩⟩⟩
theorem ah_tot {A B : Int32} (h : ¬ A = B) : ah pp gf many A B ∨ ah pp gf many B A := by
  unfold ah ahC
  rcases fstA_tot h with f | f
  · rcases (show zC pp gf many 3 A < zC pp gf many 3 B ∨ zC pp gf many 3 A = zC pp gf many 3 B ∨ zC pp gf many 3 B < zC pp gf many 3 A by omega) with h3 | h3 | h3
    · exact Or.inl (Or.inl h3)
    · rcases (show zC pp gf many 2 A < zC pp gf many 2 B ∨ zC pp gf many 2 A = zC pp gf many 2 B ∨ zC pp gf many 2 B < zC pp gf many 2 A by omega) with h2 | h2 | h2
      · exact Or.inl (Or.inr ⟨h3, Or.inl h2⟩)
      · rcases (show zC pp gf many 1 A < zC pp gf many 1 B ∨ zC pp gf many 1 A = zC pp gf many 1 B ∨ zC pp gf many 1 B < zC pp gf many 1 A by omega) with h1 | h1 | h1
        · exact Or.inl (Or.inr ⟨h3, Or.inr ⟨h2, Or.inl h1⟩⟩)
        · exact Or.inl (Or.inr ⟨h3, Or.inr ⟨h2, Or.inr ⟨h1, f⟩⟩⟩)
        · exact Or.inr (Or.inr ⟨h3.symm, Or.inr ⟨h2.symm, Or.inl h1⟩⟩)
      · exact Or.inr (Or.inr ⟨h3.symm, Or.inl h2⟩)
    · exact Or.inr (Or.inl h3)
  · rcases (show zC pp gf many 3 A < zC pp gf many 3 B ∨ zC pp gf many 3 A = zC pp gf many 3 B ∨ zC pp gf many 3 B < zC pp gf many 3 A by omega) with h3 | h3 | h3
    · exact Or.inl (Or.inl h3)
    · rcases (show zC pp gf many 2 A < zC pp gf many 2 B ∨ zC pp gf many 2 A = zC pp gf many 2 B ∨ zC pp gf many 2 B < zC pp gf many 2 A by omega) with h2 | h2 | h2
      · exact Or.inl (Or.inr ⟨h3, Or.inl h2⟩)
      · rcases (show zC pp gf many 1 A < zC pp gf many 1 B ∨ zC pp gf many 1 A = zC pp gf many 1 B ∨ zC pp gf many 1 B < zC pp gf many 1 A by omega) with h1 | h1 | h1
        · exact Or.inl (Or.inr ⟨h3, Or.inr ⟨h2, Or.inl h1⟩⟩)
        · exact Or.inr (Or.inr ⟨h3.symm, Or.inr ⟨h2.symm, Or.inr ⟨h1.symm, f⟩⟩⟩)
        · exact Or.inr (Or.inr ⟨h3.symm, Or.inr ⟨h2.symm, Or.inl h1⟩⟩)
      · exact Or.inr (Or.inr ⟨h3.symm, Or.inl h2⟩)
    · exact Or.inr (Or.inl h3)
theorem low_one : ∀ x, x < 64 → 0 < x → ∃ p, p < 6 ∧ bt (nI x) p = true ∧ (∀ q, q < p → bt (nI x) q = false) ∧ nI x &&& (-(nI x)) = (1 : Int32) <<< (nI p &&& 31) := by decide +kernel
theorem lw_first {A B : Int32} (hA : sm A) (hB : sm B) : ¬ (A &&& ((A ^^^ B) &&& (-(A ^^^ B)))) = 0 ↔ fstA A B := by
  have hx : sm (A ^^^ B) := fun i hi => by rw [b_xor, hA i hi, hB i hi]; rfl
  obtain ⟨x, hx64, hxe⟩ := sm_nI hx
  by_cases h0 : x = 0
  · subst h0
    have e : A = B := b_ext fun i _ => by
      have h1 : bt (A ^^^ B) i = bt (nI 0) i := by rw [hxe]
      rw [b_xor, show nI 0 = (0 : Int32) from rfl, b_0] at h1
      cases h2 : bt A i <;> cases h3 : bt B i <;> rw [h2, h3] at h1 <;> first | rfl | cases h1
    subst e
    constructor
    · intro h
      refine absurd ?_ h
      rw [hxe]
      show A &&& (nI 0 &&& -(nI 0)) = 0
      rw [show nI 0 = (0 : Int32) from rfl, Int32.zero_and, Int32.and_zero]
    · intro h
      exact absurd h fun h => fstA_asym h h
  · obtain ⟨p, hp, h1, h2, h3⟩ := low_one x hx64 (by omega)
    rw [hxe, h3]
    have hb : ∀ i, bt A i = (bt B i ^^ bt (nI x) i) := fun i => by
      rw [← hxe, b_xor]
      cases bt A i <;> cases bt B i <;> rfl
    have ht : (A &&& ((1 : Int32) <<< (nI p &&& 31)) = 0) ↔ bt A p = false := by
      rw [b_dis]
      constructor
      · intro h
        exact h p (by rw [b_one' (by omega)]; exact decide_eq_true rfl)
      · intro h i hi
        rw [b_one' (by omega)] at hi
        rw [of_decide_eq_true hi]
        exact h
    rw [ht]
    constructor
    · intro h
      have ha : bt A p = true := by
        cases hb : bt A p with
        | true => rfl
        | false => exact absurd hb h
      refine ⟨p, ha, ?_, fun q hq => ?_⟩
      · have h4 := hb p
        rw [h1, ha] at h4
        cases h5 : bt B p with
        | false => rfl
        | true => rw [h5] at h4; cases h4
      · rw [hb q, h2 q hq]
        cases bt B q <;> rfl
    · rintro ⟨q, g1, g2, g3⟩ h
      rcases Nat.lt_trichotomy p q with g | g | g
      · have h4 := g3 p g
        have h5 := hb p
        rw [h1, ← h4] at h5
        cases h6 : bt A p <;> rw [h6] at h5 <;> cases h5
      · subst g
        rw [h] at g1
        cases g1
      · have h5 := hb q
        rw [h2 q g, g1, g2] at h5
        cases h5
theorem lw_ahead (hz : zsOK pp gf many) {A B : Int32} (hA : sm A) (hB : sm B) : tv (m_k_L_isAhead pp gf (nI many) A B) (ah pp gf many A B) := by
  obtain ⟨n, hn⟩ : ∃ n, wF = n + 4 := ⟨4294967293, rfl⟩
  have d : ∀ lv : Int32, (m_k_L_costOf pp gf (nI many) A lv - m_k_L_costOf pp gf (nI many) B lv).toInt = zC pp gf many lv A - zC pp gf many lv B := fun lv => by
    have h1 := zC_rng hz lv A
    have h2 := zC_rng hz lv B
    have e1 := lw_cost hz A lv
    have e2 := lw_cost hz B lv
    rw [wi_sub (by omega) (by omega), e1, e2]
  have step : ∀ (lv : Int32) (x : Int32) (P : Prop), tv x P → tv (if (m_k_L_costOf pp gf (nI many) A lv - m_k_L_costOf pp gf (nI many) B lv) = 0 then x else if 0 ≤ (m_k_L_costOf pp gf (nI many) A lv - m_k_L_costOf pp gf (nI many) B lv) then 0 else 1) (zC pp gf many lv A < zC pp gf many lv B ∨ zC pp gf many lv A = zC pp gf many lv B ∧ P) := fun lv x P hx => by
    have h := d lv
    by_cases c : (m_k_L_costOf pp gf (nI many) A lv - m_k_L_costOf pp gf (nI many) B lv) = 0
    · rw [if_pos c]
      rw [c, show (0 : Int32).toInt = 0 from rfl] at h
      refine hx.iff ⟨fun hp => Or.inr ⟨by omega, hp⟩, fun hp => ?_⟩
      rcases hp with hp | hp
      · omega
      · exact hp.2
    · rw [if_neg c]
      have hc : ¬ zC pp gf many lv A - zC pp gf many lv B = 0 := fun e => c (Int32.toInt_inj.mp (by rw [h, e]; rfl))
      by_cases c2 : 0 ≤ (m_k_L_costOf pp gf (nI many) A lv - m_k_L_costOf pp gf (nI many) B lv)
      · rw [if_pos c2]
        have h2 := Int32.le_iff_toInt_le.mp c2
        rw [h, show (0 : Int32).toInt = 0 from rfl] at h2
        refine tv.zero fun hp => ?_
        rcases hp with hp | hp
        · omega
        · omega
      · rw [if_neg c2]
        have h2 := Int32.lt_iff_toInt_lt.mp (Int32.not_le.mp c2)
        rw [h, show (0 : Int32).toInt = 0 from rfl] at h2
        exact tv.one (Or.inl (by omega))
  unfold m_k_L_isAhead ah ahC
  rw [hn, m_k_L_isAhead_3_succ, m_k_L_isAhead_3s, if_neg (by decide), lE, lE, show (3 : Int32) + (-1) = 2 from rfl]
  refine step 3 _ _ ?_
  rw [m_k_L_isAhead_3_succ, m_k_L_isAhead_3s, if_neg (by decide), lE, lE, show (2 : Int32) + (-1) = 1 from rfl]
  refine step 2 _ _ ?_
  rw [m_k_L_isAhead_3_succ, m_k_L_isAhead_3s, if_neg (by decide), lE, lE, show (1 : Int32) + (-1) = 0 from rfl]
  refine step 1 _ _ ?_
  rw [m_k_L_isAhead_3_succ, m_k_L_isAhead_3s, if_pos (by decide), lE, m_k_J6_lowestOneBit_0f7a4]
  have hf := lw_first hA hB
  by_cases c : (A &&& ((A ^^^ B) &&& (-(A ^^^ B)))) = 0
  · rw [if_pos c]
    exact tv.zero fun h => hf.mpr h c
  · rw [if_neg c]
    exact tv.one (hf.mp c)
end LW
