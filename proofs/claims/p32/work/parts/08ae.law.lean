/-! the pure argument, 5: the law's reasons; one list in order -/
section LR
variable {pp : pT} {gf : Nat → Option Nat} {many : Nat}
/-- row r is a reason for p in A -/
def zW (pp : pT) (gf : Nat → Option Nat) (A : Int32) (p r : Nat) : Prop := ¬ zK pp gf r = 119 ∧ tB (zM pp gf 4) (zM pp gf 5) (zM pp gf 8) (zM pp gf 9) r (bt A) ∧ zM pp gf 1 r p = true ∧ bt A p = true ∧ (zK pp gf r = 99 ∨ ∀ q, zM pp gf 1 r q = true → bt A q = true → q = p)
theorem one_iff {h A : Int32} {p : Nat} (hp : p < 32) : h &&& A = (1 : Int32) <<< (nI p &&& 31) ↔ (bt h p = true ∧ bt A p = true ∧ ∀ q, bt h q = true → bt A q = true → q = p) := by
  constructor
  · intro e
    have hb : ∀ q, (bt h q && bt A q) = decide (q = p) := fun q => by rw [← b_and, e, b_one' hp]
    have h1 := hb p
    rw [decide_eq_true rfl] at h1
    have h2 := (Bool.and_eq_true _ _).mp h1
    refine ⟨h2.1, h2.2, fun q g1 g2 => ?_⟩
    have h3 := hb q
    rw [g1, g2] at h3
    exact of_decide_eq_true h3.symm
  · rintro ⟨h1, h2, h3⟩
    apply b_ext
    intro q _
    rw [b_and, b_one' hp]
    by_cases g : q = p
    · subst g
      rw [h1, h2, decide_eq_true rfl]
      rfl
    · rw [decide_eq_false g]
      cases g1 : bt h q with
      | false => rfl
      | true =>
        cases g2 : bt A q with
        | false => rfl
        | true => exact absurd (h3 q g1 g2) g
theorem lw_reason (hz : zsOK pp gf many) (ef : Nat → Int32) {A : Int32} {p r : Nat} (hp : p < 6) (hr : r < many) (hw : zW pp gf A p r) (hno : ∀ j, j < r → ¬ zW pp gf A p j) : m_k_L_isReason pp gf ef (nI many) A (nI p) (nI r) = 1 := by
  have hm := hz.1
  have key : ∀ d n i, r - i = d → d < n → i ≤ r → m_k_L_isReason_3 pp gf ef (nI many) A (nI p) (nI r) n (nI i) = 1 := by
    intro d
    induction d with
    | zero =>
      intro n i hd hn hi
      obtain ⟨n, rfl⟩ : ∃ m, n = m + 1 := ⟨n - 1, by omega⟩
      have : i = r := by omega
      subst this
      obtain ⟨hg, hk, h7, h6, -⟩ := hz.at hr
      have hh := (lw_held h7 h6 A).iff (hzB_tB pp gf i A)
      obtain ⟨w1, w2, w3, w4, w5⟩ := hw
      rw [m_k_L_isReason_3_succ, m_k_L_isReason_3s, if_neg (by rw [kI_le (by omega) (by omega)]; omega), kI_nat (by omega), hg, oE_some, z0, z1, if_neg (show ¬ pI pp (zR gf i) 0 = 119 from w1)]
      simp only [m_k_L_isReason_72, m_k_L_isReason_76, m_k_L_isReason_77, lE, if_neg (by decide : ¬ (1 : Int32) = 0)]
      rw [if_neg (hh.nz.mpr w2), if_pos ((b_shr1 (by omega)).mpr (by rw [b_and, w4]; show (bt (pI pp (zR gf i) 1) p && true) = true; rw [show bt (pI pp (zR gf i) 1) p = true from w3]; rfl))]
      by_cases c : pI pp (zR gf i) 0 = 99
      · rw [if_pos c, if_pos trivial]
      · rw [if_neg c, if_pos ((one_iff (by omega)).mpr ⟨w3, w4, w5.resolve_left c⟩), if_pos trivial]
    | succ d ih =>
      intro n i hd hn hi
      obtain ⟨n, rfl⟩ : ∃ m, n = m + 1 := ⟨n - 1, by omega⟩
      have hi' : i < many := by omega
      obtain ⟨hg, hk, h7, h6, -⟩ := hz.at hi'
      have hh := (lw_held h7 h6 A).iff (hzB_tB pp gf i A)
      have hn' := hno i (by omega)
      have go : m_k_L_isReason_3 pp gf ef (nI many) A (nI p) (nI r) n (nI (i + 1)) = 1 := ih n (i + 1) (by omega) (by omega) (by omega)
      rw [m_k_L_isReason_3_succ, m_k_L_isReason_3s, if_neg (by rw [kI_le (by omega) (by omega)]; omega), kI_nat (by omega), hg, oE_some, z0, z1]
      simp only [m_k_L_isReason_72, m_k_L_isReason_76, m_k_L_isReason_77, lE, if_neg (by decide : ¬ (1 : Int32) = 0), if_pos (rfl : (0 : Int32) = 0), kI_s]
      by_cases c1 : pI pp (zR gf i) 0 = 119
      · rw [if_pos c1]; exact go
      · rw [if_neg c1]
        by_cases c2 : m_k_L_isHeld pp (zR gf i) A = 0
        · rw [if_pos c2]; exact go
        · rw [if_neg c2]
          by_cases c3 : ((pI pp (zR gf i) 1 &&& A) >>> (nI p &&& 31)) &&& 1 = 1
          · rw [if_pos c3]
            have h3 := (b_shr1 (by omega)).mp c3
            rw [b_and] at h3
            have h4 := (Bool.and_eq_true _ _).mp h3
            by_cases c4 : pI pp (zR gf i) 0 = 99
            · exact absurd ⟨c1, hh.nz.mp c2, h4.1, h4.2, Or.inl c4⟩ hn'
            · rw [if_neg c4]
              by_cases c5 : pI pp (zR gf i) 1 &&& A = (1 : Int32) <<< (nI p &&& 31)
              · exact absurd ⟨c1, hh.nz.mp c2, h4.1, h4.2, Or.inr ((one_iff (by omega)).mp c5).2.2⟩ hn'
              · rw [if_neg c5]; exact go
          · rw [if_neg c3]; exact go
  obtain ⟨n, hn⟩ : ∃ n, wF = n + 20 := ⟨4294967277, rfl⟩
  exact key (r - 0) wF 0 rfl (by rw [hn]; omega) (Nat.zero_le _)
/-- every atom of an answer has a first reason -/
theorem zA_why (hz : zsOK pp gf many) {A : Int32} (hA : zA pp gf many A) {p : Nat} (hp : bt A p = true) : ∃ r, r < many ∧ zW pp gf A p r ∧ ∀ j, j < r → ¬ zW pp gf A p j := by
  obtain ⟨r, hr, h1, h2, h3, h4⟩ := tA_why hA hp
  have hw : zW pp gf A p r := ⟨h1, h2, h3, hp, by
    rcases (hz.at hr).2.1 with g | g | g
    · rcases h4 with h4 | h4
      · exact absurd g h4
      · exact Or.inr h4
    · exact Or.inl g
    · exact absurd g h1⟩
  have : ∀ n r, r ≤ n → r < many → zW pp gf A p r → ∃ r, r < many ∧ zW pp gf A p r ∧ ∀ j, j < r → ¬ zW pp gf A p j := by
    intro n
    induction n with
    | zero => exact fun r hr hm hw => ⟨r, hm, hw, fun j hj => by omega⟩
    | succ n ih =>
      intro r hr hm hw
      by_cases h : ∃ j, j < r ∧ zW pp gf A p j
      · obtain ⟨j, hj, hw'⟩ := h
        exact ih j (by omega) (by omega) hw'
      · exact ⟨r, hm, hw, fun j hj hw' => h ⟨j, hj, hw'⟩⟩
  exact this r r (Nat.le_refl _) hr hw
end LR
/-- a list in a strict order that has just the things of P: there is one alone -/
def oL (R : Int32 → Int32 → Prop) (P : Int32 → Prop) (q : Nat → Int32) (c : Nat) : Prop := (∀ i, i < c → P (q i)) ∧ (∀ i j, i < j → j < c → R (q i) (q j)) ∧ ∀ x, P x → ∃ i, i < c ∧ q i = x
theorem oL_le {R : Int32 → Int32 → Prop} {P : Int32 → Prop} (has : ∀ x y, R x y → ¬ R y x) {q1 q2 : Nat → Int32} {c1 c2 : Nat} (h1 : oL R P q1 c1) (h2 : oL R P q2 c2) : ∀ n i, i ≤ n → i < c1 → i < c2 ∧ q1 i = q2 i := by
  have irr : ∀ x, ¬ R x x := fun x h => has x x h h
  intro n
  induction n with
  | zero =>
    intro i hi hc
    have : i = 0 := by omega
    subst this
    obtain ⟨k, hk, hke⟩ := h2.2.2 _ (h1.1 0 hc)
    refine ⟨by omega, ?_⟩
    rcases Nat.eq_zero_or_pos k with g | g
    · rw [← hke, g]
    · have r1 := h2.2.1 0 k g hk
      obtain ⟨m, hm, hme⟩ := h1.2.2 _ (h2.1 0 (by omega))
      rcases Nat.eq_zero_or_pos m with g2 | g2
      · rw [← hme, g2]
      · have r2 := h1.2.1 0 m g2 hm
        rw [hke, ← hme] at r1
        exact absurd r1 (has _ _ r2)
  | succ n ih =>
    intro i hi hc
    have old : ∀ j, j < i → j < c2 ∧ q1 j = q2 j := fun j hj => ih j (by omega) (by omega)
    obtain ⟨k, hk, hke⟩ := h2.2.2 _ (h1.1 i hc)
    have hki : i ≤ k := by
      rcases Nat.lt_or_ge k i with g | g
      · have r := h1.2.1 k i g hc
        rw [(old k g).2, hke] at r
        exact absurd r (irr _)
      · exact g
    refine ⟨by omega, ?_⟩
    rcases Nat.lt_or_ge i k with g | g
    · have r1 := h2.2.1 i k g hk
      obtain ⟨m, hm, hme⟩ := h1.2.2 _ (h2.1 i (by omega))
      rcases Nat.lt_trichotomy m i with g2 | g2 | g2
      · have r := h2.2.1 m i g2 (by omega)
        rw [← (old m g2).2, hme] at r
        exact absurd r (irr _)
      · rw [← hme, g2]
      · have r2 := h1.2.1 i m g2 hm
        rw [hke, ← hme] at r1
        exact absurd r1 (has _ _ r2)
    · have : k = i := by omega
      rw [← hke, this]
theorem oL_eq {R : Int32 → Int32 → Prop} {P : Int32 → Prop} (has : ∀ x y, R x y → ¬ R y x) {q1 q2 : Nat → Int32} {c1 c2 : Nat} (h1 : oL R P q1 c1) (h2 : oL R P q2 c2) : c1 = c2 ∧ ∀ i, i < c1 → q1 i = q2 i := by
  refine ⟨?_, fun i hi => (oL_le has h1 h2 i i (Nat.le_refl _) hi).2⟩
  rcases Nat.lt_trichotomy c1 c2 with g | g | g
  · have := (oL_le has h2 h1 c1 c1 (Nat.le_refl _) g).1
    omega
  · exact g
  · have := (oL_le has h1 h2 c2 c2 (Nat.le_refl _) g).1
    omega
/-- x put at the place a of a list -/
def insA (q : Nat → Int32) (a : Nat) (x : Int32) : Nat → Int32 := fun k => if k < a then q k else if k = a then x else q (k - 1)
/-- what is in order stays in order when a new thing is put at its place -/
theorem oL_ins {R : Int32 → Int32 → Prop} {P : Int32 → Prop} (htr : ∀ x y z, R x y → R y z → R x z) {q : Nat → Int32} {c a : Nat} {x : Int32} (h : oL R P q c) (ha : a ≤ c) (h1 : ∀ i, i < a → R (q i) x) (h2 : ∀ i, a ≤ i → i < c → R x (q i)) : oL R (fun y => P y ∨ y = x) (insA q a x) (c + 1) := by
  refine ⟨fun i hi => ?_, fun i j hij hj => ?_, fun y hy => ?_⟩
  · unfold insA
    split
    · exact Or.inl (h.1 i (by omega))
    · split
      · exact Or.inr rfl
      · exact Or.inl (h.1 _ (by omega))
  · unfold insA
    by_cases c1 : i < a
    · rw [if_pos c1]
      by_cases c2 : j < a
      · rw [if_pos c2]; exact h.2.1 i j hij (by omega)
      · rw [if_neg c2]
        by_cases c3 : j = a
        · rw [if_pos c3]; exact h1 i c1
        · rw [if_neg c3]; exact h.2.1 i (j - 1) (by omega) (by omega)
    · rw [if_neg c1]
      by_cases c2 : i = a
      · rw [if_pos c2, if_neg (by omega), if_neg (by omega)]
        exact h2 _ (by omega) (by omega)
      · rw [if_neg c2, if_neg (by omega), if_neg (by omega)]
        exact h.2.1 _ _ (by omega) (by omega)
  · rcases hy with hy | rfl
    · obtain ⟨i, hi, he⟩ := h.2.2 y hy
      by_cases c1 : i < a
      · exact ⟨i, by omega, by unfold insA; rw [if_pos c1]; exact he⟩
      · exact ⟨i + 1, by omega, by unfold insA; rw [if_neg (by omega), if_neg (by omega)]; exact he⟩
    · exact ⟨a, by omega, by unfold insA; rw [if_neg (by omega), if_pos rfl]⟩
