/-! the pure argument, 2: answers by the definition. K kinds, H heads, T F G L conditions, lo up bounds, Df definite; sets are functions -/
section TH
variable (many : Nat) (K : Nat → Int32) (H T F G L : Nat → Nat → Bool) (lo up : Nat → Int32)
def tB (r : Nat) (A : Nat → Bool) : Prop := (∀ p, T r p = true → A p = true) ∧ (∀ p, F r p = true → A p = false) ∧ (∀ p, G r p = true → A p = true) ∧ (∀ p, L r p = true → A p = false)
def tH (r : Nat) (A : Nat → Bool) : Prop := if K r = 100 then ∃ p, H r p = true ∧ A p = true else (lo r).toInt ≤ (cn (fun p => H r p && A p) : Int) ∧ (cn (fun p => H r p && A p) : Int) ≤ (up r).toInt
def tC (A : Nat → Bool) : Prop := ∀ r, r < many → ¬ K r = 119 → tB T F G L r A → tH K H lo up r A
def tE (A B : Nat → Bool) : Prop := ∀ r, r < many → ¬ K r = 119 → tB T F G L r A → tB T F G L r B → if K r = 100 then ∃ p, H r p = true ∧ B p = true else ∀ p, H r p = true → A p = true → B p = true
def tL (A B : Nat → Bool) : Prop := (∀ p, B p = true → A p = true) ∧ ∃ p, A p = true ∧ B p = false
def tA (A : Nat → Bool) : Prop := tC many K H T F G L lo up A ∧ ∀ B, tL A B → ¬ tE many K H T F G L A B
variable (Df : Nat → Bool) (S Po : Nat → Bool)
/-- what is asked of definite rules -/
def tD : Prop := ∀ r, r < many → Df r = true → K r = 100 ∧ (∀ p, F r p = false) ∧ (∀ p, G r p = false) ∧ (∀ p, L r p = false) ∧ ∀ p q, H r p = true → H r q = true → p = q
/-- sure: closed under definite rules, and in all that is -/
def tS : Prop := (∀ r, r < many → Df r = true → (∀ p, T r p = true → S p = true) → ∀ p, H r p = true → S p = true) ∧ ∀ Q : Nat → Prop, (∀ r, r < many → Df r = true → (∀ p, T r p = true → Q p) → ∀ p, H r p = true → Q p) → ∀ p, S p = true → Q p
/-- an instance that is kept -/
def tK (r : Nat) : Prop := (∀ p, T r p = true → Po p = true) ∧ ∀ p, F r p = true → S p = false
def tP : Prop := ∀ r, r < many → ¬ K r = 119 → tK T F S Po r → ∀ p, H r p = true → Po p = true
variable {many K H T F G L lo up Df S Po}
theorem tS_sub (hD : tD many K H F G L Df) (hS : tS many H T Df S) (hP : tP many K H T F S Po) : ∀ p, S p = true → Po p = true := by
  refine hS.2 _ (fun r hr hd ht p hp => ?_)
  obtain ⟨h1, h2, -⟩ := hD r hr hd
  exact hP r hr (by rw [h1]; decide) ⟨ht, fun q hq => by rw [h2 q] at hq; cases hq⟩ p hp
theorem tC_S (hD : tD many K H F G L Df) (hS : tS many H T Df S) {A : Nat → Bool} (hA : tC many K H T F G L lo up A) : ∀ p, S p = true → A p = true := by
  refine hS.2 _ (fun r hr hd ht p hp => ?_)
  obtain ⟨h1, h2, h3, h4, h5⟩ := hD r hr hd
  have h6 := hA r hr (by rw [h1]; decide) ⟨ht, fun q hq => (by rw [h2 q] at hq; cases hq), fun q hq => (by rw [h3 q] at hq; cases hq), fun q hq => by rw [h4 q] at hq; cases hq⟩
  unfold tH at h6
  rw [if_pos h1] at h6
  obtain ⟨q, hq, ha⟩ := h6
  rw [h5 p q hp hq]
  exact ha
theorem tE_S (hD : tD many K H F G L Df) (hS : tS many H T Df S) {A B : Nat → Bool} (hB : ∀ p, B p = true → A p = true) (hE : tE many K H T F G L A B) : ∀ p, S p = true → B p = true := by
  refine hS.2 _ (fun r hr hd ht p hp => ?_)
  obtain ⟨h1, h2, h3, h4, h5⟩ := hD r hr hd
  have e2 : ∀ {X : Nat → Bool}, (∀ q, F r q = true → X q = false) ∧ (∀ q, G r q = true → X q = true) ∧ (∀ q, L r q = true → X q = false) := fun {X} => ⟨fun q hq => (by rw [h2 q] at hq; cases hq), fun q hq => (by rw [h3 q] at hq; cases hq), fun q hq => by rw [h4 q] at hq; cases hq⟩
  have h6 := hE r hr (by rw [h1]; decide) ⟨fun q hq => hB q (ht q hq), e2⟩ ⟨ht, e2⟩
  rw [if_pos h1] at h6
  obtain ⟨q, hq, ha⟩ := h6
  rw [h5 p q hp hq]
  exact ha
theorem tB_K {A : Nat → Bool} (hs : ∀ p, S p = true → A p = true) (hp : ∀ p, A p = true → Po p = true) {r : Nat} (h : tB T F G L r A) : tK T F S Po r := ⟨fun p ht => hp p (h.1 p ht), fun p hf => by
  cases hb : S p with
  | false => rfl
  | true =>
    have := hs p hb
    rw [h.2.1 p hf] at this
    cases this⟩
theorem tA_P (hD : tD many K H F G L Df) (hS : tS many H T Df S) (hP : tP many K H T F S Po) {A : Nat → Bool} (hA : tA many K H T F G L lo up A) : ∀ p, A p = true → Po p = true := by
  intro p hp
  cases hb : Po p with
  | true => rfl
  | false =>
    refine absurd ?_ (hA.2 (fun q => A q && Po q) ⟨fun q hq => by simp at hq; exact hq.1, p, hp, by show (A p && Po p) = false; rw [hb]; simp⟩)
    intro r hr hk h1 h2
    have hs := tC_S hD hS hA.1
    have hK : tK T F S Po r := ⟨fun q hq => by have := h2.1 q hq; simp at this; exact this.2, fun q hq => by
      cases hb : S q with
      | false => rfl
      | true =>
        have := hs q hb
        rw [h1.2.1 q hq] at this
        cases this⟩
    have hh := hP r hr hk hK
    by_cases hd : K r = 100
    · rw [if_pos hd]
      have h6 := hA.1 r hr hk h1
      unfold tH at h6
      rw [if_pos hd] at h6
      obtain ⟨q, hq, ha⟩ := h6
      exact ⟨q, hq, by show (A q && Po q) = true; rw [ha, hh q hq]; rfl⟩
    · rw [if_neg hd]
      intro q hq ha
      show (A q && Po q) = true
      rw [ha, hh q hq]
      rfl
theorem tA_why {A : Nat → Bool} (hA : tA many K H T F G L lo up A) {p : Nat} (hp : A p = true) : ∃ r, r < many ∧ ¬ K r = 119 ∧ tB T F G L r A ∧ H r p = true ∧ (¬ K r = 100 ∨ ∀ q, H r q = true → A q = true → q = p) := by
  by_cases h : ∃ r, r < many ∧ ¬ K r = 119 ∧ tB T F G L r A ∧ H r p = true ∧ (¬ K r = 100 ∨ ∀ q, H r q = true → A q = true → q = p)
  · exact h
  · refine absurd ?_ (hA.2 (fun q => A q && !decide (q = p)) ⟨fun q hq => by simp at hq; exact hq.1, p, hp, by show (A p && !decide (p = p)) = false; simp⟩)
    intro r hr hk h1 h2
    by_cases hd : K r = 100
    · rw [if_pos hd]
      have h6 := hA.1 r hr hk h1
      unfold tH at h6
      rw [if_pos hd] at h6
      obtain ⟨q, hq, ha⟩ := h6
      by_cases hqp : q = p
      · subst hqp
        by_cases h7 : ∃ q2, H r q2 = true ∧ A q2 = true ∧ ¬ q2 = q
        · obtain ⟨q2, g1, g2, g3⟩ := h7
          exact ⟨q2, g1, by simp [g2, g3]⟩
        · refine absurd ⟨r, hr, hk, h1, hq, Or.inr fun q2 g1 g2 => ?_⟩ h
          by_cases g3 : q2 = q
          · exact g3
          · exact absurd ⟨q2, g1, g2, g3⟩ h7
      · exact ⟨q, hq, by simp [ha, hqp]⟩
    · rw [if_neg hd]
      intro q hq ha
      by_cases hqp : q = p
      · subst hqp
        exact absurd ⟨r, hr, hk, h1, hq, Or.inl hd⟩ h
      · simp [ha, hqp]
end TH
