/-! the pure argument, 18: growing a set -/
section GR
variable {pp : pT} {n many : Nat} {rf gf : Nat → Option Nat}
abbrev bs (x y : Int32) : Prop := ∀ b, bt x b = true → bt y b = true
/-- a row that leaves no choice -/
def fcd (ch : Int32) (c1 c4 : Nat → Int32) (A : Int32) (j : Nat) : Prop := m_k_X9_isChoice ch c1 (nI j) = 0 → (c4 j &&& A) &&& ((c4 j &&& A) - 1) = 0
def gIn (c an : Nat) (ac : Nat → Int32) (ch : Int32) (c1 c2 c3 c4 : Nat → Int32) (A t26 : Int32) (good : Int32 → Prop) (x : Int32) (fin : Int32 → Int32) (cur : Int32) (i : Nat) : Prop := ∃ cur', x = fin cur' ∧ bs cur cur' ∧ bs cur' A ∧ (∀ B, good B → bs cur B → bs cur' B) ∧ (cur' = cur → ∀ l, i ≤ l → l < an → ∀ j, j < c → ac l = nI j → fcd ch c1 c4 A j → ¬ m_k_X7_bodyHolds c1 c2 c3 (nI j) cur t26 = 0 → (c4 j &&& A) &&& (cur ^^^ (-1)) = 0)
theorem k_growIn {c : Nat} (hc : c ≤ 300) {act : Nat → Prop} {an : Nat} {ac : Nat → Int32} (hl : aL c act an ac) (ch : Int32) (c1 c2 c3 c4 : Nat → Int32) (A st t26 : Int32) (good : Int32 → Prop) (hgood : ∀ B, good B → ∀ cur j, j < c → act j → fcd ch c1 c4 A j → bs st cur → bs cur B → ¬ m_k_X7_bodyHolds c1 c2 c3 (nI j) cur t26 = 0 → ∀ b, bt (c4 j) b = true → bt A b = true → bt B b = true) (rec8 : Int32 → Int32 → Int32 → Int32) (v5 : Int32) : ∀ d m i cur, an - i = d → d < m → i ≤ an → bs st cur → bs cur A → gIn c an ac ch c1 c2 c3 c4 A t26 good (m_k_X9_grow_34 (nI an) ch c1 c2 c3 c4 ac A rec8 t26 st v5 m cur (nI i)) (fun x => m_k_X9_grow_139 rec8 x st v5) cur i := by
  have han := hl.1
  intro d
  induction d with
  | zero =>
    intro m i cur hd hm hi h1 h2
    obtain ⟨m, rfl⟩ : ∃ q, m = q + 1 := ⟨m - 1, by omega⟩
    have hi' : i = an := by omega
    subst hi'
    rw [m_k_X9_grow_34_succ, m_k_X9_grow_34s, if_pos (Int32.le_refl _)]
    exact ⟨cur, rfl, fun _ e => e, h2, fun _ _ e => e, fun _ l g1 g2 => by omega⟩
  | succ d ih =>
    intro m i cur hd hm hi h1 h2
    obtain ⟨m, rfl⟩ : ∃ q, m = q + 1 := ⟨m - 1, by omega⟩
    obtain ⟨j, hj, he, hact⟩ := hl.2.1 i (by omega)
    have skip : (fcd ch c1 c4 A j → ¬ m_k_X7_bodyHolds c1 c2 c3 (nI j) cur t26 = 0 → (c4 j &&& A) &&& (cur ^^^ (-1)) = 0) → gIn c an ac ch c1 c2 c3 c4 A t26 good (m_k_X9_grow_34 (nI an) ch c1 c2 c3 c4 ac A rec8 t26 st v5 m cur (nI (i + 1))) (fun x => m_k_X9_grow_139 rec8 x st v5) cur i := fun hs => by
      obtain ⟨cur', e, g1, g2, g3, g4⟩ := ih m (i + 1) cur (by omega) (by omega) (by omega) h1 h2
      refine ⟨cur', e, g1, g2, g3, fun ec l i1 i2 j2 hj2 he2 => ?_⟩
      rcases (show l = i ∨ i + 1 ≤ l by omega) with rfl | g
      · rw [he, kI_eq (by omega) (by omega)] at he2
        rw [← he2]
        exact hs
      · exact g4 ec l g i2 j2 hj2 he2
    have body1 : fcd ch c1 c4 A j → gIn c an ac ch c1 c2 c3 c4 A t26 good (m_k_X9_grow_97 c1 c2 c3 ac A (m_k_X9_grow_34 (nI an) ch c1 c2 c3 c4 ac A rec8 t26 st v5 m) t26 (c4 j) cur (nI i) 1) (fun x => m_k_X9_grow_139 rec8 x st v5) cur i := fun hf => by
      rw [m_k_X9_grow_97, if_neg (by decide)]
      by_cases e3 : (c4 j &&& A) &&& (cur ^^^ (-1)) = 0
      · rw [if_pos e3, m_k_X9_grow_133, kI_s]
        exact skip fun _ _ => e3
      · rw [if_neg e3, lE, kI_nat (by omega), he]
        by_cases e4 : m_k_X7_bodyHolds c1 c2 c3 (nI j) cur t26 = 0
        · rw [if_pos e4, m_k_X9_grow_133, kI_s]
          exact skip fun _ g => absurd e4 g
        · rw [if_neg e4, m_k_X9_grow_133, kI_s]
          have hs1 : bs cur (cur ||| (c4 j &&& A)) := fun b hb => by rw [b_or, hb]; rfl
          obtain ⟨cur', e, g1, g2, g3, g4⟩ := ih m (i + 1) (cur ||| (c4 j &&& A)) (by omega) (by omega) (by omega) (fun b hb => hs1 b (h1 b hb)) (fun b hb => by
            rw [b_or, Bool.or_eq_true] at hb
            rcases hb with hb | hb
            · exact h2 b hb
            · rw [b_and] at hb
              exact ((Bool.and_eq_true _ _).mp hb).2)
          refine ⟨cur', e, fun b hb => g1 b (hs1 b hb), g2, fun B hB hcB => g3 B hB fun b hb => ?_, fun ec => ?_⟩
          · rw [b_or, Bool.or_eq_true] at hb
            rcases hb with hb | hb
            · exact hcB b hb
            · rw [b_and] at hb
              have g := (Bool.and_eq_true _ _).mp hb
              exact hgood B hB cur j hj hact hf h1 hcB e4 b g.1 g.2
          · refine absurd (b_in3.mpr fun b i1 i2 => ?_) e3
            have := g1 b (by rw [b_or, b_and, i1, i2]; exact Bool.or_true _)
            rw [ec] at this
            exact this
    rw [m_k_X9_grow_34_succ, m_k_X9_grow_34s, if_neg (nle (by omega) (by omega)), if_neg (by rw [show (300 : Int32) = nI 300 from rfl, kI_le (by omega) (by omega)]; omega), lE, kI_nat (by omega), he, k_headsAt (by omega), lE]
    by_cases e1 : m_k_X9_isChoice ch c1 (nI j) = 0
    · rw [if_pos e1]
      by_cases e2 : (c4 j &&& A) &&& ((c4 j &&& A) - 1) = 0
      · rw [if_pos e2, m_k_X9_grow_92]
        exact body1 fun _ => e2
      · rw [if_neg e2, m_k_X9_grow_97, if_pos rfl, m_k_X9_grow_133, kI_s]
        exact skip fun hf => absurd (hf e1) e2
    · rw [if_neg e1, m_k_X9_grow_92]
      exact body1 fun e => absurd e e1
/-- growing ends in the least set that the forced rows leave -/
theorem k_grow {c : Nat} (hc : c ≤ 300) {act : Nat → Prop} {an : Nat} {ac : Nat → Int32} (hl : aL c act an ac) (ch cg rn : Int32) (c1 c2 c3 c4 obi sc : Nat → Int32) (A : Int32) (hA : sm A) (good : Int32 → Prop) (hgood : ∀ B, good B → ∀ st cur j, j < c → act j → fcd ch c1 c4 A j → bs st cur → bs cur B → ¬ m_k_X7_bodyHolds c1 c2 c3 (nI j) cur (m_k_X9_countsHeld pp rn rf cg obi sc st) = 0 → ∀ b, bt (c4 j) b = true → bt A b = true → bt B b = true) (fr : Int32) (hfr : bs fr A) : ∃ g, m_k_X9_grow pp rn rf (nI an) ch cg c1 c2 c3 c4 ac obi sc fr A = g ∧ bs fr g ∧ bs g A ∧ (∀ B, good B → bs fr B → bs g B) ∧ ∀ j, j < c → act j → fcd ch c1 c4 A j → ¬ m_k_X7_bodyHolds c1 c2 c3 (nI j) g (m_k_X9_countsHeld pp rn rf cg obi sc g) = 0 → (c4 j &&& A) &&& (g ^^^ (-1)) = 0 := by
  obtain ⟨m0, hm0⟩ := wF_ge
  have key : ∀ e m t cur, 7 ≤ cn (bt cur) + e → e + 2 ≤ m → t + e ≤ 900 → bs fr cur → bs cur A → (∀ B, good B → bs fr B → bs cur B) → ∃ g, m_k_X9_grow_8 pp rn rf (nI an) ch cg c1 c2 c3 c4 ac obi sc A m cur 1 (nI t) = g ∧ bs fr g ∧ bs g A ∧ (∀ B, good B → bs fr B → bs g B) ∧ ∀ j, j < c → act j → fcd ch c1 c4 A j → ¬ m_k_X7_bodyHolds c1 c2 c3 (nI j) g (m_k_X9_countsHeld pp rn rf cg obi sc g) = 0 → (c4 j &&& A) &&& (g ^^^ (-1)) = 0 := by
    intro e
    induction e with
    | zero =>
      intro m t cur h1
      have := cn_le (bt cur)
      omega
    | succ e ih =>
      intro m t cur h1 hm ht h2 h3 h4
      obtain ⟨m, rfl⟩ : ∃ q, m = q + 1 + 1 := ⟨m - 2, by omega⟩
      rw [m_k_X9_grow_8_succ, m_k_X9_grow_8s, if_neg (by decide), if_neg (by rw [show (1000 : Int32) = nI 1000 from rfl, kI_le (by omega) (by omega)]; omega), lE]
      obtain ⟨cur', e1, g1, g2, g3, g4⟩ := k_growIn hc hl ch c1 c2 c3 c4 A cur (m_k_X9_countsHeld pp rn rf cg obi sc cur) good (fun B hB cur2 j hj ha hf hs hb => hgood B hB cur cur2 j hj ha hf hs hb) (m_k_X9_grow_8 pp rn rf (nI an) ch cg c1 c2 c3 c4 ac obi sc A (m + 1)) (nI t) (an - 0) wF 0 cur rfl (by rw [hm0]; have := hl.1; omega) (Nat.zero_le _) (fun _ e => e) h3
      have e1' : m_k_X9_grow_34 (nI an) ch c1 c2 c3 c4 ac A (m_k_X9_grow_8 pp rn rf (nI an) ch cg c1 c2 c3 c4 ac obi sc A (m + 1)) (m_k_X9_countsHeld pp rn rf cg obi sc cur) cur (nI t) wF cur 0 = _ := e1
      rw [e1']
      dsimp only
      rw [m_k_X9_grow_139]
      by_cases e2 : cur' = cur
      · rw [if_pos e2, m_k_X9_grow_150, m_k_X9_grow_8_succ, m_k_X9_grow_8s, if_pos rfl, e2]
        refine ⟨cur, rfl, h2, h3, h4, fun j hj ha => ?_⟩
        obtain ⟨i, hi, he⟩ := hl.2.2 j hj ha
        exact g4 e2 i (Nat.zero_le _) hi j hj he
      · rw [if_neg e2, m_k_X9_grow_150, kI_s]
        refine ih (m + 1) (t + 1) cur' ?_ (by omega) (by omega) (fun b hb => g1 b (h2 b hb)) g2 (fun B hB hf => g3 B hB (h4 B hB hf))
        have hlt : cn (bt cur) < cn (bt cur') := by
          by_cases hx : ∃ p, bt cur' p = true ∧ bt cur p = false
          · obtain ⟨p, p1, p2⟩ := hx
            exact cn_lt (fun q _ hq => g1 q hq) (sm_lt hA (g2 p p1)) p2 p1
          · refine absurd (b_ext fun p _ => ?_) e2
            rw [Bool.eq_iff_iff]
            refine ⟨fun hp => ?_, g1 p⟩
            cases hb : bt cur p with
            | true => rfl
            | false => exact absurd ⟨p, hp, hb⟩ hx
        omega
  unfold m_k_X9_grow
  exact key 7 wF 0 fr (by omega) (by rw [hm0]; omega) (by omega) (fun _ e => e) hfr (fun _ _ e => e)
end GR
