/-! the pure argument, 3: what the law's own methods compute -/
theorem z0 : (0 : Int32).toNatClampNeg = 0 := rfl
theorem z1 : (1 : Int32).toNatClampNeg = 1 := rfl
theorem z2 : (2 : Int32).toNatClampNeg = 2 := rfl
theorem z3 : (3 : Int32).toNatClampNeg = 3 := rfl
theorem z4 : (4 : Int32).toNatClampNeg = 4 := rfl
theorem z5 : (5 : Int32).toNatClampNeg = 5 := rfl
theorem z6 : (6 : Int32).toNatClampNeg = 6 := rfl
theorem z7 : (7 : Int32).toNatClampNeg = 7 := rfl
theorem z8 : (8 : Int32).toNatClampNeg = 8 := rfl
theorem z9 : (9 : Int32).toNatClampNeg = 9 := rfl
theorem z10 : (10 : Int32).toNatClampNeg = 10 := rfl
/-- a truth value told as an int -/
def tv (x : Int32) (P : Prop) : Prop := (x = 0 ∨ x = 1) ∧ (x = 1 ↔ P)
theorem tv.t {x : Int32} {P : Prop} (h : tv x P) (hp : P) : x = 1 := h.2.mpr hp
theorem tv.f {x : Int32} {P : Prop} (h : tv x P) (hp : ¬ P) : x = 0 := h.1.resolve_right fun e => hp (h.2.mp e)
theorem tv.z {x : Int32} {P : Prop} (h : tv x P) : x = 0 ↔ ¬ P := ⟨fun e hp => absurd (e.symm.trans (h.t hp)) (by decide), h.f⟩
theorem tv.nz {x : Int32} {P : Prop} (h : tv x P) : ¬ x = 0 ↔ P := ⟨fun e => h.2.mp (h.1.resolve_left e), fun hp e => absurd (e.symm.trans (h.t hp)) (by decide)⟩
theorem tv.iff {x : Int32} {P Q : Prop} (h : tv x P) (e : P ↔ Q) : tv x Q := ⟨h.1, h.2.trans e⟩
theorem tv.one {P : Prop} (h : P) : tv 1 P := ⟨Or.inr rfl, ⟨fun _ => h, fun _ => rfl⟩⟩
theorem tv.zero {P : Prop} (h : ¬ P) : tv 0 P := ⟨Or.inl rfl, ⟨fun e => absurd e (by decide), fun hp => absurd hp h⟩⟩
/-- a loop that looks whether all i have a property -/
theorem all_loop {many : Nat} (f : Nat → Int32 → Int32 → Int32) (P : Nat → Prop) (hend : ∀ n v, f (n + 1) v (nI many) = v) (hstep : ∀ n v i, i < many → (v = 0 ∨ v = 1) → ∃ v', tv v' (v = 1 ∧ P i) ∧ f (n + 1) v (nI i) = f n v' (nI (i + 1))) :
    ∀ d n v i, many - i = d → d < n → i ≤ many → (v = 0 ∨ v = 1) → tv (f n v (nI i)) (v = 1 ∧ ∀ r, i ≤ r → r < many → P r) := by
  intro d
  induction d with
  | zero =>
    intro n v i hd hn hi hv
    obtain ⟨n, rfl⟩ : ∃ m, n = m + 1 := ⟨n - 1, by omega⟩
    have : i = many := by omega
    subst this
    rw [hend]
    refine ⟨hv, fun h => ⟨h, fun r h1 h2 => absurd h2 (by omega)⟩, fun h => h.1⟩
  | succ d ih =>
    intro n v i hd hn hi hv
    obtain ⟨n, rfl⟩ : ∃ m, n = m + 1 := ⟨n - 1, by omega⟩
    obtain ⟨v', h1, h2⟩ := hstep n v i (by omega) hv
    rw [h2]
    refine (ih n v' (i + 1) (by omega) (by omega) (by omega) h1.1).iff ⟨fun h => ?_, fun h => ?_⟩
    · have h3 := h1.2.mp h.1
      refine ⟨h3.1, fun r g1 g2 => ?_⟩
      rcases (show r = i ∨ i + 1 ≤ r by omega) with rfl | g
      · exact h3.2
      · exact h.2 r g g2
    · exact ⟨h1.2.mpr ⟨h.1, h.2 i (Nat.le_refl _) (by omega)⟩, fun r g1 g2 => h.2 r (by omega) g2⟩
def hzB (pp : pT) (z : Nat) (A : Int32) : Prop := A &&& pI pp z 4 = pI pp z 4 ∧ A &&& pI pp z 5 = 0 ∧ A &&& pI pp z 8 = pI pp z 8 ∧ A &&& pI pp z 9 = 0
theorem x_and_self (a g : Int32) : (a &&& g) &&& g = a &&& g := b_ext fun i _ => by
  rw [b_and, b_and]
  cases bt a i <;> cases bt g i <;> rfl
theorem x_m1 (a : Int32) : a &&& (0 ^^^ (-1)) = a := b_ext fun i hi => by
  rw [b_and, b_xor, b_0, b_m1 i hi]
  cases bt a i <;> rfl
theorem lw_held {pp : pT} {z : Nat} (h7 : pI pp z 7 = 0) (h6 : pI pp z 6 = pI pp z 8) (A : Int32) : tv (m_k_L_isHeld pp z A) (hzB pp z A) := by
  unfold hzB m_k_L_isHeld m_k_L_isHeld_24 m_k_L_isHeld_23 m_k_L_isHeld_24 m_k_L_isHeld_56 m_k_L_isHeld_57
  rw [z4, z5, z6, z7, z8, z9, h6, h7, x_and_self, x_m1, Int32.and_self, if_pos (rfl : (0 : Int32) = 0), if_pos (rfl : (0 : Int32) = 0), if_neg (by decide : ¬ (1 : Int32) = 0), if_neg (by decide : ¬ (1 : Int32) = 0)]
  by_cases c1 : A &&& pI pp z 4 = pI pp z 4
  · rw [if_pos c1]
    by_cases c2 : A &&& pI pp z 5 = 0
    · rw [if_pos c2]
      by_cases c3 : A &&& pI pp z 8 = pI pp z 8
      · rw [if_pos c3]
        by_cases c4 : A &&& pI pp z 9 = 0
        · rw [if_pos c4]
          exact tv.one ⟨c1, c2, c3, c4⟩
        · rw [if_neg c4]
          exact tv.zero fun h => c4 h.2.2.2
      · rw [if_neg c3]
        exact tv.zero fun h => c3 h.2.2.1
    · rw [if_neg c2]
      exact tv.zero fun h => c2 h.2.1
  · rw [if_neg c1]
    exact tv.zero fun h => c1 h.1
/-- a row of the law -/
def zOK (pp : pT) (z : Nat) : Prop := (pI pp z 0 = 100 ∨ pI pp z 0 = 99 ∨ pI pp z 0 = 119) ∧ pI pp z 7 = 0 ∧ pI pp z 6 = pI pp z 8 ∧ sm (pI pp z 1) ∧ sm (pI pp z 4) ∧ sm (pI pp z 5) ∧ sm (pI pp z 8) ∧ sm (pI pp z 9) ∧ -4 ≤ (pI pp z 2).toInt ∧ (pI pp z 2).toInt ≤ 4 ∧ 0 ≤ (pI pp z 3).toInt ∧ (pI pp z 3).toInt ≤ 3
def zR (gf : Nat → Option Nat) (r : Nat) : Nat := (gf r).getD 0
def zsOK (pp : pT) (gf : Nat → Option Nat) (many : Nat) : Prop := many ≤ 10 ∧ ∀ r, r < many → ∃ z, gf r = some z ∧ zOK pp z
theorem zsOK.at {pp : pT} {gf : Nat → Option Nat} {many r : Nat} (h : zsOK pp gf many) (hr : r < many) : gf r = some (zR gf r) ∧ zOK pp (zR gf r) := by
  obtain ⟨z, h1, h2⟩ := h.2 r hr
  have : zR gf r = z := by unfold zR; rw [h1]; rfl
  rw [this]
  exact ⟨h1, h2⟩
def zK (pp : pT) (gf : Nat → Option Nat) (r : Nat) : Int32 := pI pp (zR gf r) 0
def zM (pp : pT) (gf : Nat → Option Nat) (j r : Nat) : Nat → Bool := bt (pI pp (zR gf r) j)
def zI (pp : pT) (gf : Nat → Option Nat) (j r : Nat) : Int32 := pI pp (zR gf r) j
theorem hzB_tB (pp : pT) (gf : Nat → Option Nat) (r : Nat) (A : Int32) : hzB pp (zR gf r) A ↔ tB (zM pp gf 4) (zM pp gf 5) (zM pp gf 8) (zM pp gf 9) r (bt A) := by
  unfold hzB tB zM
  rw [b_sub, b_dis, b_sub, b_dis]
theorem and_sm {x y : Int32} (h : sm x) : sm (x &&& y) := fun i hi => by rw [b_and, h i hi]; rfl
theorem bc_and {x y : Int32} (h : sm x) : m_k_J6_bitCount_0f7a4 (x &&& y) = nI (cn (fun p => bt x p && bt y p)) := by
  rw [cn_bc (and_sm h)]
  congr 1
  exact cn_cong fun i _ => b_and x y i
theorem cn_ti (f : Nat → Bool) : (nI (cn f)).toInt = (cn f : Int) := kI_ti (by have := cn_le f; omega)
theorem lw_closed {pp : pT} {gf : Nat → Option Nat} {many : Nat} (hz : zsOK pp gf many) (A : Int32) : tv (m_k_L_isClosed pp gf (nI many) A) (tC many (zK pp gf) (zM pp gf 1) (zM pp gf 4) (zM pp gf 5) (zM pp gf 8) (zM pp gf 9) (zI pp gf 2) (zI pp gf 3) (bt A)) := by
  have hm := hz.1
  have key := all_loop (many := many) (m_k_L_isClosed_5 pp gf (nI many) A) (fun r => ¬ zK pp gf r = 119 → tB (zM pp gf 4) (zM pp gf 5) (zM pp gf 8) (zM pp gf 9) r (bt A) → tH (zK pp gf) (zM pp gf 1) (zI pp gf 2) (zI pp gf 3) r (bt A))
    (fun n v => by
      rw [m_k_L_isClosed_5_succ, m_k_L_isClosed_5s, if_pos (Int32.le_refl _)])
    (fun n v i hi hv => by
      obtain ⟨hg, hk, h7, h6, s1, s4, s5, s8, s9, -⟩ := hz.at hi
      rw [m_k_L_isClosed_5_succ, m_k_L_isClosed_5s, if_neg (show ¬ nI many ≤ nI i from nle hi (by omega)), kI_nat (by omega), hg, oE_some, lE, z0, z1, z2, z3, bc_and s1]
      simp only [m_k_L_isClosed_89, m_k_L_isClosed_85, m_k_L_isClosed_90, lE, kI_s]
      by_cases c0 : v = 0
      · rw [if_pos c0]
        exact ⟨0, tv.zero fun h => absurd (c0.symm.trans h.1) (by decide), rfl⟩
      · rw [if_neg c0]
        have c1 : v = 1 := hv.resolve_left c0
        by_cases c2 : pI pp (zR gf i) 0 = 119
        · rw [if_pos c2]
          exact ⟨1, tv.one ⟨c1, fun h => absurd c2 h⟩, rfl⟩
        · rw [if_neg c2]
          have hh := (lw_held h7 h6 A).iff (hzB_tB pp gf i A)
          by_cases c3 : m_k_L_isHeld pp (zR gf i) A = 0
          · rw [if_pos c3]
            exact ⟨1, tv.one ⟨c1, fun _ h => absurd h (hh.z.mp c3)⟩, rfl⟩
          · rw [if_neg c3]
            have hb := hh.nz.mp c3
            by_cases c4 : pI pp (zR gf i) 0 = 100
            · rw [if_pos c4]
              by_cases c5 : nI (cn fun p => bt (pI pp (zR gf i) 1) p && bt A p) ≤ 0
              · rw [if_pos c5]
                refine ⟨0, tv.zero fun h => ?_, rfl⟩
                have h6 := h.2 c2 hb
                unfold tH at h6
                rw [if_pos (show zK pp gf i = 100 from c4)] at h6
                obtain ⟨p, g1, g2⟩ := h6
                have g3 : 0 < cn fun p => bt (pI pp (zR gf i) 1) p && bt A p := cn_pos.mpr ⟨p, sm_lt s1 g1, (Bool.and_eq_true _ _).mpr ⟨g1, g2⟩⟩
                have g5 := Int32.le_iff_toInt_le.mp c5
                rw [cn_ti, show (0 : Int32).toInt = 0 from rfl] at g5
                omega
              · rw [if_neg c5]
                refine ⟨1, tv.one ⟨c1, fun _ _ => ?_⟩, rfl⟩
                unfold tH
                rw [if_pos (show zK pp gf i = 100 from c4)]
                have g5 : 0 < cn fun p => bt (pI pp (zR gf i) 1) p && bt A p := by
                  have g5 := Int32.lt_iff_toInt_lt.mp (Int32.not_le.mp c5)
                  rw [cn_ti, show (0 : Int32).toInt = 0 from rfl] at g5
                  omega
                obtain ⟨p, -, g6⟩ := cn_pos.mp g5
                have g7 := (Bool.and_eq_true _ _).mp g6
                exact ⟨p, g7.1, g7.2⟩
            · rw [if_neg c4]
              by_cases c5 : nI (cn fun p => bt (pI pp (zR gf i) 1) p && bt A p) < pI pp (zR gf i) 2
              · rw [if_pos c5]
                refine ⟨0, tv.zero fun h => ?_, rfl⟩
                have h6 := h.2 c2 hb
                unfold tH at h6
                rw [if_neg (show ¬ zK pp gf i = 100 from c4)] at h6
                have g5 := Int32.lt_iff_toInt_lt.mp c5
                rw [cn_ti] at g5
                have g6 := h6.1
                unfold zI zM at g6
                omega
              · rw [if_neg c5]
                have g5 := Int32.le_iff_toInt_le.mp (Int32.not_lt.mp c5)
                rw [cn_ti] at g5
                by_cases c6 : pI pp (zR gf i) 3 < nI (cn fun p => bt (pI pp (zR gf i) 1) p && bt A p)
                · rw [if_pos c6]
                  refine ⟨0, tv.zero fun h => ?_, rfl⟩
                  have h6 := h.2 c2 hb
                  unfold tH at h6
                  rw [if_neg (show ¬ zK pp gf i = 100 from c4)] at h6
                  have g7 := Int32.lt_iff_toInt_lt.mp c6
                  rw [cn_ti] at g7
                  have g6 := h6.2
                  unfold zI zM at g6
                  omega
                · rw [if_neg c6]
                  refine ⟨1, tv.one ⟨c1, fun _ _ => ?_⟩, rfl⟩
                  have g7 := Int32.le_iff_toInt_le.mp (Int32.not_lt.mp c6)
                  rw [cn_ti] at g7
                  unfold tH
                  rw [if_neg (show ¬ zK pp gf i = 100 from c4)]
                  exact ⟨g5, g7⟩)
  obtain ⟨n, hn⟩ : ∃ n, wF = n + 20 := ⟨4294967277, rfl⟩
  have h := key (many - 0) wF 1 0 rfl (by rw [hn]; omega) (Nat.zero_le _) (Or.inr rfl)
  refine h.iff ⟨fun h r hr => h.2 r (Nat.zero_le _) hr, fun h => ⟨rfl, fun r _ hr => h r hr⟩⟩
theorem b_dis3 {h a b : Int32} : (h &&& a) &&& (b ^^^ (-1)) = 0 ↔ ∀ p, bt h p = true → bt a p = true → bt b p = true := by
  constructor
  · intro e p h1 h2
    by_cases hp : p < 32
    · have h3 : bt ((h &&& a) &&& (b ^^^ (-1))) p = bt 0 p := by rw [e]
      rw [b_and, b_and, b_not b hp, b_0, h1, h2] at h3
      simpa using h3
    · rw [b_big (Nat.not_lt.mp hp)] at h1
      cases h1
  · intro e
    apply b_ext
    intro p hp
    rw [b_and, b_and, b_not b hp, b_0]
    cases h1 : bt h p with
    | false => rfl
    | true =>
      cases h2 : bt a p with
      | false => rfl
      | true => rw [e p h1 h2]; rfl
theorem lw_enough {pp : pT} {gf : Nat → Option Nat} {many : Nat} (hz : zsOK pp gf many) (A B : Int32) : tv (m_k_L_isEnough pp gf (nI many) A B) (tE many (zK pp gf) (zM pp gf 1) (zM pp gf 4) (zM pp gf 5) (zM pp gf 8) (zM pp gf 9) (bt A) (bt B)) := by
  have hm := hz.1
  have key := all_loop (many := many) (m_k_L_isEnough_6 pp gf (nI many) A B) (fun r => ¬ zK pp gf r = 119 → tB (zM pp gf 4) (zM pp gf 5) (zM pp gf 8) (zM pp gf 9) r (bt A) → tB (zM pp gf 4) (zM pp gf 5) (zM pp gf 8) (zM pp gf 9) r (bt B) → if zK pp gf r = 100 then ∃ p, zM pp gf 1 r p = true ∧ bt B p = true else ∀ p, zM pp gf 1 r p = true → bt A p = true → bt B p = true)
    (fun n v => by
      rw [m_k_L_isEnough_6_succ, m_k_L_isEnough_6s, if_pos (Int32.le_refl _)])
    (fun n v i hi hv => by
      obtain ⟨hg, hk, h7, h6, s1, s4, s5, s8, s9, -⟩ := hz.at hi
      rw [m_k_L_isEnough_6_succ, m_k_L_isEnough_6s, if_neg (show ¬ nI many ≤ nI i from nle hi (by omega)), kI_nat (by omega), hg, oE_some, z0]
      simp only [m_k_L_isEnough_49, m_k_L_isEnough_50, m_k_L_isEnough_96, m_k_L_isEnough_100, m_k_L_isEnough_101, lE, kI_s, z0, z1]
      by_cases c0 : v = 0
      · refine ⟨0, tv.zero fun h => absurd (c0.symm.trans h.1) (by decide), ?_⟩
        simp only [if_pos c0, ite_self]
      · have c1 : v = 1 := hv.resolve_left c0
        simp only [if_neg c0, if_neg (by decide : ¬ (1 : Int32) = 0), if_pos (rfl : (0 : Int32) = 0)]
        by_cases c2 : pI pp (zR gf i) 0 = 119
        · rw [if_pos c2]
          exact ⟨1, tv.one ⟨c1, fun h => absurd c2 h⟩, rfl⟩
        · rw [if_neg c2]
          have ha := (lw_held h7 h6 A).iff (hzB_tB pp gf i A)
          have hb := (lw_held h7 h6 B).iff (hzB_tB pp gf i B)
          by_cases c3 : m_k_L_isHeld pp (zR gf i) A = 0
          · rw [if_pos c3]
            exact ⟨1, tv.one ⟨c1, fun _ h => absurd h (ha.z.mp c3)⟩, rfl⟩
          · rw [if_neg c3]
            by_cases c4 : m_k_L_isHeld pp (zR gf i) B = 0
            · rw [if_pos c4]
              exact ⟨1, tv.one ⟨c1, fun _ _ h => absurd h (hb.z.mp c4)⟩, rfl⟩
            · rw [if_neg c4]
              have ga := ha.nz.mp c3
              have gb := hb.nz.mp c4
              by_cases c5 : pI pp (zR gf i) 0 = 100
              · rw [if_pos c5]
                by_cases c6 : pI pp (zR gf i) 1 &&& B = 0
                · rw [if_pos c6]
                  refine ⟨0, tv.zero fun h => ?_, rfl⟩
                  have g := h.2 c2 ga gb
                  rw [if_pos (show zK pp gf i = 100 from c5)] at g
                  obtain ⟨p, g1, g2⟩ := g
                  have g3 := b_dis.mp c6 p g2
                  rw [show bt (pI pp (zR gf i) 1) p = true from g1] at g3
                  cases g3
                · rw [if_neg c6]
                  refine ⟨1, tv.one ⟨c1, fun _ _ _ => ?_⟩, rfl⟩
                  rw [if_pos (show zK pp gf i = 100 from c5)]
                  obtain ⟨p, -, g⟩ := b_ne c6
                  rw [b_and] at g
                  have g7 := (Bool.and_eq_true _ _).mp g
                  exact ⟨p, g7.1, g7.2⟩
              · rw [if_neg c5]
                by_cases c6 : (pI pp (zR gf i) 1 &&& A) &&& (B ^^^ (-1)) = 0
                · rw [if_pos c6]
                  refine ⟨1, tv.one ⟨c1, fun _ _ _ => ?_⟩, rfl⟩
                  rw [if_neg (show ¬ zK pp gf i = 100 from c5)]
                  exact b_dis3.mp c6
                · rw [if_neg c6]
                  refine ⟨0, tv.zero fun h => ?_, rfl⟩
                  have g := h.2 c2 ga gb
                  rw [if_neg (show ¬ zK pp gf i = 100 from c5)] at g
                  exact c6 (b_dis3.mpr g))
  obtain ⟨n, hn⟩ : ∃ n, wF = n + 20 := ⟨4294967277, rfl⟩
  have h := key (many - 0) wF 1 0 rfl (by rw [hn]; omega) (Nat.zero_le _) (Or.inr rfl)
  refine h.iff ⟨fun h r hr => h.2 r (Nat.zero_le _) hr, fun h => ⟨rfl, fun r _ hr => h r hr⟩⟩
