/-! the pure argument, 16: active rows, which smaller sets are enough -/
section AC
variable {pp : pT} {n many : Nat} {rf gf : Nat → Option Nat}
/-- the rows among the first c that act, listed -/
def aL (c : Nat) (act : Nat → Prop) (an : Nat) (ac : Nat → Int32) : Prop := an ≤ c ∧ (∀ i, i < an → ∃ j, j < c ∧ ac i = nI j ∧ act j) ∧ ∀ j, j < c → act j → ∃ i, i < an ∧ ac i = nI j
theorem aL_no {c an : Nat} {act : Nat → Prop} {ac : Nat → Int32} (h : aL c act an ac) (hn : ¬ act c) : aL (c + 1) act an ac := by
  refine ⟨by have := h.1; omega, fun i hi => ?_, fun j hj ha => ?_⟩
  · obtain ⟨j, h1, h2⟩ := h.2.1 i hi
    exact ⟨j, by omega, h2⟩
  · rcases (show j = c ∨ j < c by omega) with rfl | g
    · exact absurd ha hn
    · exact h.2.2 j g ha
theorem aL_yes {c an : Nat} {act : Nat → Prop} {ac : Nat → Int32} (h : aL c act an ac) (hy : act c) : aL (c + 1) act (an + 1) (upd ac an (nI c)) := by
  obtain ⟨h1, h2, h3⟩ := h
  refine ⟨by omega, fun i hi => ?_, fun j hj ha => ?_⟩
  · by_cases e : i = an
    · subst e
      exact ⟨c, by omega, uu_same _ _ _, hy⟩
    · obtain ⟨j, g1, g2, g3⟩ := h2 i (by omega)
      exact ⟨j, by omega, by rw [uu_else _ _ e]; exact g2, g3⟩
  · rcases (show j = c ∨ j < c by omega) with rfl | g
    · exact ⟨an, by omega, uu_same _ _ _⟩
    · obtain ⟨i, g1, g2⟩ := h3 j g ha
      exact ⟨i, by omega, by rw [uu_else _ _ (by omega)]; exact g2⟩
/-- a row acts in a set -/
def actR (pp : pT) (rn cg : Int32) (rf : Nat → Option Nat) (c1 c2 c3 c4 obi sc : Nat → Int32) (s : Int32) (j : Nat) : Prop := ¬ c4 j &&& s = 0 ∧ ¬ m_k_X7_bodyHolds c1 c2 c3 (nI j) s (m_k_X9_countsHeld pp rn rf cg obi sc s) = 0
theorem k_list {c : Nat} (hc : c ≤ 300) (rn cg : Int32) (c1 c2 c3 c4 ac obi sc : Nat → Int32) (s : Int32) : ∃ an ac', m_k_X9_listActive pp rn rf cg (nI c) c1 c2 c3 c4 ac obi sc s = (nI an, ac') ∧ aL c (actR pp rn cg rf c1 c2 c3 c4 obi sc s) an ac' := by
  obtain ⟨m0, hm0⟩ := wF_ge
  have key : ∀ d m i k (ac : Nat → Int32), c - i = d → d < m → i ≤ c → aL i (actR pp rn cg rf c1 c2 c3 c4 obi sc s) k ac → ∃ an ac', m_k_X9_listActive_13 (nI c) c1 c2 c3 c4 s (m_k_X9_countsHeld pp rn rf cg obi sc s) m (nI i) (nI k) ac = (nI an, ac') ∧ aL c (actR pp rn cg rf c1 c2 c3 c4 obi sc s) an ac' := by
    intro d
    induction d with
    | zero =>
      intro m i k ac hd hm hi hl
      obtain ⟨m, rfl⟩ : ∃ q, m = q + 1 := ⟨m - 1, by omega⟩
      have hi' : i = c := by omega
      subst hi'
      rw [m_k_X9_listActive_13_succ, m_k_X9_listActive_13s, if_pos (Int32.le_refl _)]
      exact ⟨k, ac, rfl, hl⟩
    | succ d ih =>
      intro m i k ac hd hm hi hl
      obtain ⟨m, rfl⟩ : ∃ q, m = q + 1 := ⟨m - 1, by omega⟩
      have hk := hl.1
      rw [m_k_X9_listActive_13_succ, m_k_X9_listActive_13s, if_neg (nle (by omega) (by omega)), lE, k_headsAt (by omega)]
      by_cases d1 : c4 i &&& s = 0
      · rw [if_pos d1, m_k_X9_listActive_42, if_pos rfl, m_k_X9_listActive_92, kI_s i]
        exact ih m (i + 1) k ac (by omega) (by omega) (by omega) (aL_no hl fun e => e.1 d1)
      · rw [if_neg d1, m_k_X9_listActive_42, if_neg (by decide), lE]
        by_cases d2 : m_k_X7_bodyHolds c1 c2 c3 (nI i) s (m_k_X9_countsHeld pp rn rf cg obi sc s) = 0
        · rw [if_pos d2, m_k_X9_listActive_92, kI_s i]
          exact ih m (i + 1) k ac (by omega) (by omega) (by omega) (aL_no hl fun e => e.2 d2)
        · rw [if_neg d2, if_neg (by rw [show (300 : Int32) = nI 300 from rfl, kI_le (by omega) (by omega)]; omega), kI_nat (by omega), m_k_X9_listActive_92, kI_s i, kI_s k]
          exact ih m (i + 1) (k + 1) _ (by omega) (by omega) (by omega) (aL_yes hl ⟨d1, d2⟩)
  have h := key (c - 0) wF 0 0 ac rfl (by rw [hm0]; omega) (Nat.zero_le _) ⟨Nat.le_refl _, fun i hi => absurd hi (Nat.not_lt_zero i), fun j hj => absurd hj (Nat.not_lt_zero j)⟩
  unfold m_k_X9_listActive
  rw [lE]
  exact h
theorem b_some {x y : Int32} : ¬ x &&& y = 0 ↔ ∃ j, bt x j = true ∧ bt y j = true := by
  constructor
  · intro h
    obtain ⟨j, -, hj⟩ := b_ne h
    rw [b_and] at hj
    have g := (Bool.and_eq_true _ _).mp hj
    exact ⟨j, g.1, g.2⟩
  · rintro ⟨j, g1, g2⟩ e
    have h : bt (x &&& y) j = true := by rw [b_and, g1, g2]; rfl
    rw [e, b_0] at h
    cases h
theorem b_some3 {x A s : Int32} : ¬ (x &&& A) &&& s = 0 ↔ ∃ j, bt x j = true ∧ bt A j = true ∧ bt s j = true := by
  rw [b_some]
  constructor
  · rintro ⟨j, g1, g2⟩
    rw [b_and] at g1
    have g := (Bool.and_eq_true _ _).mp g1
    exact ⟨j, g.1, g.2, g2⟩
  · rintro ⟨j, g1, g2, g3⟩
    exact ⟨j, by rw [b_and, g1, g2]; rfl, g3⟩
theorem b_in3 {x A s : Int32} : (x &&& A) &&& (s ^^^ (-1)) = 0 ↔ ∀ j, bt x j = true → bt A j = true → bt s j = true := by
  constructor
  · intro e j g1 g2
    by_cases hj : j < 32
    · have h : bt ((x &&& A) &&& (s ^^^ (-1))) j = bt 0 j := by rw [e]
      rw [b_and, b_and, b_not _ hj, b_0, g1, g2] at h
      cases hs : bt s j with
      | true => rfl
      | false => rw [hs] at h; cases h
    · rw [b_big (Nat.not_lt.mp hj)] at g1
      cases g1
  · intro e
    apply b_ext
    intro j hj
    rw [b_and, b_and, b_not _ hj, b_0]
    cases g1 : bt x j with
    | false => rfl
    | true =>
      cases g2 : bt A j with
      | false => rfl
      | true => rw [e j g1 g2]; rfl
theorem b_fb (A s : Int32) : (A &&& 0) &&& s = 0 := b_ext fun i _ => by
  rw [b_and, b_and, b_0]
  cases bt A i <;> rfl
/-- bits of a mask, and the atoms they stand for -/
theorem c_some {S Po M : Nat → Bool} {x : Int32} (h : cM (oO S Po) M x) {j : Nat} (hj : bt x j = true) : ∃ p, p < 6 ∧ oO S Po p = true ∧ M p = true ∧ ∀ s, bt (phi S Po s) p = bt s j := by
  obtain ⟨p, g1, g2, g3, g4⟩ := (h j).mp hj
  exact ⟨p, g1, g2, g3, fun s => by rw [← g4]; exact phi_O g1 g2⟩
theorem c_bit {S Po M : Nat → Bool} {x : Int32} (h : cM (oO S Po) M x) {p : Nat} (hp : p < 6) (ho : oO S Po p = true) (hM : M p = true) : ∃ j, bt x j = true ∧ ∀ s, bt (phi S Po s) p = bt s j := ⟨pos (oO S Po) p, (h _).mpr ⟨p, hp, ho, hM, rfl⟩, fun s => phi_O hp ho⟩
theorem k_kinds (h : prOK pp n rf gf many) {r : Nat} (hr : r < many) : zK pp gf r = 100 ∨ zK pp gf r = 99 ∨ zK pp gf r = 119 := by
  obtain ⟨-, hh, cc, hrr⟩ := h.2 r hr
  have hkd := p_kind h hr
  rcases hrr.2.1 with g | g | g
  · exact Or.inl (hkd.trans g)
  · exact Or.inr (Or.inl (hkd.trans g))
  · exact Or.inr (Or.inr (hkd.trans g))
/-- a rule whose body holds in a set has a row, or no say -/
theorem k_has (h : prOK pp n rf gf many) {S Po : Nat → Bool} {su po : Nat → Int64} {kr kv : Nat → Int32} {k : Nat} {q : Nat → Nat} {oa ob : Nat → Int32} (hg : gR pp rf gf many S Po su po kr kv k q oa ob) {c : Nat} {c1 c2 c3 c4 c5 c6 : Nat → Int32} (hc : CK pp gf many S Po q k c c1 c2 c3 c4 c5 c6) {r : Nat} (hr : r < many) (hk' : ¬ zK pp gf r = 119) {A : Int32} (hb : tB (zM pp gf 4) (zM pp gf 5) (zM pp gf 8) (zM pp gf 9) r (bt (phi S Po A))) : (∃ j, j < c ∧ ckR pp gf many S Po r (c1 j) (c2 j) (c3 j) (c4 j) (c5 j) (c6 j)) ∨ (zK pp gf r = 100 ∧ ∃ p, p < 6 ∧ zM pp gf 1 r p = true ∧ S p = true) ∨ (¬ zK pp gf r = 100 ∧ ∀ p, zM pp gf 1 r p = true → oO S Po p = false) := by
  obtain ⟨hs, hp, hS, hP, hk, ho⟩ := hg
  have hm := h.1.1
  have hsp := tS_sub (p_def h) hS hP
  have h6 : ∀ p, S p = true → p < 6 := hS.2 (fun p => p < 6) fun r hr _ _ p hp => zM_6 h hr hp
  have hkk : tK (zM pp gf 4) (zM pp gf 5) S Po r := tB_K (fun p hp => phi_S (h6 p hp) hp) (fun p hp => phi_P hsp hp) hb
  obtain ⟨i, hi, hie⟩ := hk.2.2.2 r hr hkk
  have h3 := hc.2.2 i hi (by rw [hie]; exact hk')
  rw [hie] at h3
  rcases h3 with ⟨l, hl, hle⟩ | ⟨p, h1, h2⟩ | ⟨hd, p, h1, h2⟩ | ⟨hd, h1, -⟩
  · obtain ⟨r2, hr2⟩ := hc.2.1 l hl
    have e : r2 = r := by
      have := hr2.1.2.1
      rw [hle, kI_eq (by omega) (by have := hr2.1.1; omega)] at this
      exact this.symm
    subst e
    exact Or.inl ⟨l, hl, hr2⟩
  · have g1 := hb.1 p h1
    rw [hb.2.1 p h2] at g1
    cases g1
  · exact Or.inr (Or.inl ⟨hd, p, zM_6 h hr h1, h1, h2⟩)
  · exact Or.inr (Or.inr ⟨hd, h1⟩)
/-- an atom of a set is sure or open -/
theorem phi_or {S Po : Nat → Bool} {s : Int32} {p : Nat} (hp : p < 6) (h : bt (phi S Po s) p = true) : S p = true ∨ oO S Po p = true := by
  rw [phi_b S Po s hp, Bool.or_eq_true] at h
  exact h.elim Or.inl fun e => Or.inr ((Bool.and_eq_true _ _).mp e).1
theorem nS_0 {S : Nat → Bool} {r : Nat} (hz : nS pp gf S r = 0) {p : Nat} (hp : p < 6) (h1 : zM pp gf 1 r p = true) : S p = false := by
  cases hs : S p with
  | false => rfl
  | true =>
    have : 0 < nS pp gf S r := cn_pos.mpr ⟨p, hp, by show (zM pp gf 1 r p && S p) = true; rw [h1, hs]; rfl⟩
    omega
/-- what a row asks of a smaller set -/
def okR (ch : Int32) (c1 c2 c3 c4 : Nat → Int32) (A s held : Int32) (j : Nat) : Prop := ¬ m_k_X7_bodyHolds c1 c2 c3 (nI j) s held = 0 → (m_k_X9_isChoice ch c1 (nI j) = 0 → ¬ (c4 j &&& A) &&& s = 0) ∧ (¬ m_k_X9_isChoice ch c1 (nI j) = 0 → (c4 j &&& A) &&& (s ^^^ (-1)) = 0)
theorem k_doesL {c : Nat} (hc : c ≤ 300) (ch cg rn : Int32) (c1 c2 c3 c4 obi sc : Nat → Int32) {act : Nat → Prop} {an : Nat} {ac : Nat → Int32} (hl : aL c act an ac) (A s : Int32) : tv (m_k_X9_doesFor pp rn rf (nI an) ch cg 0 c1 c2 c3 c4 ac obi sc s A) (∀ j, j < c → act j → okR ch c1 c2 c3 c4 A s (m_k_X9_countsHeld pp rn rf cg obi sc s) j) := by
  obtain ⟨m0, hm0⟩ := wF_ge
  generalize ht : m_k_X9_countsHeld pp rn rf cg obi sc s = t2
  have han := hl.1
  have lp : ∀ d m i, an - i = d → d < m → i ≤ an → tv (m_k_X9_doesFor_24 (nI an) ch c1 c2 c3 c4 ac s A t2 m (nI i)) (∀ l, i ≤ l → l < an → ∀ j, j < c → ac l = nI j → okR ch c1 c2 c3 c4 A s t2 j) := by
    intro d
    induction d with
    | zero =>
      intro m i hd hm hi
      obtain ⟨m, rfl⟩ : ∃ q, m = q + 1 := ⟨m - 1, by omega⟩
      have hi' : i = an := by omega
      subst hi'
      rw [m_k_X9_doesFor_24_succ, m_k_X9_doesFor_24s, if_pos (Int32.le_refl _)]
      exact tv.one fun l h1 h2 => by omega
    | succ d ih =>
      intro m i hd hm hi
      obtain ⟨m, rfl⟩ : ∃ q, m = q + 1 := ⟨m - 1, by omega⟩
      obtain ⟨j, hj, he, -⟩ := hl.2.1 i (by omega)
      have next : okR ch c1 c2 c3 c4 A s t2 j → tv (m_k_X9_doesFor_24 (nI an) ch c1 c2 c3 c4 ac s A t2 m (nI (i + 1))) (∀ l, i ≤ l → l < an → ∀ j, j < c → ac l = nI j → okR ch c1 c2 c3 c4 A s t2 j) := fun hok => by
        refine (ih m (i + 1) (by omega) (by omega) (by omega)).iff ⟨fun e l g1 g2 j2 hj2 he2 => ?_, fun e l g1 => e l (by omega)⟩
        rcases (show l = i ∨ i + 1 ≤ l by omega) with rfl | g
        · rw [he, kI_eq (by omega) (by omega)] at he2
          rw [← he2]
          exact hok
        · exact e l g g2 j2 hj2 he2
      have stop : ¬ okR ch c1 c2 c3 c4 A s t2 j → tv 0 (∀ l, i ≤ l → l < an → ∀ j, j < c → ac l = nI j → okR ch c1 c2 c3 c4 A s t2 j) := fun hn => tv.zero fun e => hn (e i (Nat.le_refl _) (by omega) j hj he)
      rw [m_k_X9_doesFor_24_succ, m_k_X9_doesFor_24s, if_neg (nle (by omega) (by omega)), if_neg (by rw [show (300 : Int32) = nI 300 from rfl, kI_le (by omega) (by omega)]; omega), lE, kI_nat (by omega), he, k_headsAt (by omega), lE]
      by_cases e1 : m_k_X9_isChoice ch c1 (nI j) = 0
      · rw [if_pos e1]
        by_cases e2 : (c4 j &&& A) &&& s = 0
        · rw [if_pos e2, m_k_X9_doesFor_101, if_pos rfl, kI_nat (by omega), he, lE]
          by_cases e3 : m_k_X7_bodyHolds c1 c2 c3 (nI j) s t2 = 0
          · rw [if_pos e3, m_k_X9_doesFor_124, kI_s]
            exact next fun g => absurd e3 g
          · rw [if_neg e3]
            exact stop fun g => (g e3).1 e1 e2
        · rw [if_neg e2, m_k_X9_doesFor_101, if_neg (by decide), m_k_X9_doesFor_124, kI_s]
          exact next fun _ => ⟨fun _ => e2, fun g => absurd e1 g⟩
      · rw [if_neg e1]
        by_cases e2 : (c4 j &&& A) &&& (s ^^^ (-1)) = 0
        · rw [if_pos e2, m_k_X9_doesFor_101, if_neg (by decide), m_k_X9_doesFor_124, kI_s]
          exact next fun _ => ⟨fun g => absurd g e1, fun _ => e2⟩
        · rw [if_neg e2, m_k_X9_doesFor_101, if_pos rfl, kI_nat (by omega), he, lE]
          by_cases e3 : m_k_X7_bodyHolds c1 c2 c3 (nI j) s t2 = 0
          · rw [if_pos e3, m_k_X9_doesFor_124, kI_s]
            exact next fun g => absurd e3 g
          · rw [if_neg e3]
            exact stop fun g => e2 ((g e3).2 e1)
  unfold m_k_X9_doesFor
  rw [if_pos (b_fb A _), lE, ht]
  refine (lp (an - 0) wF 0 rfl (by rw [hm0]; omega) (Nat.zero_le _)).iff ⟨fun e j hj ha => ?_, fun e l _ h2 j hj he => ?_⟩
  · obtain ⟨i, hi, he⟩ := hl.2.2 j hj ha
    exact e i (Nat.zero_le _) hi j hj he
  · obtain ⟨j2, hj2, he2, ha2⟩ := hl.2.1 l h2
    rw [he, kI_eq (by omega) (by omega)] at he2
    subst he2
    exact e j hj ha2
end AC
