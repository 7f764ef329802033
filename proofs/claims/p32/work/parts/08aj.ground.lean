/-! the pure argument, 10: kept instances, open atoms, refresh -/
section GR
variable {pp : pT} {n many : Nat} {rf gf : Nat → Option Nat}
def kK (pp : pT) (gf : Nat → Option Nat) (S Po : Nat → Bool) (r : Nat) : Prop := (∀ p, bt (pI pp (zR gf r) 4) p = true → Po p = true) ∧ ∀ p, bt (pI pp (zR gf r) 5) p = true → S p = false
/-- the kept instances of rules below i, in order -/
def kL (pp : pT) (gf : Nat → Option Nat) (S Po : Nat → Bool) (i : Nat) (kr kv : Nat → Int32) (k : Nat) (q : Nat → Nat) : Prop := k ≤ i ∧ (∀ j, j < k → kr j = nI (q j) ∧ kv j = 0 ∧ q j < i ∧ kK pp gf S Po (q j)) ∧ (∀ j j2, j < j2 → j2 < k → q j < q j2) ∧ ∀ r, r < i → kK pp gf S Po r → ∃ j, j < k ∧ q j = r
theorem kL_no {S Po : Nat → Bool} {i k : Nat} {kr kv : Nat → Int32} {q : Nat → Nat} (h : kL pp gf S Po i kr kv k q) (hno : ¬ kK pp gf S Po i) : kL pp gf S Po (i + 1) kr kv k q := by
  obtain ⟨h1, h2, h3, h4⟩ := h
  refine ⟨by omega, fun j hj => ?_, h3, fun r hr hk => ?_⟩
  · obtain ⟨g1, g2, g3, g4⟩ := h2 j hj
    exact ⟨g1, g2, by omega, g4⟩
  · rcases (show r = i ∨ r < i by omega) with rfl | g
    · exact absurd hk hno
    · exact h4 r g hk
theorem kL_yes {S Po : Nat → Bool} {i k : Nat} {kr kv : Nat → Int32} {q : Nat → Nat} (h : kL pp gf S Po i kr kv k q) (hyes : kK pp gf S Po i) : kL pp gf S Po (i + 1) (upd kr k (nI i)) (upd kv k 0) (k + 1) (fun j => if j < k then q j else i) := by
  obtain ⟨h1, h2, h3, h4⟩ := h
  refine ⟨by omega, fun j hj => ?_, fun j j2 hj hj2 => ?_, fun r hr hk => ?_⟩
  · by_cases g : j < k
    · obtain ⟨g1, g2, g3, g4⟩ := h2 j g
      dsimp only
      rw [if_pos g, show upd kr k (nI i) j = kr j from if_neg (by omega), show upd kv k 0 j = kv j from if_neg (by omega)]
      exact ⟨g1, g2, by omega, g4⟩
    · have : j = k := by omega
      subst this
      dsimp only
      rw [if_neg g, show upd kr j (nI i) j = nI i from if_pos rfl, show upd kv j 0 j = 0 from if_pos rfl]
      exact ⟨rfl, rfl, by omega, hyes⟩
  · by_cases g : j2 < k
    · dsimp only
      rw [if_pos (by omega), if_pos g]
      exact h3 j j2 hj g
    · dsimp only
      rw [if_neg g, if_pos (by omega)]
      exact (h2 j (by omega)).2.2.1
  · rcases (show r = i ∨ r < i by omega) with rfl | g
    · exact ⟨k, by omega, if_neg (by omega)⟩
    · obtain ⟨j, hj, hje⟩ := h4 r g hk
      exact ⟨j, by omega, (if_pos hj).trans hje⟩
theorem g_keep (h : prOK pp n rf gf many) {tp tq : Nat → Int32} (ht : tp 0 = 0) (hq : tq 0 = 0) {su po : Nat → Int64} {S Po : Nat → Bool} (hs : ws6 su S) (hp : ws6 po Po) (hn gw b1 b2 b3 bp : Int32) (hds kr kv kb : Nat → Int32) : ∃ hds' kr' kv' kb' hn' k q b1' b2' b3' bp', m_k_X3_keepInstances pp (nI many) 1 rf tp tq hn 2 gw b1 b2 b3 bp su po hds kr kv kb = (su, po, hds', kr', kv', kb', gw, hn', nI k, b1', b2', b3', bp') ∧ kL pp gf S Po many kr' kv' k q := by
  have hm := h.1.1
  obtain ⟨m0, hm0⟩ := wF_ge
  have key : ∀ d m i hds kr kv kb hn k q b1 b2 b3 bp, 20 - i = d → d < m → i ≤ 20 → kL pp gf S Po (min i many) kr kv k q → ∃ hds' kr' kv' kb' hn' k' q' b1' b2' b3' bp', m_k_X3_keepInstances_7 pp (nI many) 1 rf tp tq 2 m (nI i) su po hds kr kv kb gw hn (nI k) b1 b2 b3 bp = (su, po, hds', kr', kv', kb', gw, hn', nI k', b1', b2', b3', bp') ∧ kL pp gf S Po many kr' kv' k' q' := by
    intro d
    induction d with
    | zero =>
      intro m i hds kr kv kb hn k q b1 b2 b3 bp hd hm' hi hk
      obtain ⟨m, rfl⟩ : ∃ q, m = q + 1 := ⟨m - 1, by omega⟩
      have : i = 20 := by omega
      subst this
      rw [show min 20 many = many by omega] at hk
      refine ⟨hds, kr, kv, kb, hn, k, q, b1, b2, b3, bp, ?_, hk⟩
      rw [m_k_X3_keepInstances_7_succ, m_k_X3_keepInstances_7s, if_pos (by decide)]
    | succ d ih =>
      intro m i hds kr kv kb hn k q b1 b2 b3 bp hd hm' hi hk
      obtain ⟨m, rfl⟩ : ∃ q, m = q + 1 := ⟨m - 1, by omega⟩
      rw [m_k_X3_keepInstances_7_succ, m_k_X3_keepInstances_7s, if_neg (by rw [show (20 : Int32) = nI 20 from rfl, kI_le (by omega) (by omega)]; omega), lE]
      by_cases hi' : i < many
      · rw [show min i many = i by omega] at hk
        obtain ⟨-, hh, c, hr⟩ := h.2 i hi'
        rw [p_rule h hi', oE_some, hm0, show m0 + 1000 = (m0 + 998) + 1 + 1 from rfl, m_k_X3_keepInstances_31a_succ, m_k_X3_keepInstances_31as, if_neg (by decide), lE, hr.2.2.2.1, p_param ht hq, lE, each_at hr]
        have hmay := r_mayHold hr hs hp 2 b1 b2 b3 0
        rw [if_neg (by decide)] at hmay
        by_cases c1 : m_k_X3_mayHold pp 2 b1 b2 b3 0 su po (rA rf i) 0 = 0
        · rw [if_pos c1]
          dsimp only
          rw [m_k_X3_keepInstances_31a_succ, m_k_X3_keepInstances_31as, if_pos (by decide), m_k_X3_keepInstances_70, kI_s]
          exact ih m (i + 1) _ _ _ _ _ k q _ _ _ _ (by omega) (by omega) (by omega) (by rw [show min (i + 1) many = i + 1 by omega]; exact kL_no hk (hmay.z.mp c1))
        · rw [if_neg c1]
          obtain ⟨hds', k', e, -⟩ := take_2 hr gw 0 0 0 0 su po hds kr kv (upd kb (nI i).toNatClampNeg 0) (show k < 300 by have := hk.1; omega) (show i < 20 by omega)
          rw [e]
          dsimp only
          rw [m_k_X3_keepInstances_31a_succ, m_k_X3_keepInstances_31as, if_pos (by decide), m_k_X3_keepInstances_70, kI_s]
          refine ih m (i + 1) _ _ _ _ _ (k + 1) (fun j => if j < k then q j else i) _ _ _ _ (by omega) (by omega) (by omega) ?_
          rw [show min (i + 1) many = i + 1 by omega]
          exact kL_yes hk (hmay.nz.mp c1)
      · rw [show min i many = many by omega] at hk
        rw [p_norule hm (by omega) (by omega), oE_none, hm0, show m0 + 1000 = (m0 + 999) + 1 from rfl, m_k_X3_keepInstances_31_succ, m_k_X3_keepInstances_31s, m_k_X3_keepInstances_70, kI_s]
        exact ih m (i + 1) _ _ _ _ _ k q _ _ _ _ (by omega) (by omega) (by omega) (by rw [show min (i + 1) many = many by omega]; exact hk)
  obtain ⟨hds', kr', kv', kb', hn', k, q, b1', b2', b3', bp', e, hk⟩ := key (20 - 0) wF 0 hds kr kv kb hn 0 (fun _ => 0) b1 b2 b3 bp rfl (by rw [hm0]; omega) (Nat.zero_le _) (by
    rw [show min 0 many = 0 by omega]
    exact ⟨Nat.le_refl _, fun j hj => absurd hj (Nat.not_lt_zero j), fun j j2 _ hj => absurd hj (Nat.not_lt_zero j2), fun r hr => absurd hr (Nat.not_lt_zero r)⟩)
  exact ⟨hds', kr', kv', kb', hn', k, q, b1', b2', b3', bp', e, hk⟩
/-- how many of the atoms below p -/
def rk (O : Nat → Bool) : Nat → Nat
  | 0 => 0
  | p + 1 => rk O p + (O p).toNat
theorem rk_le (O : Nat → Bool) : ∀ p, rk O p ≤ p
  | 0 => Nat.le_refl _
  | p + 1 => by
    have h1 := rk_le O p
    have h2 := Bool.toNat_le (O p)
    show rk O p + (O p).toNat ≤ p + 1
    omega
theorem rk_mono (O : Nat → Bool) {p q : Nat} (h : p ≤ q) : rk O p ≤ rk O q := by
  induction q with
  | zero => rw [show p = 0 by omega]; exact Nat.le_refl _
  | succ q ih =>
    rcases (show p = q + 1 ∨ p ≤ q by omega) with rfl | g
    · exact Nat.le_refl _
    · have := ih g
      show rk O p ≤ rk O q + (O q).toNat
      omega
theorem rk_lt {O : Nat → Bool} {p q : Nat} (h : p < q) (hp : O p = true) : rk O p < rk O q := by
  have h1 := rk_mono O (show p + 1 ≤ q from h)
  have h2 : rk O (p + 1) = rk O p + 1 := by show rk O p + (O p).toNat = _; rw [hp]; rfl
  omega
theorem rk_inj {O : Nat → Bool} {p q : Nat} (hp : O p = true) (hq : O q = true) (h : rk O p = rk O q) : p = q := by
  rcases Nat.lt_trichotomy p q with g | g | g
  · have := rk_lt g hp
    omega
  · exact g
  · have := rk_lt g hq
    omega
theorem rk_onto (O : Nat → Bool) : ∀ p j, j < rk O p → ∃ q, q < p ∧ O q = true ∧ rk O q = j
  | 0, j, h => absurd h (Nat.not_lt_zero j)
  | p + 1, j, h => by
    by_cases g : j < rk O p
    · obtain ⟨q, h1, h2, h3⟩ := rk_onto O p j g
      exact ⟨q, by omega, h2, h3⟩
    · have h' : j < rk O p + (O p).toNat := h
      cases ho : O p with
      | false => rw [ho] at h'; simp at h'; omega
      | true => rw [ho] at h'; simp at h'; exact ⟨p, by omega, ho, by omega⟩
/-- the open atoms' numbers -/
def oN (O : Nat → Bool) (oa ob : Nat → Int32) : Prop := (∀ p, p < 6 → O p = true → ob (64 * p) = nI (rk O p) ∧ oa (rk O p) = nI (64 * p)) ∧ ∀ q, q < 384 → ¬ (q % 64 = 0 ∧ O (q / 64) = true) → ob q = -1
theorem g_number {su po : Nat → Int64} {S Po : Nat → Bool} (hs : ws6 su S) (hp : ws6 po Po) (oa ob : Nat → Int32) : ∃ oa' ob', m_k_X3_numberOpenAtoms su po oa ob = (oa', ob', nI (rk (fun p => Po p && !S p) 6)) ∧ oN (fun p => Po p && !S p) oa' ob' := by
  generalize hO : (fun p => Po p && !S p) = O
  have hOp : ∀ p, O p = true ↔ Po p = true ∧ ¬ S p = true := fun p => by
    rw [← hO]
    show (Po p && !S p) = true ↔ _
    cases Po p <;> cases S p <;> simp
  obtain ⟨m0, hm0⟩ := wF_ge
  have key : ∀ d m v oa ob, 384 - v = d → d < m → v ≤ 384 → (∀ p, p < 6 → 64 * p < v → O p = true → ob (64 * p) = nI (rk O p) ∧ oa (rk O p) = nI (64 * p)) → (∀ q, q < v → ¬ (q % 64 = 0 ∧ O (q / 64) = true) → ob q = -1) → ∃ oa' ob', m_k_X3_numberOpenAtoms_7 su po m (nI v) oa ob (nI (rk O ((v + 63) / 64))) = (oa', ob', nI (rk O 6)) ∧ oN O oa' ob' := by
    intro d
    induction d with
    | zero =>
      intro m v oa ob hd hm hv h1 h2
      obtain ⟨m, rfl⟩ : ∃ q, m = q + 1 := ⟨m - 1, by omega⟩
      have : v = 384 := by omega
      subst this
      rw [m_k_X3_numberOpenAtoms_7_succ, m_k_X3_numberOpenAtoms_7s, if_pos (by decide)]
      exact ⟨oa, ob, rfl, fun p hp ho => h1 p hp (by omega) ho, h2⟩
    | succ d ih =>
      intro m v oa ob hd hm hv h1 h2
      obtain ⟨m, rfl⟩ : ∃ q, m = q + 1 := ⟨m - 1, by omega⟩
      have hv' : v < 384 := by omega
      have c1 := s_contains hp hv'
      have c2 := s_contains hs hv'
      have hrk := rk_le O ((v + 63) / 64)
      rw [m_k_X3_numberOpenAtoms_7_succ, m_k_X3_numberOpenAtoms_7s, if_neg (by rw [show (384 : Int32) = nI 384 from rfl, kI_le (by omega) (by omega)]; omega), lE]
      simp only [lE, m_k_X3_numberOpenAtoms_83, kI_s, kI_nat (show v < 2147483648 by omega)]
      have no : ¬ (v % 64 = 0 ∧ O (v / 64) = true) → ∃ oa' ob', m_k_X3_numberOpenAtoms_7 su po m (nI (v + 1)) oa (upd ob v (-1)) (nI (rk O ((v + 63) / 64))) = (oa', ob', nI (rk O 6)) ∧ oN O oa' ob' := fun hno => by
        have he : rk O ((v + 63) / 64) = rk O ((v + 1 + 63) / 64) := by
          by_cases g : v % 64 = 0
          · have hof : O (v / 64) = false := by
              cases ho : O (v / 64) with
              | false => rfl
              | true => exact absurd ⟨g, ho⟩ hno
            rw [show (v + 63) / 64 = v / 64 by omega, show (v + 1 + 63) / 64 = v / 64 + 1 by omega]
            show _ = rk O (v / 64) + (O (v / 64)).toNat
            rw [hof]
            rfl
          · rw [show (v + 1 + 63) / 64 = (v + 63) / 64 by omega]
        rw [he]
        refine ih m (v + 1) oa _ (by omega) (by omega) (by omega) (fun p hp6 hpv ho => ?_) (fun q hq hqn => ?_)
        · have hne : ¬ 64 * p = v := fun e => hno ⟨by omega, by rw [← e, show 64 * p / 64 = p by omega]; exact ho⟩
          rw [show upd ob v (-1) (64 * p) = ob (64 * p) from if_neg hne]
          exact h1 p hp6 (by omega) ho
        · by_cases g : q = v
          · rw [show upd ob v (-1) q = -1 from if_pos g]
          · rw [show upd ob v (-1) q = ob q from if_neg g]
            exact h2 q (by omega) hqn
      by_cases d1 : m_k_X1_contains po (nI v) = 0
      · rw [if_pos d1]
        exact no fun e => c1.z.mp d1 ⟨((hOp _).mp e.2).1, e.1⟩
      · rw [if_neg d1]
        have e1 := c1.nz.mp d1
        by_cases d2 : m_k_X1_contains su (nI v) = 0
        · rw [if_pos d2, if_neg (by rw [show (384 : Int32) = nI 384 from rfl, kI_le (by omega) (by omega)]; omega)]
          have e2 := c2.z.mp d2
          have ho : O (v / 64) = true := (hOp _).mpr ⟨e1.1, fun g => e2 ⟨g, e1.2⟩⟩
          have hv0 : (v + 63) / 64 = v / 64 := by have := e1.2; omega
          have hv1 : (v + 1 + 63) / 64 = v / 64 + 1 := by have := e1.2; omega
          have hve : 64 * (v / 64) = v := by have := e1.2; omega
          have he : nI (rk O (v / 64)) + 1 = nI (rk O ((v + 1 + 63) / 64)) := by
            rw [hv1, kI_s]
            show _ = nI (rk O (v / 64) + (O (v / 64)).toNat)
            rw [ho]
            rfl
          have hrl := rk_le O (v / 64)
          rw [hv0, kI_nat (by omega), ← kI_s (rk O (v / 64)), he]
          refine ih m (v + 1) _ _ (by omega) (by omega) (by omega) (fun p hp6 hpv hop => ?_) (fun q hq hqn => ?_)
          · by_cases g : p = v / 64
            · subst g
              rw [hve]
              exact ⟨if_pos rfl, if_pos rfl⟩
            · have hne : ¬ 64 * p = v := by omega
              have hrk2 : ¬ rk O p = rk O (v / 64) := fun e => g (rk_inj hop ho e)
              have h3 := h1 p hp6 (by omega) hop
              refine ⟨?_, ?_⟩
              · show (if 64 * p = v then _ else (if 64 * p = v then _ else ob (64 * p))) = _
                rw [if_neg hne, if_neg hne]
                exact h3.1
              · show (if rk O p = rk O (v / 64) then _ else oa (rk O p)) = _
                rw [if_neg hrk2]
                exact h3.2
          · have hne : ¬ q = v := fun e => hqn (by rw [e]; exact ⟨e1.2, ho⟩)
            show (if q = v then _ else (if q = v then _ else ob q)) = -1
            rw [if_neg hne, if_neg hne]
            exact h2 q (by omega) hqn
        · rw [if_neg d2]
          have e2 := c2.nz.mp d2
          exact no fun e => ((hOp _).mp e.2).2 e2.1
  obtain ⟨oa', ob', e, h⟩ := key (384 - 0) wF 0 oa ob rfl (by rw [hm0]; omega) (Nat.zero_le _) (fun p _ hp => absurd hp (Nat.not_lt_zero _)) (fun q hq => absurd hq (Nat.not_lt_zero q))
  exact ⟨oa', ob', e, h⟩
theorem g_clear (w : Nat → Int64) : ws6 (m_k_X1_clear w) (fun _ => false) := by
  obtain ⟨m0, hm0⟩ := wF_ge
  have key : ∀ d m i w, 6 - i = d → d < m → i ≤ 6 → (∀ p, p < i → w p = 0) → ws6 (m_k_X1_clear_2 m (nI i) w) (fun _ => false) := by
    intro d
    induction d with
    | zero =>
      intro m i w hd hm hi hw
      obtain ⟨m, rfl⟩ : ∃ q, m = q + 1 := ⟨m - 1, by omega⟩
      have : i = 6 := by omega
      subst this
      rw [m_k_X1_clear_2_succ, m_k_X1_clear_2s, if_pos (by decide)]
      exact fun p hp => hw p hp
    | succ d ih =>
      intro m i w hd hm hi hw
      obtain ⟨m, rfl⟩ : ∃ q, m = q + 1 := ⟨m - 1, by omega⟩
      rw [m_k_X1_clear_2_succ, m_k_X1_clear_2s, if_neg (by rw [show (6 : Int32) = nI 6 from rfl, kI_le (by omega) (by omega)]; omega), kI_s, kI_nat (by omega)]
      refine ih m (i + 1) _ (by omega) (by omega) (by omega) fun p hp => ?_
      show (if p = i then (0 : Int64) else w p) = 0
      by_cases g : p = i
      · rw [if_pos g]
      · rw [if_neg g]; exact hw p (by omega)
  exact key (6 - 0) wF 0 w rfl (by rw [hm0]; omega) (Nat.zero_le _) (fun p hp => absurd hp (Nat.not_lt_zero p))
/-- externals that are all false -/
def exF (en : Nat) (es : Nat → Int32) : Prop := en ≤ 6 ∧ ∀ e, e < en → es e = 102
theorem x_state {en : Nat} {es : Nat → Int32} (hx : exF en es) {e : Nat} (he : e < en) : m_k_X6_externalState (nI en) es (nI e) = 102 := by
  have h6 := hx.1
  unfold m_k_X6_externalState
  rw [if_neg (by rw [show (0 : Int32) = nI 0 from rfl, kI_lt (by omega) (by omega)]; omega), if_neg (by rw [kI_le (by omega) (by omega)]; omega), if_neg (by rw [show (6 : Int32) = nI 6 from rfl, kI_le (by omega) (by omega)]; omega), kI_nat (by omega), hx.2 e he]
theorem g_begin {en : Nat} {es : Nat → Int32} (hx : exF en es) (ea : Nat → Int32) (su po : Nat → Int64) : m_k_X3_beginWithExternals (nI en) ea es su po = (su, po) := by
  have h6 := hx.1
  obtain ⟨m0, hm0⟩ := wF_ge
  have key : ∀ d m i, en - i = d → d < m → i ≤ en → m_k_X3_beginWithExternals_2 (nI en) ea es m (nI i) su po = (su, po) := by
    intro d
    induction d with
    | zero =>
      intro m i hd hm hi
      obtain ⟨m, rfl⟩ : ∃ q, m = q + 1 := ⟨m - 1, by omega⟩
      have : i = en := by omega
      subst this
      rw [m_k_X3_beginWithExternals_2_succ, m_k_X3_beginWithExternals_2s, if_pos (Int32.le_refl _)]
    | succ d ih =>
      intro m i hd hm hi
      obtain ⟨m, rfl⟩ : ∃ q, m = q + 1 := ⟨m - 1, by omega⟩
      rw [m_k_X3_beginWithExternals_2_succ, m_k_X3_beginWithExternals_2s, if_neg (by rw [kI_le (by omega) (by omega)]; omega), lE, x_state hx (by omega), if_neg (by decide), m_k_X3_beginWithExternals_44, if_neg (by decide), if_neg (by decide), m_k_X3_beginWithExternals_72, kI_s]
      exact ih m (i + 1) (by omega) (by omega) (by omega)
  exact key (en - 0) wF 0 rfl (by rw [hm0]; omega) (Nat.zero_le _)
/-- what is grounded -/
def gR (pp : pT) (rf gf : Nat → Option Nat) (many : Nat) (S Po : Nat → Bool) (su po : Nat → Int64) (kr kv : Nat → Int32) (k : Nat) (q : Nat → Nat) (oa ob : Nat → Int32) : Prop := ws6 su S ∧ ws6 po Po ∧ tS many (zM pp gf 1) (zM pp gf 4) (pDf pp rf) S ∧ tP many (zK pp gf) (zM pp gf 1) (zM pp gf 4) (zM pp gf 5) S Po ∧ kL pp gf S Po many kr kv k q ∧ oN (fun p => Po p && !S p) oa ob
theorem p_head (h : prOK pp n rf gf many) {r : Nat} (hr : r < many) {p : Nat} (hp : bt (pI pp (zR gf r) 1) p = true) : p < n := by
  obtain ⟨-, hh, cc, -, -, -, -, -, -, -, ho, -⟩ := h.2 r hr
  obtain ⟨i, hi, rfl⟩ := (ho.2.2.2.2 p).mp hp
  exact (ho.2.2.2.1 i hi).2.2.2.2.2.2.2
theorem g_refresh (h : prOK pp n rf gf many) {tp tq : Nat → Int32} (ht : tp 0 = 0) (hq : tq 0 = 0) {en : Nat} {es : Nat → Int32} (hx : exF en es) (ea : Nat → Int32) (hn kn on pu gw b1 b2 b3 bp : Int32) (su po : Nat → Int64) (hds kr kv kb oa ob : Nat → Int32) : ∃ S Po su' po' hds' kr' kv' kb' oa' ob' gw' hn' k q b1' b2' b3' bp', m_k_X3_refresh pp (nI many) 1 (nI en) rf tp tq ea es hn kn on 0 pu gw b1 b2 b3 bp su po hds kr kv kb oa ob = (su', po', hds', kr', kv', kb', oa', ob', nI (rk (fun p => Po p && !S p) 6), 1, 2, gw', hn', nI k, b1', b2', b3', bp') ∧ gR pp rf gf many S Po su' po' kr' kv' k q oa' ob' ∧ ∀ p, Po p = true → p < n := by
  have c1 := g_clear su
  have c2 := g_clear po
  unfold m_k_X3_refresh
  rw [if_pos rfl, lE, lE, lE, g_begin hx]
  dsimp only
  obtain ⟨S, su', hds1, gw1, hn1, a1, a2, a3, a4, e1, s1, s2, -, s4⟩ := spread_0 h ht hq c2 (fun X => ∀ Q : Nat → Prop, (∀ r, r < many → pDf pp rf r = true → (∀ p, zM pp gf 4 r p = true → Q p) → ∀ p, zM pp gf 1 r p = true → Q p) → ∀ p, X p = true → Q p)
    (fun X X' r hr ha hX hc hX' Q hQ p hp => by
      rcases (hX' p).mp hp with g | g
      · exact hX Q hQ p g
      · exact hQ r hr (ha.2 rfl) (fun p hp => hX Q hQ p (hc.1 p hp)) p g) kr kv kb kn hn gw b1 b2 b3 bp hds c1 (fun Q _ p hp => by cases hp)
  rw [lE, e1]
  dsimp only
  obtain ⟨Po, po', hds2, gw2, hn2, a5, a6, a7, a8, e2, p1, pI1, -, p4⟩ := spread_1 h ht hq s1 (fun X => ∀ p, X p = true → p < n) (fun X X' r hr _ hX _ hX' p hp => ((hX' p).mp hp).elim (hX p) fun g => p_head h hr g) kr kv kb kn hn1 gw1 a1 a2 a3 a4 hds1 c2 (fun p hp => by cases hp)
  rw [lE, e2]
  dsimp only
  obtain ⟨hds3, kr', kv', kb', hn3, k, q, b1', b2', b3', bp', e3, hk⟩ := g_keep h ht hq s1 p1 hn2 gw2 a5 a6 a7 a8 hds2 kr kv kb
  rw [lE, e3]
  dsimp only
  obtain ⟨oa', ob', e4, ho⟩ := g_number s1 p1 oa ob
  rw [lE, e4]
  refine ⟨S, Po, su', po', hds3, kr', kv', kb', oa', ob', gw2, hn3, k, q, b1', b2', b3', bp', rfl, ⟨s1, p1, ⟨fun r hr hd ht' p hp => ?_, s2⟩, fun r hr hk' hc p hp => ?_, hk, ho⟩, pI1⟩
  · obtain ⟨g1, g2, -⟩ := p_def h r hr hd
    exact s4 r hr ⟨by rw [g1]; decide, fun _ => hd⟩ ⟨ht', fun p hp => by rw [show bt (pI pp (zR gf r) 5) p = zM pp gf 5 r p from rfl, g2 p] at hp; cases hp⟩ p hp
  · exact p4 r hr ⟨hk', fun e => absurd e (by decide)⟩ hc p hp
end GR
