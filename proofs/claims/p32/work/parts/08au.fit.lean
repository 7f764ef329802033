/-! the pure argument, 21: the assumptions as masks -/
section FI
variable {pp : pT} {n many : Nat} {rf gf : Nat → Option Nat}
theorem nx0 {F : Nat → Bool} {v : Nat} (h : ¬ (F (v / 64) = true ∧ v % 64 = 0)) : (fun q => decide (64 * q < v + 1) && F q) = (fun q => decide (64 * q < v) && F q) := funext fun q => by
  by_cases e : 64 * q = v
  · have : F q = false := by
      cases hf : F q with
      | false => rfl
      | true => exact absurd ⟨by rw [← e, show 64 * q / 64 = q by omega]; exact hf, by omega⟩ h
    rw [this, Bool.and_false, Bool.and_false]
  · have e2 : decide (64 * q < v + 1) = decide (64 * q < v) := decide_eq_decide.mpr (by omega)
    rw [e2]
theorem nx1 {F : Nat → Bool} {p0 : Nat} (h : F p0 = true) : (fun q => decide (64 * q < 64 * p0 + 1) && F q) = (fun q => (decide (64 * q < 64 * p0) && F q) || decide (q = p0)) := funext fun q => by
  by_cases e : q = p0
  · subst e
    rw [h, decide_eq_true (show 64 * q < 64 * q + 1 by omega), decide_eq_true rfl, Bool.or_true]
    rfl
  · have e2 : decide (64 * q < 64 * p0 + 1) = decide (64 * q < 64 * p0) := decide_eq_decide.mpr (by omega)
    rw [decide_eq_false e, Bool.or_false, e2]
theorem px0 {F : Nat → Bool} {X : Nat → Prop} {v : Nat} (h : ¬ (F (v / 64) = true ∧ v % 64 = 0)) : (∀ p, 64 * p < v + 1 → F p = true → X p) ↔ ∀ p, 64 * p < v → F p = true → X p := by
  refine ⟨fun e p hp => e p (by omega), fun e p hp hf => ?_⟩
  by_cases g : 64 * p = v
  · exact absurd ⟨by rw [← g, show 64 * p / 64 = p by omega]; exact hf, by omega⟩ h
  · exact e p (by omega) hf
theorem px1 {F : Nat → Bool} {X : Nat → Prop} {p0 : Nat} (h : F p0 = true) : (∀ p, 64 * p < 64 * p0 + 1 → F p = true → X p) ↔ (∀ p, 64 * p < 64 * p0 → F p = true → X p) ∧ X p0 := by
  refine ⟨fun e => ⟨fun p hp => e p (by omega), e p0 (by omega) h⟩, fun e p hp hf => ?_⟩
  by_cases g : p = p0
  · rw [g]
    exact e.2
  · exact e.1 p (by omega) hf
theorem k_fit {S Po I Q : Nat → Bool} {su po ai ao : Nat → Int64} (hs : ws6 su S) (hp : ws6 po Po) (hi : ws6 ai I) (hq : ws6 ao Q) (hsp : ∀ p, S p = true → Po p = true) {oa ob : Nat → Int32} (ho : oN (oO S Po) oa ob) : ∃ mh ml ih, m_k_X9_fitAssumptions (nI (rk (oO S Po) 6)) su po ob ai ao = (mh, ml, ih) ∧ ∀ s, tv (m_k_X9_fits mh ml ih s) ((∀ p, p < 6 → I p = true → bt (phi S Po s) p = true) ∧ ∀ p, p < 6 → Q p = true → bt (phi S Po s) p = false) := by
  obtain ⟨m0, hm0⟩ := wF_ge
  have key : ∀ d m v (mh ml ih : Int32), 384 - v = d → d < m → v ≤ 384 → cM (oO S Po) (fun q => decide (64 * q < v) && I q) mh → cM (oO S Po) (fun q => decide (64 * q < v) && Q q) ml → (ih = 0 ↔ (∀ p, 64 * p < v → I p = true → Po p = true) ∧ ∀ p, 64 * p < v → Q p = true → S p = false) → ∃ mh' ml' ih', m_k_X9_fitAssumptions_17 (nI (rk (oO S Po) 6)) su po ob ai ao m (nI v) mh ml ih = (mh', ml', ih') ∧ cM (oO S Po) (fun q => decide (64 * q < 384) && I q) mh' ∧ cM (oO S Po) (fun q => decide (64 * q < 384) && Q q) ml' ∧ (ih' = 0 ↔ (∀ p, 64 * p < 384 → I p = true → Po p = true) ∧ ∀ p, 64 * p < 384 → Q p = true → S p = false) := by
    intro d
    induction d with
    | zero =>
      intro m v mh ml ih hd hm hv h1 h2 h3
      obtain ⟨m, rfl⟩ : ∃ q, m = q + 1 := ⟨m - 1, by omega⟩
      have hv' : v = 384 := by omega
      subst hv'
      rw [m_k_X9_fitAssumptions_17_succ, m_k_X9_fitAssumptions_17s, if_pos (by decide)]
      exact ⟨mh, ml, ih, rfl, h1, h2, h3⟩
    | succ d IH =>
      intro m v mh ml ih hd hm hv h1 h2 h3
      obtain ⟨m, rfl⟩ : ∃ q, m = q + 1 := ⟨m - 1, by omega⟩
      have ci := s_contains hi (show v < 384 by omega)
      have cq := s_contains hq (show v < 384 by omega)
      have cs := s_contains hs (show v < 384 by omega)
      have cp := s_contains hp (show v < 384 by omega)
      have part2 : ∀ mh' ih', cM (oO S Po) (fun q => decide (64 * q < v + 1) && I q) mh' → (ih' = 0 ↔ (∀ p, 64 * p < v + 1 → I p = true → Po p = true) ∧ ∀ p, 64 * p < v → Q p = true → S p = false) → ∃ mh2 ml2 ih2, m_k_X9_fitAssumptions_76 (nI (rk (oO S Po) 6)) su ob ao (m_k_X9_fitAssumptions_17 (nI (rk (oO S Po) 6)) su po ob ai ao m) (nI v) ml mh' ih' = (mh2, ml2, ih2) ∧ cM (oO S Po) (fun q => decide (64 * q < 384) && I q) mh2 ∧ cM (oO S Po) (fun q => decide (64 * q < 384) && Q q) ml2 ∧ (ih2 = 0 ↔ (∀ p, 64 * p < 384 → I p = true → Po p = true) ∧ ∀ p, 64 * p < 384 → Q p = true → S p = false) := fun mh' ih' g1 g3 => by
        rw [m_k_X9_fitAssumptions_76, lE]
        by_cases d1 : m_k_X1_contains ao (nI v) = 0
        · rw [if_pos d1, m_k_X9_fitAssumptions_128, kI_s]
          have hn := cq.z.mp d1
          exact IH m (v + 1) mh' ml ih' (by omega) (by omega) (by omega) g1 (by rw [nx0 hn]; exact h2) (by rw [g3, px0 (X := fun p => S p = false) hn])
        · rw [if_neg d1, lE]
          obtain ⟨y1, y2⟩ := cq.nz.mp d1
          obtain ⟨p0, rfl⟩ : ∃ p0, v = 64 * p0 := ⟨v / 64, by omega⟩
          rw [show 64 * p0 / 64 = p0 by omega] at y1 cs
          have h2' : cM (oO S Po) (fun q => decide (64 * q < 64 * p0 + 1) && Q q) (ml ||| m_k_X9_bitOf (nI (rk (oO S Po) 6)) ob (nI (64 * p0))) := by
            rw [nx1 y1]
            exact cM_or ho h2 (by omega)
          by_cases d2 : ih' = 0
          · rw [if_pos d2, lE]
            by_cases d3 : m_k_X1_contains su (nI (64 * p0)) = 0
            · rw [if_pos d3, m_k_X9_fitAssumptions_125, m_k_X9_fitAssumptions_128, kI_s]
              refine IH m (64 * p0 + 1) mh' _ 0 (by omega) (by omega) (by omega) g1 h2' ⟨fun _ => ⟨(g3.mp d2).1, (px1 (X := fun p => S p = false) y1).mpr ⟨(g3.mp d2).2, ?_⟩⟩, fun _ => rfl⟩
              cases hS : S p0 with
              | false => rfl
              | true => exact absurd ⟨hS, y2⟩ (cs.z.mp d3)
            · rw [if_neg d3, m_k_X9_fitAssumptions_120, m_k_X9_fitAssumptions_125, m_k_X9_fitAssumptions_128, kI_s]
              refine IH m (64 * p0 + 1) mh' _ 1 (by omega) (by omega) (by omega) g1 h2' ⟨fun e => absurd e (by decide), fun e => ?_⟩
              have := ((px1 (X := fun p => S p = false) y1).mp e.2).2
              rw [(cs.nz.mp d3).1] at this
              cases this
          · rw [if_neg d2, m_k_X9_fitAssumptions_120, m_k_X9_fitAssumptions_125, m_k_X9_fitAssumptions_128, kI_s]
            exact IH m (64 * p0 + 1) mh' _ 1 (by omega) (by omega) (by omega) g1 h2' ⟨fun e => absurd e (by decide), fun e => absurd (g3.mpr ⟨e.1, ((px1 (X := fun p => S p = false) y1).mp e.2).1⟩) d2⟩
      rw [m_k_X9_fitAssumptions_17_succ, m_k_X9_fitAssumptions_17s, if_neg (by rw [show (384 : Int32) = nI 384 from rfl, kI_le (by omega) (by omega)]; omega), lE]
      by_cases d1 : m_k_X1_contains ai (nI v) = 0
      · rw [if_pos d1]
        have hn := ci.z.mp d1
        exact part2 mh ih (by rw [nx0 hn]; exact h1) (by rw [h3, px0 (X := fun p => Po p = true) hn])
      · rw [if_neg d1, lE]
        obtain ⟨y1, y2⟩ := ci.nz.mp d1
        have hv64 : 64 * (v / 64) = v := by omega
        have h1' : cM (oO S Po) (fun q => decide (64 * q < v + 1) && I q) (mh ||| m_k_X9_bitOf (nI (rk (oO S Po) 6)) ob (nI v)) := by
          rw [← hv64] at h1 ⊢
          rw [nx1 y1]
          exact cM_or ho h1 (by omega)
        have hx := px1 (X := fun p => Po p = true) y1
        rw [hv64] at hx
        by_cases d2 : ih = 0
        · rw [if_pos d2, lE]
          by_cases d3 : m_k_X1_contains po (nI v) = 0
          · rw [if_pos d3, m_k_X9_fitAssumptions_68, m_k_X9_fitAssumptions_73]
            exact part2 _ 1 h1' ⟨fun e => absurd e (by decide), fun e => absurd ⟨(hx.mp e.1).2, y2⟩ (cp.z.mp d3)⟩
          · rw [if_neg d3, m_k_X9_fitAssumptions_73]
            exact part2 _ 0 h1' ⟨fun _ => ⟨hx.mpr ⟨(h3.mp d2).1, (cp.nz.mp d3).1⟩, (h3.mp d2).2⟩, fun _ => rfl⟩
        · rw [if_neg d2, m_k_X9_fitAssumptions_68, m_k_X9_fitAssumptions_73]
          exact part2 _ 1 h1' ⟨fun e => absurd e (by decide), fun e => absurd (h3.mpr ⟨(hx.mp e.1).1, e.2⟩) d2⟩
  have c0 : ∀ F : Nat → Bool, cM (oO S Po) (fun q => decide (64 * q < 0) && F q) 0 := fun F j => by
    rw [b_0]
    refine ⟨fun e => (by cases e), fun ⟨p, _, _, e, _⟩ => ?_⟩
    have e2 := ((Bool.and_eq_true _ _).mp (show (decide (64 * p < 0) && F p) = true from e)).1
    exact absurd (of_decide_eq_true e2) (Nat.not_lt_zero _)
  obtain ⟨mh, ml, ih, e, h1, h2, h3⟩ := key (384 - 0) wF 0 0 0 0 rfl (by rw [hm0]; omega) (Nat.zero_le _) (c0 I) (c0 Q) ⟨fun _ => ⟨fun p hp => absurd hp (Nat.not_lt_zero _), fun p hp => absurd hp (Nat.not_lt_zero _)⟩, fun _ => rfl⟩
  refine ⟨mh, ml, ih, e, fun s => ?_⟩
  unfold m_k_X9_fits
  have dc : ∀ (F : Nat → Bool) p, (decide (64 * p < 384) && F p) = true ↔ p < 6 ∧ F p = true := fun F p => by
    rw [Bool.and_eq_true, decide_eq_true_iff]
    exact ⟨fun e => ⟨by omega, e.2⟩, fun e => ⟨by omega, e.2⟩⟩
  by_cases d1 : ih = 0
  · rw [if_pos d1]
    obtain ⟨q1, q2⟩ := h3.mp d1
    have e1 := cM_sub (s := s) h1 fun p hM => by
      have := (dc I p).mp hM
      exact ⟨this.1, q1 p (by omega) this.2⟩
    have e2 := cM_dis (s := s) h2 fun p hM => by
      have := (dc Q p).mp hM
      exact ⟨this.1, q2 p (by omega) this.2⟩
    by_cases d2 : s &&& mh = mh
    · rw [if_pos d2]
      have f1 := e1.mp d2
      by_cases d3 : s &&& ml = 0
      · rw [if_pos d3]
        exact tv.one ⟨fun p hp hI => f1 p ((dc I p).mpr ⟨hp, hI⟩), fun p hp hQ => e2.mp d3 p ((dc Q p).mpr ⟨hp, hQ⟩)⟩
      · rw [if_neg d3]
        exact tv.zero fun g => d3 (e2.mpr fun p hM => g.2 p ((dc Q p).mp hM).1 ((dc Q p).mp hM).2)
    · rw [if_neg d2]
      exact tv.zero fun g => d2 (e1.mpr fun p hM => g.1 p ((dc I p).mp hM).1 ((dc I p).mp hM).2)
  · rw [if_neg d1]
    refine tv.zero fun g => d1 (h3.mpr ⟨fun p hp hI => phi_P hsp (g.1 p (by omega) hI), fun p hp hQ => ?_⟩)
    cases hS : S p with
    | false => rfl
    | true =>
      have := g.2 p (by omega) hQ
      rw [phi_S (by omega) hS] at this
      cases this
end FI
