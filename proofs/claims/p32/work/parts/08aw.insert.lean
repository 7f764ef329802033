/-! the pure argument, 23: an answer put in its place -/
section IN
/-- answer i is dearer than the costs y1 y2 y3 -/
def dr (cf : Nat → Int64) (i : Nat) (y1 y2 y3 : Int64) : Prop := y3.toInt < (cf (3 * i + 2)).toInt ∨ (cf (3 * i + 2)).toInt = y3.toInt ∧ (y2.toInt < (cf (3 * i + 1)).toInt ∨ (cf (3 * i + 1)).toInt = y2.toInt ∧ y1.toInt < (cf (3 * i)).toInt)
theorem cmp_0 {x y : Int64} : lg_cmp x y = 0 ↔ x.toInt = y.toInt := by
  unfold lg_cmp
  by_cases h : x > y
  · rw [if_pos h]
    have h1 : y.toInt < x.toInt := Int64.lt_iff_toInt_lt.mp h
    exact ⟨fun e => absurd e (by decide), fun e => by omega⟩
  · rw [if_neg h]
    by_cases h2 : x = y
    · rw [if_pos h2, h2]
      exact ⟨fun _ => rfl, fun _ => rfl⟩
    · rw [if_neg h2]
      exact ⟨fun e => absurd e (by decide), fun e => absurd (Int64.toInt_inj.mp e) h2⟩
theorem cmp_le {x y : Int64} : lg_cmp x y ≤ 0 ↔ ¬ y.toInt < x.toInt := by
  unfold lg_cmp
  by_cases h : x > y
  · rw [if_pos h]
    have h1 : y.toInt < x.toInt := Int64.lt_iff_toInt_lt.mp h
    exact ⟨fun e => absurd e (by decide), fun e => absurd h1 e⟩
  · rw [if_neg h]
    have h1 : ¬ y.toInt < x.toInt := fun e => h (Int64.lt_iff_toInt_lt.mpr e)
    by_cases h2 : x = y
    · rw [if_pos h2]
      exact ⟨fun _ => h1, fun _ => by decide⟩
    · rw [if_neg h2]
      exact ⟨fun _ => h1, fun _ => by decide⟩
theorem ca_1 : ∀ i, i < 64 → (((nI i * 3) + 1) - 1).toNatClampNeg = 3 * i := by decide +kernel
theorem ca_2 : ∀ i, i < 64 → (((nI i * 3) + 2) - 1).toNatClampNeg = 3 * i + 1 := by decide +kernel
theorem ca_3 : ∀ i, i < 64 → (((nI i * 3) + 3) - 1).toNatClampNeg = 3 * i + 2 := by decide +kernel
theorem ci_0 : ∀ i, i < 64 → (nI i * 3).toNatClampNeg = 3 * i := by decide +kernel
theorem ci_1 : ∀ i, i < 64 → ((nI i * 3) + 1).toNatClampNeg = 3 * i + 1 := by decide +kernel
theorem ci_2 : ∀ i, i < 64 → ((nI i * 3) + 2).toNatClampNeg = 3 * i + 2 := by decide +kernel
theorem cj_0 : ∀ i, i < 64 → ((nI i * 3) + 0).toNatClampNeg = 3 * i := by decide +kernel
theorem r64 {i : Nat} (hi : i < 64) : ¬ nI i < 0 ∧ ¬ (64 : Int32) ≤ nI i := by
  rw [show (0 : Int32) = nI 0 from rfl, show (64 : Int32) = nI 64 from rfl, kI_lt (by omega) (by omega), kI_le (by omega) (by omega)]
  omega
theorem k_costAt {i : Nat} (hi : i < 64) (cf : Nat → Int64) : m_k_X0_costAt cf (nI i) 1 = cf (3 * i) ∧ m_k_X0_costAt cf (nI i) 2 = cf (3 * i + 1) ∧ m_k_X0_costAt cf (nI i) 3 = cf (3 * i + 2) := by
  have hr := r64 hi
  unfold m_k_X0_costAt
  refine ⟨?_, ?_, ?_⟩
  · rw [if_neg hr.1, if_neg hr.2, if_neg (by decide), if_neg (by decide), ca_1 i hi]
  · rw [if_neg hr.1, if_neg hr.2, if_neg (by decide), if_neg (by decide), ca_2 i hi]
  · rw [if_neg hr.1, if_neg hr.2, if_neg (by decide), if_neg (by decide), ca_3 i hi]
theorem k_dear {i : Nat} (hi : i < 64) (cf : Nat → Int64) (y1 y2 y3 : Int64) : tv (m_k_X0_isDearer cf (nI i) y1 y2 y3) (dr cf i y1 y2 y3) := by
  obtain ⟨c1, c2, c3⟩ := k_costAt hi cf
  have stop : ∀ (x y : Int64) (P : Prop), ((P ↔ y.toInt < x.toInt)) → tv (if lg_cmp x y ≤ 0 then 0 else 1) P := fun x y P hP => by
    by_cases d : lg_cmp x y ≤ 0
    · rw [if_pos d]
      exact tv.zero fun e => cmp_le.mp d (hP.mp e)
    · rw [if_neg d]
      refine tv.one (hP.mpr ?_)
      by_cases g : y.toInt < x.toInt
      · exact g
      · exact absurd (cmp_le.mpr g) d
  unfold m_k_X0_isDearer
  rw [lE, c3]
  by_cases d1 : lg_cmp (cf (3 * i + 2)) y3 = 0
  · have e1 := cmp_0.mp d1
    rw [if_pos d1, lE, c2]
    by_cases d2 : lg_cmp (cf (3 * i + 1)) y2 = 0
    · have e2 := cmp_0.mp d2
      rw [if_pos d2, lE, c1]
      exact stop _ _ _ (by unfold dr; omega)
    · have e2 : ¬ (cf (3 * i + 1)).toInt = y2.toInt := fun e => d2 (cmp_0.mpr e)
      rw [if_neg d2, lE]
      exact stop _ _ _ (by unfold dr; omega)
  · have e1 : ¬ (cf (3 * i + 2)).toInt = y3.toInt := fun e => d1 (cmp_0.mpr e)
    rw [if_neg d1, lE]
    exact stop _ _ _ (by unfold dr; omega)
theorem ul_same (f : Nat → Int64) (k : Nat) (x : Int64) : vp_updL f k x k = x := if_pos rfl
theorem ul_else (f : Nat → Int64) {k j : Nat} (x : Int64) (h : ¬ j = k) : vp_updL f k x j = f j := if_neg h
theorem k_copy {v : Nat} (hv : v + 1 < 64) (sf : Nat → Int32) (cf : Nat → Int64) : ∃ cf', m_k_X0_copy sf cf (nI v) (nI (v + 1)) = (upd sf (v + 1) (sf v), cf') ∧ (∀ l, l < 3 → cf' (3 * (v + 1) + l) = cf (3 * v + l)) ∧ ∀ j, ¬ (3 * (v + 1) ≤ j ∧ j < 3 * (v + 1) + 3) → cf' j = cf j := by
  have h1 := r64 (show v < 64 by omega)
  have h2 := r64 hv
  obtain ⟨m0, hm0⟩ := wF_ge
  have hlt : nI (v + 1) < 64 := Int32.not_le.mp h2.2
  unfold m_k_X0_copy
  rw [if_neg h1.1, if_neg h1.2, if_neg h2.1, if_pos hlt, hm0, show m0 + 1000 = (m0 + 996) + 1 + 1 + 1 + 1 from rfl]
  rw [m_k_X0_copy_35_succ, m_k_X0_copy_35s, if_neg (by decide), cj_0 v (by omega), cj_0 (v + 1) hv]
  rw [m_k_X0_copy_35_succ, m_k_X0_copy_35s, if_neg (by decide), show (0 : Int32) + 1 = 1 from rfl, ci_1 v (by omega), ci_1 (v + 1) hv]
  rw [m_k_X0_copy_35_succ, m_k_X0_copy_35s, if_neg (by decide), show (1 : Int32) + 1 = 2 from rfl, ci_2 v (by omega), ci_2 (v + 1) hv]
  rw [m_k_X0_copy_35_succ, m_k_X0_copy_35s, if_pos (by decide), kI_nat (by omega), kI_nat (by omega)]
  refine ⟨_, rfl, fun l hl => ?_, fun j hj => ?_⟩
  · rcases (show l = 0 ∨ l = 1 ∨ l = 2 by omega) with rfl | rfl | rfl
    · rw [ul_else _ _ (by omega), ul_else _ _ (by omega)]
      exact ul_same _ _ _
    · rw [ul_else _ _ (by omega), ul_same, ul_else _ _ (by omega)]
    · rw [ul_same, ul_else _ _ (by omega), ul_else _ _ (by omega)]
  · rw [ul_else _ _ (by omega), ul_else _ _ (by omega), ul_else _ _ (by omega)]
/-- costs put at a place -/
def insC (cf : Nat → Int64) (a : Nat) (y1 y2 y3 : Int64) (i l : Nat) : Int64 := if i < a then cf (3 * i + l) else if i = a then (if l = 0 then y1 else if l = 1 then y2 else y3) else cf (3 * (i - 1) + l)
theorem k_insert {c : Nat} (hc : c < 64) (sf : Nat → Int32) (cf : Nat → Int64) (x : Int32) (y1 y2 y3 : Int64) : ∃ a sf' cf', m_k_X0_insert (nI c) sf cf x y1 y2 y3 = (1, nI (c + 1), sf', cf') ∧ a ≤ c ∧ (∀ i, i < c + 1 → sf' i = insA sf a x i) ∧ (∀ i, i < c + 1 → ∀ l, l < 3 → cf' (3 * i + l) = insC cf a y1 y2 y3 i l) ∧ (∀ i, a ≤ i → i < c → dr cf i y1 y2 y3) ∧ ∀ b, a = b + 1 → ¬ dr cf b y1 y2 y3 := by
  obtain ⟨m0, hm0⟩ := wF_ge
  have key : ∀ v m (s : Nat → Int32) (f : Nat → Int64), v < m → v ≤ c → (∀ i, i < v → s i = sf i) → (∀ i, v < i → i < c + 1 → s i = sf (i - 1)) → (∀ i, i < v → ∀ l, l < 3 → f (3 * i + l) = cf (3 * i + l)) → (∀ i, v < i → i < c + 1 → ∀ l, l < 3 → f (3 * i + l) = cf (3 * (i - 1) + l)) → (∀ i, v ≤ i → i < c → dr cf i y1 y2 y3) → ∃ a sf' cf', m_k_X0_insert_30 (nI c) x y1 y2 y3 m (nI v) (nI v) s f = (1, nI (c + 1), sf', cf') ∧ a ≤ c ∧ (∀ i, i < c + 1 → sf' i = insA sf a x i) ∧ (∀ i, i < c + 1 → ∀ l, l < 3 → cf' (3 * i + l) = insC cf a y1 y2 y3 i l) ∧ (∀ i, a ≤ i → i < c → dr cf i y1 y2 y3) ∧ ∀ b, a = b + 1 → ¬ dr cf b y1 y2 y3 := by
    intro v
    induction v with
    | zero =>
      intro m s f hm hv h1 h2 h3 h4 h5
      obtain ⟨m, rfl⟩ : ∃ q, m = q + 1 := ⟨m - 1, by omega⟩
      rw [m_k_X0_insert_30_succ, m_k_X0_insert_30s, if_pos (by decide), m_k_X0_insert_73, kI_s, kI_nat (by omega), ci_0 0 (by omega), ci_1 0 (by omega), ci_2 0 (by omega)]
      refine ⟨0, _, _, rfl, by omega, fun i hi => ?_, fun i hi l hl => ?_, h5, fun b hb => by omega⟩
      · unfold insA
        rw [if_neg (by omega)]
        by_cases e : i = 0
        · subst e
          rw [if_pos rfl]
          exact uu_same _ _ _
        · rw [if_neg e, uu_else _ _ e]
          exact h2 i (by omega) hi
      · unfold insC
        rw [if_neg (by omega)]
        by_cases e : i = 0
        · subst e
          rw [if_pos rfl]
          rcases (show l = 0 ∨ l = 1 ∨ l = 2 by omega) with rfl | rfl | rfl
          · rw [ul_else _ _ (by omega), ul_else _ _ (by omega), if_pos rfl]
            exact ul_same _ _ _
          · rw [ul_else _ _ (by omega), if_neg (by omega), if_pos rfl]
            exact ul_same _ _ _
          · rw [if_neg (by omega), if_neg (by omega)]
            exact ul_same _ _ _
        · rw [if_neg e, ul_else _ _ (by omega), ul_else _ _ (by omega), ul_else _ _ (by omega)]
          exact h4 i (by omega) hi l hl
    | succ v ih =>
      intro m s f hm hv h1 h2 h3 h4 h5
      obtain ⟨m, rfl⟩ : ∃ q, m = q + 1 := ⟨m - 1, by omega⟩
      have hd := k_dear (show v < 64 by omega) f y1 y2 y3
      have hdr : dr f v y1 y2 y3 ↔ dr cf v y1 y2 y3 := by
        have e0 := h3 v (by omega) 0 (by omega)
        have e1 := h3 v (by omega) 1 (by omega)
        have e2 := h3 v (by omega) 2 (by omega)
        unfold dr
        rw [e1, e2, show f (3 * v) = cf (3 * v) from e0]
      rw [m_k_X0_insert_30_succ, m_k_X0_insert_30s, if_neg (by rw [show (0 : Int32) = nI 0 from rfl, kI_le (by omega) (by omega)]; omega), nI_pred, lE]
      by_cases d1 : m_k_X0_isDearer f (nI v) y1 y2 y3 = 0
      · rw [if_pos d1, m_k_X0_insert_73, kI_s c, kI_nat (by omega), ci_0 (v + 1) (by omega), ci_1 (v + 1) (by omega), ci_2 (v + 1) (by omega)]
        refine ⟨v + 1, _, _, rfl, hv, fun i hi => ?_, fun i hi l hl => ?_, h5, fun b hb e => ?_⟩
        · unfold insA
          by_cases e0 : i < v + 1
          · rw [if_pos e0, uu_else _ _ (by omega)]
            exact h1 i e0
          · rw [if_neg e0]
            by_cases e : i = v + 1
            · subst e
              rw [if_pos rfl]
              exact uu_same _ _ _
            · rw [if_neg e, uu_else _ _ e]
              exact h2 i (by omega) hi
        · unfold insC
          by_cases e0 : i < v + 1
          · rw [if_pos e0, ul_else _ _ (by omega), ul_else _ _ (by omega), ul_else _ _ (by omega)]
            exact h3 i e0 l hl
          · rw [if_neg e0]
            by_cases e : i = v + 1
            · subst e
              rw [if_pos rfl]
              rcases (show l = 0 ∨ l = 1 ∨ l = 2 by omega) with rfl | rfl | rfl
              · rw [ul_else _ _ (by omega), ul_else _ _ (by omega), if_pos rfl]
                exact ul_same _ _ _
              · rw [ul_else _ _ (by omega), if_neg (by omega), if_pos rfl]
                exact ul_same _ _ _
              · rw [if_neg (by omega), if_neg (by omega)]
                exact ul_same _ _ _
            · rw [if_neg e, ul_else _ _ (by omega), ul_else _ _ (by omega), ul_else _ _ (by omega)]
              exact h4 i (by omega) hi l hl
        · have : b = v := by omega
          subst this
          exact hd.z.mp d1 (hdr.mpr e)
      · obtain ⟨f', ec, g1, g2⟩ := k_copy (show v + 1 < 64 by omega) s f
        rw [if_neg d1, lE, ec]
        dsimp only
        rw [nI_m1]
        refine ih m _ f' (by omega) (by omega) (fun i hi => ?_) (fun i hi hi2 => ?_) (fun i hi l hl => ?_) (fun i hi hi2 l hl => ?_) (fun i hi hi2 => ?_)
        · rw [uu_else _ _ (by omega)]
          exact h1 i (by omega)
        · by_cases e : i = v + 1
          · subst e
            rw [uu_same]
            exact h1 v (by omega)
          · rw [uu_else _ _ e]
            exact h2 i (by omega) hi2
        · rw [g2 _ (by omega)]
          exact h3 i (by omega) l hl
        · by_cases e : i = v + 1
          · subst e
            rw [g1 l hl]
            exact h3 v (by omega) l hl
          · rw [g2 _ (by omega)]
            exact h4 i (by omega) hi2 l hl
        · rcases (show i = v ∨ v + 1 ≤ i by omega) with rfl | g
          · exact hdr.mp (hd.nz.mp d1)
          · exact h5 i g hi2
  unfold m_k_X0_insert
  have hr := r64 hc
  rw [if_neg hr.1, if_pos (Int32.not_le.mp hr.2)]
  exact key c wF sf cf (by rw [hm0]; omega) (Nat.le_refl _) (fun _ _ => rfl) (fun i g1 g2 => by omega) (fun _ _ _ _ => rfl) (fun i g1 g2 => by omega) (fun i g1 g2 => by omega)
end IN
