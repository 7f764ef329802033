/-! the law, 4: figures of its loops, what stays between two of its rounds -/
section LH
def cnt (k : Nat) : Nat := if k ≤ 3 then 0 else if k ≤ 6 then 1 else if k ≤ 8 then 2 else 3
def wt (k : Nat) : Nat := [2, 4, 2, 0, 3, 3, 0, 3, 0].getD k 0
theorem wt_eq : ∀ k, k < 9 → m_k_L_pick 0 (fun _ => 0) (nI (300 + 5 * k)) 5 = nI (wt k) := by decide +kernel
theorem wt_cases : ∀ k, k < 9 → (wt k = 0 ∧ cnt k + 1 ≤ cnt (k + 1) ∧ ¬ k % 3 = 1) ∨ (wt k = 2 ∧ cnt k = 0 ∧ ¬ k % 3 = 1) ∨ wt k = 3 ∨ wt k = 4 := by decide
theorem cnt_mono : ∀ k, k < 9 → cnt k ≤ cnt (k + 1) ∧ cnt (k + 1) ≤ 3 := by decide
theorem mul5 : ∀ k, k < 10 → (5 : Int32) * nI k = nI (5 * k) := by decide
theorem irem3 : ∀ k, k < 10 → nI k - nI k / 3 * 3 = nI (k % 3) := by decide
theorem hsh_n : ∀ n, n < 7 → ((1 : Int32) <<< (nI n &&& 31)).toInt ≤ 64 := by decide
theorem wt_pick {L : Nat} (hL : L ≤ 260) (xs : Nat → Int32) {k : Nat} (hk : k < 9) : nI (wt k) = m_k_L_pick L xs (nI (300 + 5 * k)) 5 := ((pick_big hL xs (by omega) (by omega) 5).trans (wt_eq k hk)).symm
theorem sm_and {x y : Int32} (hx : sm x) : sm (x &&& y) := fun i hi => by rw [b_and, hx i hi]; rfl
def dis (x y : Int32) : Prop := ∀ p, bt x p = true → bt y p = false
theorem dis_0 : dis 0 0 := fun p _ => b_0 p
theorem sm_0 : sm 0 := fun i _ => b_0 i
def cnB (x : Int32) : Nat := cn (bt x)
theorem bc_dis {x y : Int32} (hx : sm x) (hy : sm y) (h : dis x y) : nI (cn (bt x) + cn (bt y)) = m_k_J6_bitCount_0f7a4 (x ||| y) := by rw [cn_bc (sm_or hx hy), cn_or h]
theorem dis_in {x y : Int32} (hx : sm x) (h : dis x y) {p : Nat} (hp : p < 6) : dis (x ||| (1 : Int32) <<< (nI p &&& 31)) (y &&& ((1 : Int32) <<< (nI p &&& 31) ^^^ (-1))) := fun i hi => by
  have hi6 : i < 6 := sm_lt (sm_or hx (sm_one hp)) hi
  rw [b_or, b_one' (by omega)] at hi
  rw [b_and, b_not _ (by omega), b_one' (by omega)]
  rcases (Bool.or_eq_true _ _).mp hi with g | g
  · rw [h i g]
    rfl
  · rw [g]
    simp
theorem dis_out {x y : Int32} (hx : sm x) (h : dis x y) {p : Nat} (hp : p < 6) : dis (x &&& ((1 : Int32) <<< (nI p &&& 31) ^^^ (-1))) (y ||| (1 : Int32) <<< (nI p &&& 31)) := fun i hi => by
  have hi6 : i < 6 := sm_lt (sm_and hx) hi
  rw [b_and, b_not _ (by omega), b_one' (by omega)] at hi
  rw [b_or, b_one' (by omega)]
  obtain ⟨g1, g2⟩ := (Bool.and_eq_true _ _).mp hi
  rw [h i g1]
  simpa using g2
def exX (x : Nat → Nat) (e p : Nat) : Nat → Nat := fun j => if j = e then p else x j
theorem exX_same (x : Nat → Nat) (e p : Nat) : exX x e p e = p := if_pos rfl
theorem exX_else (x : Nat → Nat) {e p j : Nat} (h : ¬ j = e) : exX x e p j = x j := if_neg h
theorem exA_new {e : Nat} {x : Nat → Nat} {ea : Nat → Int32} (h : exA e x ea) (he : e < 6) {p : Nat} (hp : p < 6) : exA (e + 1) (exX x e p) (upd ea e (nI (64 * p))) := by
  refine ⟨by omega, fun j hj => ?_⟩
  by_cases g : j = e
  · subst g
    rw [exX_same, uu_same]
    exact ⟨hp, rfl⟩
  · rw [exX_else x g, uu_else ea _ g]
    exact h.2 j (by omega)
theorem exF_new {e : Nat} {es : Nat → Int32} (h : exF e es) (he : e < 6) : exF (e + 1) (upd es e (vp_nar .char 102)) := by
  refine ⟨by omega, fun j hj => ?_⟩
  by_cases g : j = e
  · subst g
    rw [uu_same]
    decide
  · rw [uu_else es _ g]
    exact h.2 j (by omega)
theorem ech_new {es : Nat → Int32} (h : ∀ i : Nat, narrow .char (.int (es i)) = .int (es i)) (e : Nat) : ∀ i : Nat, narrow .char (.int (upd es e (vp_nar .char 102) i)) = .int (upd es e (vp_nar .char 102) i) := fun i => by
  by_cases g : i = e
  · subst g
    rw [uu_same]
    rfl
  · rw [uu_else es _ g]
    exact h i
theorem eef_new {e : Nat} {x : Nat → Nat} {ef : Nat → Int32} (h : ∀ j, j < e → ef j = nI (x j)) (he : e < 6) (p : Nat) : ∀ j, j < e + 1 → upd ef (nI e).toNatClampNeg (nI p) j = nI (exX x e p j) := fun j hj => by
  rw [kI_nat (show e < 2147483648 by omega)]
  by_cases g : j = e
  · subst g
    rw [uu_same, exX_same]
  · rw [uu_else ef _ g, exX_else x g]
    exact h j (by omega)
/-- the state of the component between two rounds: to be prepared anew, or as a walk left it -/
def lkS (pp : pT) (rf gf : Nat → Option Nat) (many n : Nat) (kn on cu ic kp fb cn wn ch cg : Int32) (su po : Nat → Int64) (kr kv oa ob c1 c2 c3 c4 c5 c6 w1 w2 w3 obi sc : Nat → Int32) : Prop :=
  (cu = 0 ∧ ic = 0 ∧ kp = 0) ∨ (cu = 1 ∧ ic = 1 ∧ ∃ (S Po : Nat → Bool) (k : Nat) (q : Nat → Nat) (c0 w0 : Nat), kn = nI k ∧ on = nI (rk (oO S Po) 6) ∧ fb = 0 ∧ cn = nI c0 ∧ wn = nI w0 ∧ gR pp rf gf many S Po su po kr kv k q oa ob ∧ (∀ p, Po p = true → p < n) ∧ cP pp rf gf many S Po q k ch cg c0 w0 c1 c2 c3 c4 c5 c6 w1 w2 w3 obi sc)
theorem lkS_kp {pp : pT} {rf gf : Nat → Option Nat} {many n : Nat} {kn on cu ic kp fb cn wn ch cg : Int32} {su po : Nat → Int64} {kr kv oa ob c1 c2 c3 c4 c5 c6 w1 w2 w3 obi sc : Nat → Int32} (h : lkS pp rf gf many n kn on cu ic kp fb cn wn ch cg su po kr kv oa ob c1 c2 c3 c4 c5 c6 w1 w2 w3 obi sc) : lkS pp rf gf many n kn on cu ic 0 fb cn wn ch cg su po kr kv oa ob c1 c2 c3 c4 c5 c6 w1 w2 w3 obi sc := by
  rcases h with ⟨h1, h2, -⟩ | h
  · exact Or.inl ⟨h1, h2, rfl⟩
  · exact Or.inr h
end LH
