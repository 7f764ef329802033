/-! the pure argument, 26: the law's own list of answers -/
section LL
variable {pp : pT} {gf : Nat → Option Nat} {many : Nat}
theorem lw_put (hz : zsOK pp gf many) {c : Nat} (hc : c ≤ 64) {qf : Nat → Int32} {P : Int32 → Prop} (ho : oL (ah pp gf many) P qf c) (hsm : ∀ y, P y → sm y) {x : Int32} (hx : sm x) (hn : ¬ P x) (rec12 : Int32 → Int32 → (Nat → Int32) → r_k_L_isWalked) : ∃ q', m_k_L_isWalked_56 pp gf (nI many) rec12 (nI c) x wF (nI c) qf = m_k_L_isWalked_106 rec12 x (nI (c + 1)) q' ∧ oL (ah pp gf many) (fun y => P y ∨ y = x) q' (c + 1) := by
  obtain ⟨m0, hm0⟩ := wF_ge
  have key : ∀ v m (q : Nat → Int32), v < m → v ≤ c → (∀ i, i < v → q i = qf i) → (∀ i, v < i → i < c + 1 → q i = qf (i - 1)) → (∀ i, v ≤ i → i < c → ah pp gf many x (qf i)) → ∃ a q', m_k_L_isWalked_56 pp gf (nI many) rec12 (nI c) x m (nI v) q = m_k_L_isWalked_106 rec12 x (nI (c + 1)) q' ∧ a ≤ c ∧ (∀ i, i < c + 1 → q' i = insA qf a x i) ∧ (∀ i, a ≤ i → i < c → ah pp gf many x (qf i)) ∧ ∀ b, a = b + 1 → ¬ ah pp gf many x (qf b) := by
    intro v
    induction v with
    | zero =>
      intro m q hm hv h1 h2 h3
      obtain ⟨m, rfl⟩ : ∃ q, m = q + 1 := ⟨m - 1, by omega⟩
      rw [m_k_L_isWalked_56_succ, m_k_L_isWalked_56s, if_pos (by decide), m_k_L_isWalked_96, kI_s, kI_nat (by omega)]
      refine ⟨0, _, rfl, by omega, fun i hi => ?_, h3, fun b hb => by omega⟩
      unfold insA
      rw [if_neg (by omega)]
      by_cases e : i = 0
      · subst e
        rw [if_pos rfl]
        exact uu_same _ _ _
      · rw [if_neg e, uu_else _ _ e]
        exact h2 i (by omega) hi
    | succ v ih =>
      intro m q hm hv h1 h2 h3
      obtain ⟨m, rfl⟩ : ∃ q, m = q + 1 := ⟨m - 1, by omega⟩
      have hd := lw_ahead hz hx (hsm _ (ho.1 v (by omega)))
      rw [m_k_L_isWalked_56_succ, m_k_L_isWalked_56s, if_neg (by rw [show (0 : Int32) = nI 0 from rfl, kI_le (by omega) (by omega)]; omega), nI_pred, lE, kI_nat (by omega), h1 v (by omega)]
      by_cases d1 : m_k_L_isAhead pp gf (nI many) x (qf v) = 0
      · rw [if_pos d1, m_k_L_isWalked_96, kI_s c, kI_nat (by omega)]
        refine ⟨v + 1, _, rfl, hv, fun i hi => ?_, h3, fun b hb e => ?_⟩
        · unfold insA
          by_cases e0 : i < v + 1
          · rw [if_pos e0, uu_else _ _ (by omega)]
            exact h1 i e0
          · rw [if_neg e0]
            by_cases e : i = v + 1
            · subst e
              rw [if_pos rfl]
              exact uu_same _ _ _
            · rw [if_neg e, uu_else _ _ e]
              exact h2 i (by omega) hi
        · have : b = v := by omega
          subst this
          exact hd.z.mp d1 e
      · rw [if_neg d1, nI_m1, kI_nat (by omega)]
        refine ih m _ (by omega) (by omega) (fun i hi => ?_) (fun i hi hi2 => ?_) (fun i hi hi2 => ?_)
        · rw [uu_else _ _ (by omega)]
          exact h1 i (by omega)
        · by_cases e : i = v + 1
          · subst e
            rw [uu_same]
            rfl
          · rw [uu_else _ _ e]
            exact h2 i (by omega) hi2
        · rcases (show i = v ∨ v + 1 ≤ i by omega) with rfl | g
          · exact hd.nz.mp d1
          · exact h3 i g hi2
  obtain ⟨a, q', e1, e2, e3, e4, e5⟩ := key c wF qf (by rw [hm0]; omega) (Nat.le_refl _) (fun _ _ => rfl) (fun i g1 g2 => by omega) (fun i g1 g2 => by omega)
  refine ⟨q', e1, oL_list (oL_ins (R := ah pp gf many) (P := P) (q := qf) (c := c) (a := a) (x := x) (fun A B C g1 g2 => ah_tr g1 g2) ho e2 (fun i hi => ?_) e4) e3⟩
  obtain ⟨b, rfl⟩ : ∃ b, a = b + 1 := ⟨a - 1, by omega⟩
  have hlast : ah pp gf many (qf b) x := (ah_tot fun e => hn (by rw [← e]; exact ho.1 b (by omega))).resolve_right (e5 b rfl)
  rcases (show i = b ∨ i < b by omega) with rfl | g
  · exact hlast
  · exact ah_tr (ho.2.1 i b g (by omega)) hlast
end LL
