/-! the pure argument, 27: the law finds all answers -/
section LO
variable {pp : pT} {gf : Nat → Option Nat} {many : Nat}
/-- the law's answers below j -/
def lS (pp : pT) (gf : Nat → Option Nat) (many : Nat) (a5 a6 : Int32) (j : Nat) (s : Int32) : Prop := ∃ u, u < j ∧ s = nI u ∧ nI u &&& a5 = a5 ∧ nI u &&& a6 = 0 ∧ zA pp gf many (nI u)
theorem lw_list (hz : zsOK pp gf many) {N : Nat} (hN : N ≤ 64) (a5 a6 : Int32) (F : Nat → Int32 → Int32 → (Nat → Int32) → r_k_L_isWalked) (hF : ∀ m c j q, j < N → F (m + 1) (nI c) (nI j) q = if nI j &&& a5 = a5 then (if nI j &&& a6 = 0 then (if m_k_L_isAnswer pp gf (nI many) 0 0 (nI j) = 0 then m_k_L_isWalked_106 (F m) (nI j) (nI c) q else m_k_L_isWalked_56 pp gf (nI many) (F m) (nI c) (nI j) wF (nI c) q) else m_k_L_isWalked_106 (F m) (nI j) (nI c) q) else m_k_L_isWalked_106 (F m) (nI j) (nI c) q) (q0 : Nat → Int32) : ∃ m c q, 100 ≤ m ∧ F wF 0 0 q0 = F m (nI c) (nI N) q ∧ c ≤ 64 ∧ oL (ah pp gf many) (lS pp gf many a5 a6 N) q c := by
  obtain ⟨m0, hm0⟩ := wF_ge
  have key : ∀ d m j c q, N - j = d → d + 100 ≤ m → j ≤ N → c ≤ j → oL (ah pp gf many) (lS pp gf many a5 a6 j) q c → ∃ m' c' q', 100 ≤ m' ∧ F m (nI c) (nI j) q = F m' (nI c') (nI N) q' ∧ c' ≤ 64 ∧ oL (ah pp gf many) (lS pp gf many a5 a6 N) q' c' := by
    intro d
    induction d with
    | zero =>
      intro m j c q hd hm hj hc ho
      have hj' : j = N := by omega
      subst hj'
      exact ⟨m, c, q, by omega, rfl, by omega, ho⟩
    | succ d ih =>
      intro m j c q hd hm hj hc ho
      obtain ⟨m, rfl⟩ : ∃ q, m = q + 1 := ⟨m - 1, by omega⟩
      have hjN : j < N := by omega
      have up : ∀ x, lS pp gf many a5 a6 (j + 1) x ↔ lS pp gf many a5 a6 j x ∨ x = nI j ∧ nI j &&& a5 = a5 ∧ nI j &&& a6 = 0 ∧ zA pp gf many (nI j) := fun x => by
        constructor
        · rintro ⟨u, u1, u2, u3⟩
          rcases (show u = j ∨ u < j by omega) with rfl | g
          · exact Or.inr ⟨u2, u3⟩
          · exact Or.inl ⟨u, g, u2, u3⟩
        · rintro (⟨u, u1, u2⟩ | ⟨u2, u3⟩)
          · exact ⟨u, by omega, u2⟩
          · exact ⟨j, by omega, u2, u3⟩
      have skip : ¬ (nI j &&& a5 = a5 ∧ nI j &&& a6 = 0 ∧ zA pp gf many (nI j)) → ∃ m' c' q', 100 ≤ m' ∧ m_k_L_isWalked_106 (F m) (nI j) (nI c) q = F m' (nI c') (nI N) q' ∧ c' ≤ 64 ∧ oL (ah pp gf many) (lS pp gf many a5 a6 N) q' c' := fun hn => by
        rw [m_k_L_isWalked_106, kI_s]
        exact ih m (j + 1) c q (by omega) (by omega) (by omega) (by omega) (oL_cong ho fun x => ⟨fun e => (up x).mpr (Or.inl e), fun e => ((up x).mp e).elim id fun e => absurd e.2 hn⟩)
      rw [hF m c j q hjN]
      by_cases d1 : nI j &&& a5 = a5
      · rw [if_pos d1]
        by_cases d2 : nI j &&& a6 = 0
        · rw [if_pos d2]
          have ha := lw_answer hz (kI_sm j (by omega))
          by_cases d3 : m_k_L_isAnswer pp gf (nI many) 0 0 (nI j) = 0
          · rw [if_pos d3]
            exact skip fun e => ha.z.mp d3 e.2.2
          · rw [if_neg d3]
            obtain ⟨q', e1, e2⟩ := lw_put hz (show c ≤ 64 by omega) ho (fun y ⟨u, u1, u2, _⟩ => by rw [u2]; exact kI_sm u (by omega)) (kI_sm j (by omega)) (fun ⟨u, u1, u2, _⟩ => by rw [kI_eq (by omega) (by omega)] at u2; omega) (F m)
            rw [e1, m_k_L_isWalked_106, kI_s]
            exact ih m (j + 1) (c + 1) q' (by omega) (by omega) (by omega) (by omega) (oL_cong e2 fun x => ⟨fun e => (up x).mpr (e.elim Or.inl fun e => Or.inr ⟨e, d1, d2, ha.nz.mp d3⟩), fun e => ((up x).mp e).elim Or.inl fun e => Or.inr e.1⟩)
        · rw [if_neg d2]
          exact skip fun e => d2 e.2.1
      · rw [if_neg d1]
        exact skip fun e => d1 e.1
  exact key (N - 0) wF 0 0 q0 rfl (by rw [hm0]; omega) (Nat.zero_le _) (Nat.le_refl _) ⟨fun i hi => absurd hi (Nat.not_lt_zero i), fun i j _ hj => absurd hj (Nat.not_lt_zero j), fun x ⟨u, u1, _⟩ => absurd u1 (Nat.not_lt_zero u)⟩
end LO
