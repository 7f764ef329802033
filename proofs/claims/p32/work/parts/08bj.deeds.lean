/-! the pure argument, 36: what the deeds of the law's start answer -/
section DE
variable {pp : pT} {n many : Nat} {rf gf : Nat → Option Nat}
theorem e_part : m_k_X10_checkPart 0 = 0 := by
  unfold m_k_X10_checkPart
  rw [if_neg (by decide), if_pos (by decide)]
theorem e_forget : m_k_X10_forgetGrounding = (0, 0, 0) := rfl
theorem e_rr {r : Nat} (hr : r < 20) : m_k_X10_checkRoomForRule (nI r) = 0 := by
  unfold m_k_X10_checkRoomForRule
  rw [if_pos (by rw [show (20 : Int32) = nI 20 from rfl, kI_lt (by omega) (by omega)]; omega)]
theorem e_tell {r : Nat} (hr : r < 20) : m_k_X6_tellRule (nI r) = (1, nI r, nI (r + 1)) := by
  unfold m_k_X6_tellRule
  rw [if_neg (by rw [show (0 : Int32) = nI 0 from rfl, kI_lt (by omega) (by omega)]; omega), if_pos (by rw [show (20 : Int32) = nI 20 from rfl, kI_lt (by omega) (by omega)]; omega), kI_s]
theorem e_deed1 {r : Nat} (hr : r < 20) (cu ic kp : Int32) : m_k_L_deed_1 (nI r) cu ic kp 0 = (2, nI r, 100, 0, 0, 0, 0, (-1), 0, 0, 0, nI (r + 1), 0, 0, 0) := by
  unfold m_k_L_deed_1 m_k_L_plain_1 m_k_X10_addDisjunction
  rw [lE_of e_part, if_pos rfl, lE_of (e_rr hr), if_pos rfl, lE_of e_forget, lE_of (e_tell hr)]
  dsimp only
  rw [if_neg (by decide)]
  rfl
theorem e_deed2 {r : Nat} (hr : r < 20) (pn : Int32) (pl : Nat → Int32) (cu ic kp : Int32) {lo up : Int32} (h1 : ¬ lo < 0) (h2 : ¬ up < lo) (h3 : up ≤ 9) : m_k_L_deed_2 pn (nI r) pl cu ic kp 0 lo up (-1) = (2, nI r, 99, 0, 0, lo, up, (-1), 0, 0, 0, nI (r + 1), 0, 0, 0) := by
  unfold m_k_L_deed_2 m_k_L_plain_2 m_k_X10_addChoice
  rw [lE_of e_part, if_pos rfl, if_neg h1, if_neg h2, if_pos h3, if_pos rfl]
  unfold m_k_X10_addChoice_59
  rw [lE_of (e_rr hr), if_pos rfl, lE_of e_forget, lE_of (e_tell hr)]
  dsimp only
  rw [if_neg (by decide)]
  rfl
theorem e_deed3 {r : Nat} (hr : r < 20) (cu ic kp : Int32) {we lv : Int32} (h1 : ¬ we < (-99)) (h2 : we ≤ 99) (h3 : m_k_X10_checkLevel lv = 0) : m_k_L_deed_3 (nI r) cu ic kp 0 we lv = (2, nI r, 119, 0, 0, 0, 0, (-1), we, lv, 0, nI (r + 1), 0, 0, 0) := by
  unfold m_k_L_deed_3 m_k_L_plain_3 m_k_X10_addWeak
  rw [lE_of e_part, if_pos rfl, if_neg h1, if_pos h2, lE_of h3, if_pos rfl, lE_of (e_rr hr), if_pos rfl, lE_of e_forget, lE_of (e_tell hr)]
  dsimp only
  rw [if_neg (by decide)]
  rfl
theorem e_ruleAt {r : Nat} (hr : r < 20) (rf : Nat → Option Nat) (y0 : Nat) : m_k_X6_ruleAt_l (nI (r + 1)) (va_up rf (nI r).toNatClampNeg (some y0)) (nI r) = some y0 := by
  unfold m_k_X6_ruleAt_l
  rw [if_neg (by rw [show (0 : Int32) = nI 0 from rfl, kI_lt (by omega) (by omega)]; omega), if_neg (by rw [kI_le (by omega) (by omega)]; omega), if_neg (by rw [show (20 : Int32) = nI 20 from rfl, kI_le (by omega) (by omega)]; omega)]
  rw [show va_up rf (nI r).toNatClampNeg (some y0) (nI r).toNatClampNeg = some y0 from if_pos rfl, oE_some]
theorem a_places {p : Nat} (hn : n ≤ 6) (hp : p < n) {pl : Nat → Int32} (hpl : pl p = 0) : m_k_X6_placesOf (nI n) pl (nI p) = 0 := by
  unfold m_k_X6_placesOf
  rw [lE_of (a_has hn hp), if_neg (by decide), kI_nat (by omega), hpl]
theorem e_slot : m_k_X4_slotOf 0 = 0 := by
  unfold m_k_X4_slotOf
  exact if_neg (by decide)
theorem e_shift : m_k_X4_shiftOf 0 = 0 := by
  unfold m_k_X4_shiftOf
  exact if_neg (by decide)
theorem e_init (K P B : Int32) : m_k_X4_init K P B 0 0 = (K, P, B, 0, 0, 0, 0, 0) := by
  unfold m_k_X4_init
  rw [lE_of e_slot, lE_of e_shift, lE_of e_slot, lE_of e_shift, if_neg (by decide)]
  unfold m_k_X4_init_72
  rw [if_neg (by decide)]
  unfold m_k_X4_init_88
  rw [if_neg (by decide)]
theorem e_lit (K P x y : Int32) : m_k_X10_atomLiteral K P 0 x y = (K, P, 0, 0, 0, 0, 0, 0) := by
  unfold m_k_X10_atomLiteral
  rw [if_pos (by decide), if_pos (by decide), lE_of (e_init K P 0)]
theorem e_th {k : Nat} (hk : k < 2) : m_k_X8_tellHead (nI k) = (1, nI (k + 1), nI (k + 1)) := by
  unfold m_k_X8_tellHead
  rw [if_neg (by rw [show (0 : Int32) = nI 0 from rfl, kI_lt (by omega) (by omega)]; omega), if_neg (by rw [show (2 : Int32) = nI 2 from rfl, kI_le (by omega) (by omega)]; omega), kI_s]
theorem e_tc {k : Nat} (hk : k < 5) : m_k_X8_tellCondition (nI k) = (1, nI (k + 1), nI (k + 1)) := by
  unfold m_k_X8_tellCondition
  rw [if_neg (by rw [show (0 : Int32) = nI 0 from rfl, kI_lt (by omega) (by omega)]; omega), if_neg (by rw [show (5 : Int32) = nI 5 from rfl, kI_le (by omega) (by omega)]; omega), kI_s]
theorem e_rc {k : Nat} (hk : k < 5) : m_k_X10_checkRoomForCondition (nI k) = 0 := by
  unfold m_k_X10_checkRoomForCondition
  rw [if_pos (by rw [show (5 : Int32) = nI 5 from rfl, kI_lt (by omega) (by omega)]; omega)]
theorem e_atom2 {p k : Nat} (hn : n ≤ 6) (hp : p < n) {pl : Nat → Int32} (hpl : pl p = 0) (hk : k < 2) {rn : Int32} {a1 : Int32} {y0 : Nat} (hru : m_k_X6_ruleAt_l rn rf a1 = some y0) {y_k : Int32} (hyk : ¬ y_k = 119) (cu ic kp x y : Int32) : m_k_L_atom_2 (nI n) rn pl rf cu ic kp y_k (nI k) a1 (nI p) x y = (2, nI (k + 1), 104, nI p, 0, 0, 0, 0, 0, 0, 0, 0, 0, nI (k + 1)) := by
  unfold m_k_L_atom_2 m_k_L_deed_4 m_k_L_plain_4 m_k_X10_addHead
  rw [lE_of hru, oE_some, lE_of (a_has hn hp), if_neg (by decide), lE_of (a_places hn hp hpl), if_pos (by decide)]
  unfold m_k_X10_addHead_58
  rw [if_pos (by decide)]
  unfold m_k_X10_addHead_82
  rw [if_neg hyk, if_pos (by rw [show (2 : Int32) = nI 2 from rfl, kI_lt (by omega) (by omega)]; omega), lE_of e_forget, lE_of (e_lit 104 (nI p) x y), lE_of (e_th hk)]
  dsimp only
  rw [if_neg (by decide)]
  rfl
theorem e_atom1 {p k : Nat} (hn : n ≤ 6) (hp : p < n) {pl : Nat → Int32} (hpl : pl p = 0) (hk : k < 5) {rn : Int32} {a1 : Int32} {y0 : Nat} (hru : m_k_X6_ruleAt_l rn rf a1 = some y0) (cu ic kp sp x y : Int32) : m_k_L_atom_1 (nI n) rn pl rf cu ic kp sp (nI k) a1 (nI p) x y = (2, nI (k + 1), 116, nI p, 0, 0, 0, 0, 0, 0, 0, 0, 0, nI (k + 1)) := by
  unfold m_k_L_atom_1 m_k_L_deed_5 m_k_L_plain_5
  rw [if_pos rfl]
  unfold m_k_L_plain_5_123 m_k_X10_addAtom
  rw [lE_of hru, oE_some, lE_of (a_has hn hp), if_neg (by decide), lE_of (a_places hn hp hpl), if_pos (by decide)]
  unfold m_k_X10_addAtom_61
  rw [if_pos (by decide)]
  unfold m_k_X10_addAtom_87
  rw [lE_of (e_rc hk), if_pos rfl, lE_of e_forget, if_neg (by decide)]
  unfold m_k_X10_addAtom_110
  rw [lE_of (e_lit 116 (nI p) x y), lE_of (e_tc hk)]
  dsimp only
  rw [if_neg (by decide)]
  rfl
theorem e_atom0 {p k : Nat} (hn : n ≤ 6) (hp : p < n) {pl : Nat → Int32} (hpl : pl p = 0) (hk : k < 5) {rn : Int32} {a1 : Int32} {y0 : Nat} (hru : m_k_X6_ruleAt_l rn rf a1 = some y0) (cu ic kp sp x y : Int32) : m_k_L_atom_0 (nI n) rn pl rf cu ic kp sp (nI k) a1 (nI p) x y = (2, nI (k + 1), 102, nI p, 0, 0, 0, 0, 0, 0, 0, 0, 0, nI (k + 1)) := by
  unfold m_k_L_atom_0 m_k_L_deed_5 m_k_L_plain_5
  rw [if_neg (by decide)]
  unfold m_k_L_plain_5_123 m_k_X10_addAtom
  rw [lE_of hru, oE_some, lE_of (a_has hn hp), if_neg (by decide), lE_of (a_places hn hp hpl), if_pos (by decide)]
  unfold m_k_X10_addAtom_61
  rw [if_pos (by decide)]
  unfold m_k_X10_addAtom_87
  rw [lE_of (e_rc hk), if_pos rfl, lE_of e_forget, if_pos rfl]
  unfold m_k_X10_addAtom_110
  rw [lE_of (e_lit 102 (nI p) x y), lE_of (e_tc hk)]
  dsimp only
  rw [if_neg (by decide)]
  rfl
theorem e_count58 {k : Nat} (hk : k < 5) (cu ic kp K P : Int32) {B : Int32} (h1 : ¬ B < 0) (h2 : B ≤ 20) : m_k_X10_addCount_58 cu ic kp (nI k) K P B = (0, 1, nI (k + 1), K, P, B, 0, 0, 0, 0, 0, 0, 0, 0, nI (k + 1)) := by
  unfold m_k_X10_addCount_58
  rw [if_neg h1, if_pos h2, lE_of (e_rc hk), if_pos rfl, lE_of e_forget, lE_of (e_init K P B), lE_of (e_tc hk)]
  dsimp only
  rw [if_neg (by decide)]
theorem e_nar103 : ((103 : Int32).toUInt32 % 65536).toInt32 = 103 := by decide
theorem e_nar108 : ((108 : Int32).toUInt32 % 65536).toInt32 = 108 := by decide
theorem e_deed7g {p k : Nat} (hn : n ≤ 6) (hp : p < n) (hk : k < 5) {rn : Int32} {a1 : Int32} {y0 : Nat} (hru : m_k_X6_ruleAt_l rn rf a1 = some y0) (cu ic kp : Int32) : m_k_L_deed_7 (nI n) rn rf cu ic kp (nI k) a1 103 (nI p) 1 = (2, nI (k + 1), 103, nI p, 1, 0, 0, 0, 0, 0, 0, 0, 0, nI (k + 1)) := by
  unfold m_k_L_deed_7 m_k_L_plain_7 m_k_X10_addCount
  rw [e_nar103, lE_of hru, oE_some, lE_of (a_has hn hp), if_neg (by decide), if_pos rfl, lE_of (e_count58 hk cu ic kp 103 (nI p) (B := 1) (by decide) (by decide))]
  rfl
theorem e_deed7l {p k : Nat} (hn : n ≤ 6) (hp : p < n) (hk : k < 5) {rn : Int32} {a1 : Int32} {y0 : Nat} (hru : m_k_X6_ruleAt_l rn rf a1 = some y0) (cu ic kp : Int32) : m_k_L_deed_7 (nI n) rn rf cu ic kp (nI k) a1 108 (nI p) 0 = (2, nI (k + 1), 108, nI p, 0, 0, 0, 0, 0, 0, 0, 0, 0, nI (k + 1)) := by
  unfold m_k_L_deed_7 m_k_L_plain_7 m_k_X10_addCount
  rw [e_nar108, lE_of hru, oE_some, lE_of (a_has hn hp), if_neg (by decide), if_neg (by decide), if_pos rfl, lE_of (e_count58 hk cu ic kp 108 (nI p) (B := 0) (by decide) (by decide))]
  rfl
theorem e_deed0 {p : Nat} (hp : p < 6) (pl : Nat → Int32) (cu ic kp : Int32) : m_k_L_deed_0 (nI p) pl cu ic kp 0 = (nI p, nI (p + 1), upd pl p 0, 0, 0, 0) := by
  have ht : m_k_X6_tellPredicate (nI p) pl 0 = (nI p, nI (p + 1), upd pl p 0) := by
    unfold m_k_X6_tellPredicate
    rw [if_neg (by rw [show (0 : Int32) = nI 0 from rfl, kI_lt (by omega) (by omega)]; omega), if_pos (by rw [show (6 : Int32) = nI 6 from rfl, kI_lt (by omega) (by omega)]; omega), kI_s, kI_nat (by omega)]
  unfold m_k_L_deed_0 m_k_L_plain_0 m_k_X10_addPredicate
  rw [if_neg (by decide), if_pos (by decide), if_pos (by rw [show (6 : Int32) = nI 6 from rfl, kI_lt (by omega) (by omega)]; omega), lE_of e_forget, lE_of ht]
  rfl
/-- the externals' atoms -/
def exA (e : Nat) (x : Nat → Nat) (ea : Nat → Int32) : Prop := e ≤ 6 ∧ ∀ j, j < e → x j < 6 ∧ ea j = nI (64 * x j)
theorem e_exat {e : Nat} {x : Nat → Nat} {ea : Nat → Int32} (h : exA e x ea) {j : Nat} (hj : j < e) : m_k_X6_externalAtom (nI e) ea (nI j) = nI (64 * x j) := by
  have h6 := h.1
  unfold m_k_X6_externalAtom
  rw [if_neg (by rw [show (0 : Int32) = nI 0 from rfl, kI_lt (by omega) (by omega)]; omega), if_neg (by rw [kI_le (by omega) (by omega)]; omega), if_neg (by rw [show (6 : Int32) = nI 6 from rfl, kI_le (by omega) (by omega)]; omega), kI_nat (by omega)]
  exact (h.2 j hj).2
theorem e_extof {e : Nat} {x : Nat → Nat} {ea : Nat → Int32} (h : exA e x ea) {p : Nat} (hp : p < 6) : (¬ ∃ j, j < e ∧ x j = p) ∧ m_k_X6_externalOf (nI e) ea (nI (64 * p)) = (-1) ∨ (∃ j, j < e ∧ x j = p) ∧ ¬ m_k_X6_externalOf (nI e) ea (nI (64 * p)) = (-1) := by
  obtain ⟨m0, hm0⟩ := wF_ge
  have h6 := h.1
  have key : ∀ d m i, e - i = d → d < m → i ≤ e → (¬ ∃ j, j < i ∧ x j = p) → (¬ ∃ j, j < e ∧ x j = p) ∧ m_k_X6_externalOf_2 (nI e) ea (nI (64 * p)) m (nI i) = (-1) ∨ (∃ j, j < e ∧ x j = p) ∧ ¬ m_k_X6_externalOf_2 (nI e) ea (nI (64 * p)) m (nI i) = (-1) := by
    intro d
    induction d with
    | zero =>
      intro m i hd hm hi hno
      obtain ⟨m, rfl⟩ : ∃ q, m = q + 1 := ⟨m - 1, by omega⟩
      have : i = e := by omega
      subst this
      rw [m_k_X6_externalOf_2_succ, m_k_X6_externalOf_2s, if_pos (Int32.le_refl _)]
      exact Or.inl ⟨hno, rfl⟩
    | succ d ih =>
      intro m i hd hm hi hno
      obtain ⟨m, rfl⟩ : ∃ q, m = q + 1 := ⟨m - 1, by omega⟩
      have hie : i < e := by omega
      have n1 : ¬ nI e ≤ nI i := by rw [kI_le (by omega) (by omega)]; omega
      rw [m_k_X6_externalOf_2_succ, m_k_X6_externalOf_2s, if_neg n1, lE_of (e_exat h hie)]
      by_cases c : nI (64 * x i) = nI (64 * p)
      · rw [if_pos c]
        refine Or.inr ⟨⟨i, hie, at_inj (h.2 i hie).1 hp c⟩, fun g => ?_⟩
        have h1 : (nI i).toInt = ((-1 : Int32)).toInt := by rw [g]
        rw [kI_ti (by omega)] at h1
        have : ((-1 : Int32)).toInt = -1 := rfl
        omega
      · rw [if_neg c, kI_s i]
        refine ih m (i + 1) (by omega) (by omega) (by omega) fun ⟨j, j1, j2⟩ => ?_
        rcases Nat.lt_succ_iff_lt_or_eq.mp j1 with g | rfl
        · exact hno ⟨j, g, j2⟩
        · exact c (by rw [j2])
  unfold m_k_X6_externalOf
  exact key (e - 0) wF 0 rfl (by rw [hm0]; omega) (Nat.zero_le _) (fun ⟨j, hj, _⟩ => absurd hj (Nat.not_lt_zero j))
theorem e_deed9_new {e : Nat} {x : Nat → Nat} {ea : Nat → Int32} (h : exA e x ea) (he : e < 6) (hn : n ≤ 6) {p : Nat} (hp : p < n) {pl : Nat → Int32} (hpl : pl p = 0) (hno : ¬ ∃ j, j < e ∧ x j = p) (es : Nat → Int32) (cu ic kp a2 a3 : Int32) : m_k_L_deed_9 (nI n) (nI e) pl ea es cu ic kp (nI p) a2 a3 = (nI e, nI (e + 1), 0, 0, upd ea e (nI (64 * p)), upd es e (vp_nar .char 102), 0) := by
  have ht : m_k_X6_tellExternal (nI e) ea es (nI (64 * p)) = (nI e, nI (e + 1), upd ea e (nI (64 * p)), upd es e (vp_nar .char 102)) := by
    unfold m_k_X6_tellExternal
    rw [if_neg (by rw [show (0 : Int32) = nI 0 from rfl, kI_lt (by omega) (by omega)]; omega), if_pos (by rw [show (6 : Int32) = nI 6 from rfl, kI_lt (by omega) (by omega)]; omega), kI_s, kI_nat (by omega)]
  have hx := ((e_extof h (show p < 6 by omega)).resolve_right fun g => hno g.1).2
  unfold m_k_L_deed_9 m_k_L_plain_9 m_k_X10_addExternal
  rw [lE_of (a_atom hn hp hpl a2 a3)]
  dsimp only
  rw [if_pos rfl, if_neg (by rw [show (6 : Int32) = nI 6 from rfl, kI_le (by omega) (by omega)]; omega), lE_of hx, if_pos rfl, lE_of e_forget, lE_of ht]
  rfl
theorem e_deed9_old {e : Nat} {x : Nat → Nat} {ea : Nat → Int32} (h : exA e x ea) (he : e < 6) (hn : n ≤ 6) {p : Nat} (hp : p < n) {pl : Nat → Int32} (hpl : pl p = 0) (hyes : ∃ j, j < e ∧ x j = p) (es : Nat → Int32) (cu ic kp a2 a3 : Int32) : m_k_L_deed_9 (nI n) (nI e) pl ea es cu ic kp (nI p) a2 a3 = ((-2003), nI e, ic, kp, ea, es, cu) := by
  have hx := ((e_extof h (show p < 6 by omega)).resolve_left fun g => g.1 hyes).2
  unfold m_k_L_deed_9 m_k_L_plain_9 m_k_X10_addExternal
  rw [lE_of (a_atom hn hp hpl a2 a3)]
  dsimp only
  rw [if_pos rfl, if_neg (by rw [show (6 : Int32) = nI 6 from rfl, kI_le (by omega) (by omega)]; omega), lE_of (rfl : m_k_X6_externalOf (nI e) ea (nI (64 * p)) = m_k_X6_externalOf (nI e) ea (nI (64 * p))), if_neg hx]
  rfl
theorem at_and : ∀ q, q < 384 → q % 64 = 0 → ∀ b : Bool, (b64 b &&& (((1 : Int64) <<< ((nI q - nI q / 64 * 64).toInt64 &&& 63)) ^^^ (-1))) = 0 := by decide +kernel
theorem s_remove {w : Nat → Int64} {S : Nat → Bool} (hw : ws6 w S) {p : Nat} (hp : p < 6) : ws6 (m_k_X1_remove w (nI (64 * p))) (fun q => S q && !decide (q = p)) := by
  have hr := at_rng (show 64 * p < 384 by omega)
  have hd := at_div (64 * p) (by omega)
  have ha := at_and (64 * p) (by omega) (by omega) (S p)
  unfold m_k_X1_remove
  rw [if_neg hr.1, if_neg hr.2, hd, show 64 * p / 64 = p by omega, hw p hp, ha]
  intro q hq
  by_cases e : q = p
  · subst e
    rw [ul_same]
    simp [b64]
  · rw [ul_else _ _ e, hw q hq]
    simp [e]
theorem e_assume1 {ai ao : Nat → Int64} {a5 a6 : Int32} (hi : ws6 ai (bt a5)) (ho : ws6 ao (bt a6)) (hn : n ≤ 6) {p : Nat} (hp : p < n) {pl : Nat → Int32} (hpl : pl p = 0) (kp a2 a3 : Int32) : ∃ ai' ao', m_k_L_deed_11 (nI n) pl ai ao kp (nI p) a2 a3 1 = (nI (cn (bt (a5 ||| (1 : Int32) <<< (nI p &&& 31))) + cn (bt (a6 &&& ((1 : Int32) <<< (nI p &&& 31) ^^^ (-1))))), ai', ao', 0) ∧ ws6 ai' (bt (a5 ||| (1 : Int32) <<< (nI p &&& 31))) ∧ ws6 ao' (bt (a6 &&& ((1 : Int32) <<< (nI p &&& 31) ^^^ (-1)))) := by
  have h1 := s_remove ho (show p < 6 by omega)
  obtain ⟨h2, h3⟩ := s_add hi (show p < 6 by omega)
  have f1 : ∀ q, q < 6 → (bt a6 q && !decide (q = p)) = bt (a6 &&& ((1 : Int32) <<< (nI p &&& 31) ^^^ (-1))) q := fun q hq => by
    rw [b_and, b_not _ (by omega), b_one' (by omega)]
  have f2 : ∀ q, (bt a5 q || decide (q = p)) = bt (a5 ||| (1 : Int32) <<< (nI p &&& 31)) q := fun q => by
    rw [b_or, b_one' (by omega)]
  have g1 : ws6 (m_k_X1_remove ao (nI (64 * p))) (bt (a6 &&& ((1 : Int32) <<< (nI p &&& 31) ^^^ (-1)))) := fun q hq => (h1 q hq).trans (congrArg b64 (f1 q hq))
  have g2 : ws6 (vp_updL ai p 1) (bt (a5 ||| (1 : Int32) <<< (nI p &&& 31))) := fun q hq => (h3 q hq).trans (congrArg b64 (f2 q))
  refine ⟨vp_updL ai p 1, m_k_X1_remove ao (nI (64 * p)), ?_, g2, g1⟩
  unfold m_k_L_deed_11 m_k_L_plain_11
  rw [if_pos rfl]
  unfold m_k_L_plain_11_197 m_k_X10_assume
  rw [lE_of (a_atom hn hp hpl a2 a3)]
  dsimp only
  rw [if_pos rfl, if_neg (by decide), lE_of (rfl : m_k_X1_remove ao (nI (64 * p)) = m_k_X1_remove ao (nI (64 * p))), lE_of h2]
  unfold m_k_X10_assume_63
  dsimp only
  rw [lE_of (a_count g2), lE_of (a_count g1), nI_add]
  rfl
theorem e_assume0 {ai ao : Nat → Int64} {a5 a6 : Int32} (hi : ws6 ai (bt a5)) (ho : ws6 ao (bt a6)) (hn : n ≤ 6) {p : Nat} (hp : p < n) {pl : Nat → Int32} (hpl : pl p = 0) (kp a2 a3 : Int32) : ∃ ai' ao', m_k_L_deed_11 (nI n) pl ai ao kp (nI p) a2 a3 0 = (nI (cn (bt (a5 &&& ((1 : Int32) <<< (nI p &&& 31) ^^^ (-1)))) + cn (bt (a6 ||| (1 : Int32) <<< (nI p &&& 31)))), ai', ao', 0) ∧ ws6 ai' (bt (a5 &&& ((1 : Int32) <<< (nI p &&& 31) ^^^ (-1)))) ∧ ws6 ao' (bt (a6 ||| (1 : Int32) <<< (nI p &&& 31))) := by
  have h1 := s_remove hi (show p < 6 by omega)
  obtain ⟨h2, h3⟩ := s_add ho (show p < 6 by omega)
  have f1 : ∀ q, q < 6 → (bt a5 q && !decide (q = p)) = bt (a5 &&& ((1 : Int32) <<< (nI p &&& 31) ^^^ (-1))) q := fun q hq => by
    rw [b_and, b_not _ (by omega), b_one' (by omega)]
  have f2 : ∀ q, (bt a6 q || decide (q = p)) = bt (a6 ||| (1 : Int32) <<< (nI p &&& 31)) q := fun q => by
    rw [b_or, b_one' (by omega)]
  have g1 : ws6 (m_k_X1_remove ai (nI (64 * p))) (bt (a5 &&& ((1 : Int32) <<< (nI p &&& 31) ^^^ (-1)))) := fun q hq => (h1 q hq).trans (congrArg b64 (f1 q hq))
  have g2 : ws6 (vp_updL ao p 1) (bt (a6 ||| (1 : Int32) <<< (nI p &&& 31))) := fun q hq => (h3 q hq).trans (congrArg b64 (f2 q))
  refine ⟨m_k_X1_remove ai (nI (64 * p)), vp_updL ao p 1, ?_, g1, g2⟩
  unfold m_k_L_deed_11 m_k_L_plain_11
  rw [if_neg (by decide)]
  unfold m_k_L_plain_11_197 m_k_X10_assume
  rw [lE_of (a_atom hn hp hpl a2 a3)]
  dsimp only
  rw [if_pos rfl, if_pos rfl, lE_of (rfl : m_k_X1_remove ai (nI (64 * p)) = m_k_X1_remove ai (nI (64 * p))), lE_of h2]
  unfold m_k_X10_assume_63
  dsimp only
  rw [lE_of (a_count g1), lE_of (a_count g2), nI_add]
  rfl
theorem e_drop {ai ao : Nat → Int64} {a5 a6 : Int32} (hi : ws6 ai (bt a5)) (ho : ws6 ao (bt a6)) : ∃ ai' ao', m_k_L_deed_12 ai ao = (nI (cn (bt a5) + cn (bt a6)), ai', ao', 0) ∧ ws6 ai' (bt 0) ∧ ws6 ao' (bt 0) := by
  have z : (fun _ => false) = bt 0 := funext fun q => (b_0 q).symm
  refine ⟨m_k_X1_clear ai, m_k_X1_clear ao, ?_, by rw [← z]; exact g_clear ai, by rw [← z]; exact g_clear ao⟩
  unfold m_k_L_deed_12 m_k_L_plain_12 m_k_X10_dropAssumptions
  rw [lE_of (a_count hi), lE_of (a_count ho), nI_add]
  rfl
/-- two sets apart count as both together -/
theorem cn_or {x y : Int32} (h : ∀ p, bt x p = true → bt y p = false) : cn (bt (x ||| y)) = cn (bt x) + cn (bt y) := by
  have one : ∀ p, (bt (x ||| y) p).toNat = (bt x p).toNat + (bt y p).toNat := fun p => by
    rw [b_or]
    cases hx : bt x p with
    | true => rw [h p hx]; rfl
    | false => cases bt y p <;> rfl
  simp only [cn, one]
  omega
theorem sm_one {p : Nat} (hp : p < 6) : sm ((1 : Int32) <<< (nI p &&& 31)) := fun i hi => by
  rw [b_one' (by omega)]
  exact decide_eq_false (by omega)
theorem mul3 {k : Nat} (hk : k ≤ 3) : (3 : Int32) * nI k = nI (3 * k) := by
  have h : ∀ k, k < 4 → (3 : Int32) * nI k = nI (3 * k) := by decide
  exact h k (by omega)
theorem kI_nn {k : Nat} (h : k < 2147483648) : 0 ≤ (nI k).toInt := by
  rw [kI_ti h]
  omega
theorem kI_n0 {k : Nat} (h : k < 2147483648) : ¬ nI k < 0 := by
  rw [show (0 : Int32) = nI 0 from rfl, kI_lt h (by omega)]
  omega
theorem w9 : ∀ w, w < 9 → ¬ nI w - 4 < (-99) ∧ nI w - 4 ≤ 99 ∧ -4 ≤ (nI w - 4).toInt ∧ (nI w - 4).toInt ≤ 4 := by decide
theorem w3 (w : Nat) (h : w < 3) : m_k_X10_checkLevel (nI (1 + w)) = 0 := by
  rcases (show w = 0 ∨ w = 1 ∨ w = 2 by omega) with rfl | rfl | rfl
  · exact a_lv.1
  · exact a_lv.2.1
  · exact a_lv.2.2.1
theorem w2b : ∀ w, w < 2 → -4 ≤ (nI w).toInt ∧ (nI w).toInt ≤ 4 := by decide
theorem w3b : ∀ w, w < 4 → 0 ≤ (nI w).toInt ∧ (nI w).toInt ≤ 3 := by decide
theorem sm_or {x y : Int32} (hx : sm x) (hy : sm y) : sm (x ||| y) := fun i hi => by rw [b_or, hx i hi, hy i hi]; rfl
/-- picks from 300 on don't read the script -/
theorem pick_big {L : Nat} (hL : L ≤ 260) (xs : Nat → Int32) {i : Nat} (hi : 300 ≤ i) (hi2 : i < 1000) (m : Int32) : m_k_L_pick L xs (nI i) m = m_k_L_pick 0 (fun _ => 0) (nI i) m := by
  unfold m_k_L_pick m_k_L_cell
  have h1 : (Int32.ofNat L) ≤ nI i := (kI_le (a := L) (b := i) (by omega) (by omega)).mpr (by omega)
  have h2 : (Int32.ofNat 0) ≤ nI i := (kI_le (a := 0) (b := i) (by omega) (by omega)).mpr (by omega)
  rw [if_pos h1, if_pos h2]
/-- a pick of m is from 0 to m less one -/
theorem pick_lt (L : Nat) (xs : Nat → Int32) (i : Int32) {m : Nat} (h0 : 0 < m) (hm : m < 1000) : ∃ k, k < m ∧ m_k_L_pick L xs i (nI m) = nI k := by
  unfold m_k_L_pick
  rw [lE]
  generalize m_k_L_cell L xs i = t
  have h1 : (((t.toUInt32 >>> ((8 : Int32).toUInt32 &&& Int32.toUInt32 31)).toInt32)).toInt = ((t.toUInt32.toNat >>> 8 : Nat) : Int) := by
    show (t.toUInt32 >>> 8).toBitVec.toInt = _
    rw [BitVec.toInt_eq_toNat_of_lt]
    · rfl
    · show 2 * (t.toUInt32.toBitVec.toNat >>> 8) < 2 ^ 32
      have := t.toUInt32.toBitVec.isLt
      rw [Nat.shiftRight_eq_div_pow]
      omega
  generalize hv : ((t.toUInt32 >>> ((8 : Int32).toUInt32 &&& Int32.toUInt32 31)).toInt32) = v at h1 ⊢
  generalize hw : t.toUInt32.toNat >>> 8 = w at h1
  have hw2 : w < 2147483648 := by
    have := wi_rng v
    omega
  have hvw : v = nI w := Int32.toInt_inj.mp (by rw [h1, kI_ti hw2])
  refine ⟨w % m, Nat.mod_lt _ h0, ?_⟩
  rw [hvw]
  refine Int32.toInt_inj.mp ?_
  have hdiv : (nI w / nI m).toInt = (w : Int) / (m : Int) := by
    rw [Int32.toInt_div_of_ne_right _ _ (by intro e; have : (nI m).toInt = ((-1 : Int32)).toInt := by rw [e]
                                            rw [kI_ti (by omega)] at this
                                            have h2 : ((-1 : Int32)).toInt = -1 := rfl
                                            omega), kI_ti hw2, kI_ti (by omega), Int.tdiv_eq_ediv_of_nonneg (by omega)]
  have hle : (w : Int) / (m : Int) * (m : Int) ≤ (w : Int) := Int.ediv_mul_le _ (by omega)
  have hnn : 0 ≤ (w : Int) / (m : Int) * (m : Int) := Int.mul_nonneg (Int.ediv_nonneg (by omega) (by omega)) (by omega)
  have hmul : (nI w / nI m * nI m).toInt = (w : Int) / (m : Int) * (m : Int) := by
    rw [Int32.toInt_mul, hdiv, kI_ti (by omega)]
    exact Int.bmod_eq_of_le (by omega) (by show _ < (2147483648 : Int); omega)
  rw [wi_sub (by rw [kI_ti hw2, hmul]; omega) (by rw [kI_ti hw2, hmul]; omega), kI_ti hw2, hmul, kI_ti (Nat.lt_trans (Nat.mod_lt _ h0) (by omega))]
  have := Int.emod_def (w : Int) (m : Int)
  rw [Int.mul_comm] at this
  rw [← this]
  rfl
end DE
