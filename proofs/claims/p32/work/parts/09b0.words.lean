/-! words of the tables by their places -/
def lw_ck (k : Nat) : List Cond := match k with
  | 0 => k2_sels lw_privs
  | 1 => tables_1_1
  | 2 => tables_1_2
  | 3 => tables_1_3
  | 4 => tables_1_4
  | 5 => tables_1_5
  | 6 => tables_1_6
  | _ => []
theorem lw_ck_ok (k : Nat) : ∀ w ∈ lw_ck k, w ∈ lw_tbl := by
  intro w h
  match k, h with
  | 0, h => exact List.mem_append_left _ h
  | 1, h => exact List.mem_append_right _ (List.mem_append_left _ h)
  | 2, h => exact List.mem_append_right _ (List.mem_append_right _ (List.mem_append_left _ h))
  | 3, h => exact List.mem_append_right _ (List.mem_append_right _ (List.mem_append_right _ (List.mem_append_left _ h)))
  | 4, h => exact List.mem_append_right _ (List.mem_append_right _ (List.mem_append_right _ (List.mem_append_right _ (List.mem_append_left _ h))))
  | 5, h => exact List.mem_append_right _ (List.mem_append_right _ (List.mem_append_right _ (List.mem_append_right _ (List.mem_append_right _ (List.mem_append_left _ h)))))
  | 6, h => exact List.mem_append_right _ (List.mem_append_right _ (List.mem_append_right _ (List.mem_append_right _ (List.mem_append_right _ (List.mem_append_right _ (h))))))
  | k + 7, h => cases h
theorem lw_mem (ws : List Cond) (ps : List (Nat × Nat)) (h : ws.map some = ps.map (fun p => (lw_ck p.1)[p.2]?)) : ∀ w ∈ ws, w ∈ lw_tbl := by
  intro w hw
  have h1 : some w ∈ ws.map some := List.mem_map_of_mem hw
  rw [h] at h1
  obtain ⟨p, -, hp⟩ := List.mem_map.mp h1
  exact lw_ck_ok p.1 w (List.mem_of_getElem? hp)
theorem lw_one (w : Cond) (k i : Nat) (h : (lw_ck k)[i]? = some w) : w ∈ lw_tbl := lw_ck_ok k w (List.mem_of_getElem? h)

set_option maxRecDepth 100000 in
theorem mu_X10 : ∀ w ∈ u_ws RX10 TX10 7, w ∈ lw_tbl := lw_mem _ [(2, 81), (2, 83), (2, 85), (2, 87), (2, 89), (2, 91), (2, 93)] rfl
set_option maxRecDepth 100000 in
theorem ma_0 : ∀ w ∈ (vx_atS RX10 64 "java/lang/IllegalArgumentException" ["java/lang/RuntimeException", "java/lang/Exception"]).filter goodWord, w ∈ lw_tbl := by decide +kernel
set_option maxRecDepth 100000 in
theorem mvs_k_X10_checkPart : ∀ w ∈ vs_k_X10_checkPart, w ∈ lw_tbl := List.forall_mem_cons.mpr ⟨lw_one _ 3 7 rfl, (List.forall_mem_append.mpr ⟨(lw_mem _ [(2, 200), (1, 16)] rfl), ma_0⟩)⟩
set_option maxRecDepth 100000 in
theorem mu_X6 : ∀ w ∈ u_ws RX6 TX6 10, w ∈ lw_tbl := lw_mem _ [(1, 63), (1, 65), (1, 67), (1, 69), (1, 71), (1, 73), (1, 75), (1, 77), (1, 79), (1, 81)] rfl
set_option maxRecDepth 100000 in
theorem ma_1 : ∀ w ∈ (vx_atS RX10 75 "java/lang/IllegalStateException" ["java/lang/RuntimeException", "java/lang/Exception"]).filter goodWord, w ∈ lw_tbl := by decide +kernel
set_option maxRecDepth 100000 in
theorem mvs_k_X10_checkRoomForRule : ∀ w ∈ vs_k_X10_checkRoomForRule, w ∈ lw_tbl := List.forall_mem_cons.mpr ⟨lw_one _ 3 12 rfl, (List.forall_mem_append.mpr ⟨(lw_mem _ [(2, 74), (2, 216), (1, 17)] rfl), (List.forall_mem_append.mpr ⟨mu_X10, (List.forall_mem_append.mpr ⟨mu_X6, ma_1⟩)⟩)⟩)⟩
set_option maxRecDepth 100000 in
theorem mu_X3 : ∀ w ∈ u_ws RX3 TX3 16, w ∈ lw_tbl := lw_mem _ [(1, 157), (1, 159), (1, 161), (1, 163), (1, 165), (1, 167), (1, 169), (1, 171), (1, 173), (1, 175), (1, 177), (1, 179), (1, 181), (1, 183), (1, 185), (1, 187)] rfl
set_option maxRecDepth 100000 in
theorem mu_X9 : ∀ w ∈ u_ws RX9 TX9 17, w ∈ lw_tbl := lw_mem _ [(2, 3), (2, 5), (2, 7), (2, 9), (2, 11), (2, 13), (2, 15), (2, 17), (2, 19), (2, 21), (2, 23), (2, 25), (2, 27), (2, 29), (2, 31), (2, 33), (2, 35)] rfl
set_option maxRecDepth 100000 in
theorem mu_X0 : ∀ w ∈ u_ws RX0 TX0 4, w ∈ lw_tbl := lw_mem _ [(2, 65), (2, 67), (2, 69), (2, 71)] rfl
set_option maxRecDepth 100000 in
theorem mvs_k_X10_forgetGrounding : ∀ w ∈ vs_k_X10_forgetGrounding, w ∈ lw_tbl := List.forall_mem_cons.mpr ⟨lw_one _ 2 235 rfl, (List.forall_mem_append.mpr ⟨(lw_mem _ [(2, 75), (2, 76), (2, 80)] rfl), (List.forall_mem_append.mpr ⟨mu_X10, (List.forall_mem_append.mpr ⟨mu_X3, (List.forall_mem_append.mpr ⟨mu_X9, mu_X0⟩)⟩)⟩)⟩)⟩
set_option maxRecDepth 100000 in
theorem mu_X8 : ∀ w ∈ u_ws RX8 TX8 11, w ∈ lw_tbl := lw_mem _ [(3, 49), (3, 51), (3, 53), (3, 55), (3, 57), (3, 59), (3, 61), (3, 63), (3, 65), (3, 67), (3, 69)] rfl
set_option maxRecDepth 100000 in
theorem mvs_k_X8_init_100 : ∀ w ∈ vs_k_X8_init_100, w ∈ lw_tbl := List.forall_mem_cons.mpr ⟨lw_one _ 3 18 rfl, (List.forall_mem_append.mpr ⟨(lw_mem _ [(3, 19), (1, 35), (1, 36), (3, 32), (3, 20), (3, 39), (3, 43), (3, 22), (3, 26)] rfl), mu_X8⟩)⟩
set_option maxRecDepth 100000 in
theorem mvs_k_X6_tellRule : ∀ w ∈ vs_k_X6_tellRule, w ∈ lw_tbl := List.forall_mem_cons.mpr ⟨lw_one _ 3 75 rfl, (List.forall_mem_append.mpr ⟨(lw_mem _ [(1, 51), (1, 48)] rfl), mu_X6⟩)⟩
set_option maxRecDepth 100000 in
theorem mvs_k_X10_addDisjunction : ∀ w ∈ vs_k_X10_addDisjunction, w ∈ lw_tbl := List.forall_mem_cons.mpr ⟨lw_one _ 3 3 rfl, (List.forall_mem_append.mpr ⟨(lw_mem _ [(3, 4), (3, 6), (0, 2), (1, 1), (3, 9), (3, 11), (0, 3), (2, 232), (2, 234), (0, 1), (2, 74), (3, 14), (3, 15), (1, 18), (3, 16), (3, 17), (3, 72), (3, 73), (3, 74), (1, 2)] rfl), (List.forall_mem_append.mpr ⟨mvs_k_X10_checkPart, (List.forall_mem_append.mpr ⟨mvs_k_X10_checkRoomForRule, (List.forall_mem_append.mpr ⟨mvs_k_X10_forgetGrounding, (List.forall_mem_append.mpr ⟨mu_X10, (List.forall_mem_append.mpr ⟨mu_X8, (List.forall_mem_append.mpr ⟨mvs_k_X8_init_100, mvs_k_X6_tellRule⟩)⟩)⟩)⟩)⟩)⟩)⟩)⟩
set_option maxRecDepth 100000 in
theorem mvs_k_L_plain_1 : ∀ w ∈ vs_k_L_plain_1, w ∈ lw_tbl := List.forall_mem_cons.mpr ⟨lw_one _ 2 195 rfl, (List.forall_mem_append.mpr ⟨(lw_mem _ [(3, 0), (3, 1), (3, 2), (1, 1)] rfl), mvs_k_X10_addDisjunction⟩)⟩
set_option maxRecDepth 100000 in
theorem mvs_k_L_deed_1 : ∀ w ∈ vs_k_L_deed_1, w ∈ lw_tbl := List.forall_mem_cons.mpr ⟨lw_one _ 2 109 rfl, (List.forall_mem_append.mpr ⟨(lw_mem _ [(2, 193), (2, 194), (1, 0), (2, 110), (2, 190), (2, 191)] rfl), mvs_k_L_plain_1⟩)⟩
set_option maxRecDepth 100000 in
theorem mvs_k_X8_init_99 : ∀ w ∈ vs_k_X8_init_99, w ∈ lw_tbl := List.forall_mem_cons.mpr ⟨lw_one _ 3 18 rfl, (List.forall_mem_append.mpr ⟨(lw_mem _ [(3, 19), (1, 35), (1, 36), (3, 32), (3, 20), (3, 39), (3, 43), (3, 22), (3, 26)] rfl), mu_X8⟩)⟩
set_option maxRecDepth 100000 in
theorem mvs_k_X6_hasPredicate : ∀ w ∈ vs_k_X6_hasPredicate, w ∈ lw_tbl := List.forall_mem_cons.mpr ⟨lw_one _ 3 88 rfl, (List.forall_mem_append.mpr ⟨(lw_mem _ [(1, 46)] rfl), mu_X6⟩)⟩
set_option maxRecDepth 100000 in
theorem mvs_k_X6_placesOf : ∀ w ∈ vs_k_X6_placesOf, w ∈ lw_tbl := List.forall_mem_cons.mpr ⟨lw_one _ 3 84 rfl, (List.forall_mem_append.mpr ⟨(lw_mem _ [(3, 85), (3, 86), (3, 87), (1, 2), (1, 45)] rfl), (List.forall_mem_append.mpr ⟨mvs_k_X6_hasPredicate, mu_X6⟩)⟩)⟩
set_option maxRecDepth 100000 in
theorem mvs_k_X10_addChoice : ∀ w ∈ vs_k_X10_addChoice, w ∈ lw_tbl := List.forall_mem_cons.mpr ⟨lw_one _ 3 79 rfl, (List.forall_mem_append.mpr ⟨(lw_mem _ [(3, 4), (3, 6), (0, 2), (1, 1), (2, 200), (1, 16), (3, 9), (3, 11), (0, 3), (2, 232), (2, 234), (0, 1), (3, 14), (3, 15), (1, 18), (3, 16), (3, 17), (2, 74), (3, 72), (3, 73), (3, 74), (1, 2), (3, 81), (3, 82), (3, 83)] rfl), (List.forall_mem_append.mpr ⟨mvs_k_X10_checkPart, (List.forall_mem_append.mpr ⟨ma_0, (List.forall_mem_append.mpr ⟨mvs_k_X10_checkRoomForRule, (List.forall_mem_append.mpr ⟨mvs_k_X10_forgetGrounding, (List.forall_mem_append.mpr ⟨mu_X8, (List.forall_mem_append.mpr ⟨mvs_k_X8_init_99, (List.forall_mem_append.mpr ⟨mu_X10, (List.forall_mem_append.mpr ⟨mvs_k_X6_tellRule, mvs_k_X6_placesOf⟩)⟩)⟩)⟩)⟩)⟩)⟩)⟩)⟩)⟩
set_option maxRecDepth 100000 in
theorem mvs_k_L_plain_2 : ∀ w ∈ vs_k_L_plain_2, w ∈ lw_tbl := List.forall_mem_cons.mpr ⟨lw_one _ 2 195 rfl, (List.forall_mem_append.mpr ⟨(lw_mem _ [(3, 76), (3, 77), (3, 78), (1, 1)] rfl), mvs_k_X10_addChoice⟩)⟩
set_option maxRecDepth 100000 in
theorem mvs_k_L_deed_2 : ∀ w ∈ vs_k_L_deed_2, w ∈ lw_tbl := List.forall_mem_cons.mpr ⟨lw_one _ 2 109 rfl, (List.forall_mem_append.mpr ⟨(lw_mem _ [(2, 193), (2, 194), (1, 0), (2, 110), (2, 190), (2, 191)] rfl), mvs_k_L_plain_2⟩)⟩
set_option maxRecDepth 100000 in
theorem mvs_k_X10_checkLevel : ∀ w ∈ vs_k_X10_checkLevel, w ∈ lw_tbl := List.forall_mem_cons.mpr ⟨lw_one _ 3 98 rfl, (List.forall_mem_append.mpr ⟨(lw_mem _ [(2, 200), (1, 16)] rfl), ma_0⟩)⟩
set_option maxRecDepth 100000 in
theorem mvs_k_X8_init_119 : ∀ w ∈ vs_k_X8_init_119, w ∈ lw_tbl := List.forall_mem_cons.mpr ⟨lw_one _ 3 18 rfl, (List.forall_mem_append.mpr ⟨(lw_mem _ [(3, 19), (1, 35), (1, 36), (3, 32), (3, 20), (3, 39), (3, 43), (3, 22), (3, 26)] rfl), mu_X8⟩)⟩
set_option maxRecDepth 100000 in
theorem mvs_k_X10_addWeak : ∀ w ∈ vs_k_X10_addWeak, w ∈ lw_tbl := List.forall_mem_cons.mpr ⟨lw_one _ 3 93 rfl, (List.forall_mem_append.mpr ⟨(lw_mem _ [(3, 4), (3, 6), (0, 2), (1, 1), (2, 200), (1, 16), (3, 95), (3, 97), (0, 4), (3, 9), (3, 11), (0, 3), (2, 232), (2, 234), (0, 1), (3, 14), (3, 15), (1, 18), (3, 16), (3, 17), (2, 74), (3, 72), (3, 73), (3, 74), (1, 2)] rfl), (List.forall_mem_append.mpr ⟨mvs_k_X10_checkPart, (List.forall_mem_append.mpr ⟨ma_0, (List.forall_mem_append.mpr ⟨mvs_k_X10_checkLevel, (List.forall_mem_append.mpr ⟨mvs_k_X10_checkRoomForRule, (List.forall_mem_append.mpr ⟨mvs_k_X10_forgetGrounding, (List.forall_mem_append.mpr ⟨mu_X8, (List.forall_mem_append.mpr ⟨mvs_k_X8_init_119, (List.forall_mem_append.mpr ⟨mu_X10, mvs_k_X6_tellRule⟩)⟩)⟩)⟩)⟩)⟩)⟩)⟩)⟩)⟩
set_option maxRecDepth 100000 in
theorem mvs_k_L_plain_3 : ∀ w ∈ vs_k_L_plain_3, w ∈ lw_tbl := List.forall_mem_cons.mpr ⟨lw_one _ 2 195 rfl, (List.forall_mem_append.mpr ⟨(lw_mem _ [(3, 90), (3, 91), (3, 92), (1, 1)] rfl), mvs_k_X10_addWeak⟩)⟩
set_option maxRecDepth 100000 in
theorem mvs_k_L_deed_3 : ∀ w ∈ vs_k_L_deed_3, w ∈ lw_tbl := List.forall_mem_cons.mpr ⟨lw_one _ 2 109 rfl, (List.forall_mem_append.mpr ⟨(lw_mem _ [(2, 193), (2, 194), (1, 0), (2, 110), (2, 190), (2, 191)] rfl), mvs_k_L_plain_3⟩)⟩
set_option maxRecDepth 100000 in
theorem mvs_k_X6_ruleAt_l : ∀ w ∈ vs_k_X6_ruleAt_l, w ∈ lw_tbl := List.forall_mem_cons.mpr ⟨lw_one _ 3 107 rfl, (List.forall_mem_append.mpr ⟨(lw_mem _ [(1, 51), (1, 48)] rfl), mu_X6⟩)⟩
set_option maxRecDepth 100000 in
theorem ma_2 : ∀ w ∈ (vx_atS RX10 138 "java/lang/IndexOutOfBoundsException" ["java/lang/RuntimeException", "java/lang/Exception"]).filter goodWord, w ∈ lw_tbl := by decide +kernel
set_option maxRecDepth 100000 in
theorem mu_X4 : ∀ w ∈ u_ws RX4 TX4 8, w ∈ lw_tbl := lw_mem _ [(3, 170), (3, 172), (3, 174), (3, 176), (3, 178), (3, 180), (3, 182), (3, 184)] rfl
set_option maxRecDepth 100000 in
theorem mvs_k_X4_slotOf : ∀ w ∈ vs_k_X4_slotOf, w ∈ lw_tbl := List.forall_mem_cons.mpr ⟨lw_one _ 3 141 rfl, (fun _ h => absurd h List.not_mem_nil)⟩
set_option maxRecDepth 100000 in
theorem mvs_k_X4_shiftOf : ∀ w ∈ vs_k_X4_shiftOf, w ∈ lw_tbl := List.forall_mem_cons.mpr ⟨lw_one _ 3 144 rfl, (fun _ h => absurd h List.not_mem_nil)⟩
set_option maxRecDepth 100000 in
theorem mvs_k_X4_init : ∀ w ∈ vs_k_X4_init, w ∈ lw_tbl := List.forall_mem_cons.mpr ⟨lw_one _ 3 137 rfl, (List.forall_mem_append.mpr ⟨(lw_mem _ [(3, 138), (1, 35), (1, 36), (3, 148), (3, 154), (3, 158), (3, 139), (3, 140), (1, 19), (3, 160), (3, 142), (3, 143), (3, 162), (3, 164), (3, 166), (3, 145), (3, 146), (1, 20), (3, 147), (3, 168)] rfl), (List.forall_mem_append.mpr ⟨mu_X4, (List.forall_mem_append.mpr ⟨mvs_k_X4_slotOf, mvs_k_X4_shiftOf⟩)⟩)⟩)⟩
set_option maxRecDepth 100000 in
theorem mvs_k_X10_atomLiteral : ∀ w ∈ vs_k_X10_atomLiteral, w ∈ lw_tbl := List.forall_mem_cons.mpr ⟨lw_one _ 3 132 rfl, (List.forall_mem_append.mpr ⟨(lw_mem _ [(3, 133), (3, 134), (1, 19), (3, 135), (3, 136)] rfl), (List.forall_mem_append.mpr ⟨mu_X4, mvs_k_X4_init⟩)⟩)⟩
set_option maxRecDepth 100000 in
theorem mvs_k_X8_tellHead : ∀ w ∈ vs_k_X8_tellHead, w ∈ lw_tbl := List.forall_mem_cons.mpr ⟨lw_one _ 3 190 rfl, (List.forall_mem_append.mpr ⟨(lw_mem _ [(3, 40), (3, 39)] rfl), mu_X8⟩)⟩
set_option maxRecDepth 100000 in
theorem mvs_k_X10_isValue : ∀ w ∈ vs_k_X10_isValue, w ∈ lw_tbl := List.forall_mem_cons.mpr ⟨lw_one _ 3 127 rfl, (fun _ h => absurd h List.not_mem_nil)⟩
set_option maxRecDepth 100000 in
theorem mvs_k_X10_isTerm : ∀ w ∈ vs_k_X10_isTerm, w ∈ lw_tbl := List.forall_mem_cons.mpr ⟨lw_one _ 3 124 rfl, (List.forall_mem_append.mpr ⟨(lw_mem _ [(3, 125), (3, 126), (1, 1)] rfl), mvs_k_X10_isValue⟩)⟩
set_option maxRecDepth 100000 in
theorem mvs_k_X10_addHead : ∀ w ∈ vs_k_X10_addHead, w ∈ lw_tbl := List.forall_mem_cons.mpr ⟨lw_one _ 3 103 rfl, (List.forall_mem_append.mpr ⟨(lw_mem _ [(2, 74), (3, 104), (3, 105), (3, 106), (1, 2), (3, 109), (1, 13), (3, 108), (3, 86), (3, 87), (3, 81), (3, 82), (3, 83), (2, 200), (1, 16), (2, 216), (1, 17), (2, 232), (2, 234), (0, 1), (1, 1), (3, 130), (3, 131), (3, 187), (3, 188), (3, 189), (1, 18), (3, 122), (3, 123)] rfl), (List.forall_mem_append.mpr ⟨mu_X10, (List.forall_mem_append.mpr ⟨mvs_k_X6_ruleAt_l, (List.forall_mem_append.mpr ⟨ma_2, (List.forall_mem_append.mpr ⟨mvs_k_X6_hasPredicate, (List.forall_mem_append.mpr ⟨mvs_k_X6_placesOf, (List.forall_mem_append.mpr ⟨ma_0, (List.forall_mem_append.mpr ⟨mu_X8, (List.forall_mem_append.mpr ⟨ma_1, (List.forall_mem_append.mpr ⟨mvs_k_X10_forgetGrounding, (List.forall_mem_append.mpr ⟨mvs_k_X10_atomLiteral, (List.forall_mem_append.mpr ⟨mvs_k_X8_tellHead, mvs_k_X10_isTerm⟩)⟩)⟩)⟩)⟩)⟩)⟩)⟩)⟩)⟩)⟩)⟩)⟩
set_option maxRecDepth 100000 in
theorem mvs_k_L_plain_4 : ∀ w ∈ vs_k_L_plain_4, w ∈ lw_tbl := List.forall_mem_cons.mpr ⟨lw_one _ 2 195 rfl, (List.forall_mem_append.mpr ⟨(lw_mem _ [(3, 100), (3, 101), (3, 102), (1, 1)] rfl), mvs_k_X10_addHead⟩)⟩
set_option maxRecDepth 100000 in
theorem mvs_k_L_deed_4 : ∀ w ∈ vs_k_L_deed_4, w ∈ lw_tbl := List.forall_mem_cons.mpr ⟨lw_one _ 2 109 rfl, (List.forall_mem_append.mpr ⟨(lw_mem _ [(2, 193), (2, 194), (1, 0), (2, 110), (2, 190), (2, 191)] rfl), mvs_k_L_plain_4⟩)⟩
set_option maxRecDepth 100000 in
theorem mvs_k_L_atom_2 : ∀ w ∈ vs_k_L_atom_2, w ∈ lw_tbl := List.forall_mem_cons.mpr ⟨lw_one _ 5 146 rfl, (List.forall_mem_append.mpr ⟨(lw_mem _ [(2, 107), (2, 108), (1, 0)] rfl), mvs_k_L_deed_4⟩)⟩
set_option maxRecDepth 100000 in
theorem mvs_k_X10_checkRoomForCondition : ∀ w ∈ vs_k_X10_checkRoomForCondition, w ∈ lw_tbl := List.forall_mem_cons.mpr ⟨lw_one _ 3 206 rfl, (List.forall_mem_append.mpr ⟨(lw_mem _ [(2, 216), (1, 17)] rfl), (List.forall_mem_append.mpr ⟨mu_X8, ma_1⟩)⟩)⟩
set_option maxRecDepth 100000 in
theorem mvs_k_X8_tellCondition : ∀ w ∈ vs_k_X8_tellCondition, w ∈ lw_tbl := List.forall_mem_cons.mpr ⟨lw_one _ 3 211 rfl, (List.forall_mem_append.mpr ⟨(lw_mem _ [(3, 44), (3, 43)] rfl), mu_X8⟩)⟩
set_option maxRecDepth 100000 in
theorem mvs_k_X8_hasSpan_l : ∀ w ∈ vs_k_X8_hasSpan_l, w ∈ lw_tbl := List.forall_mem_cons.mpr ⟨lw_one _ 3 201 rfl, (List.forall_mem_append.mpr ⟨(lw_mem _ [(3, 32)] rfl), mu_X8⟩)⟩
set_option maxRecDepth 100000 in
theorem mvs_k_X10_isBodyTerm : ∀ w ∈ vs_k_X10_isBodyTerm, w ∈ lw_tbl := List.forall_mem_cons.mpr ⟨lw_one _ 3 197 rfl, (List.forall_mem_append.mpr ⟨(lw_mem _ [(3, 122), (3, 123), (1, 1), (3, 198), (3, 199), (3, 200), (1, 18)] rfl), (List.forall_mem_append.mpr ⟨mvs_k_X10_isTerm, mvs_k_X8_hasSpan_l⟩)⟩)⟩
set_option maxRecDepth 100000 in
theorem mvs_k_X10_addAtom : ∀ w ∈ vs_k_X10_addAtom, w ∈ lw_tbl := List.forall_mem_cons.mpr ⟨lw_one _ 3 194 rfl, (List.forall_mem_append.mpr ⟨(lw_mem _ [(2, 74), (3, 104), (3, 105), (3, 106), (1, 2), (3, 109), (1, 13), (3, 108), (3, 86), (3, 87), (3, 81), (3, 82), (3, 83), (2, 200), (1, 16), (3, 203), (3, 205), (0, 5), (1, 1), (2, 232), (2, 234), (0, 1), (3, 130), (3, 131), (3, 208), (3, 209), (3, 210), (1, 18), (3, 195), (3, 196)] rfl), (List.forall_mem_append.mpr ⟨mu_X10, (List.forall_mem_append.mpr ⟨mvs_k_X6_ruleAt_l, (List.forall_mem_append.mpr ⟨ma_2, (List.forall_mem_append.mpr ⟨mvs_k_X6_hasPredicate, (List.forall_mem_append.mpr ⟨mvs_k_X6_placesOf, (List.forall_mem_append.mpr ⟨ma_0, (List.forall_mem_append.mpr ⟨mvs_k_X10_checkRoomForCondition, (List.forall_mem_append.mpr ⟨mvs_k_X10_forgetGrounding, (List.forall_mem_append.mpr ⟨mvs_k_X10_atomLiteral, (List.forall_mem_append.mpr ⟨mvs_k_X8_tellCondition, mvs_k_X10_isBodyTerm⟩)⟩)⟩)⟩)⟩)⟩)⟩)⟩)⟩)⟩)⟩)⟩
set_option maxRecDepth 100000 in
theorem mvs_k_L_plain_5 : ∀ w ∈ vs_k_L_plain_5, w ∈ lw_tbl := List.forall_mem_cons.mpr ⟨lw_one _ 2 195 rfl, (List.forall_mem_append.mpr ⟨(lw_mem _ [(3, 191), (3, 192), (3, 193), (1, 1)] rfl), mvs_k_X10_addAtom⟩)⟩
set_option maxRecDepth 100000 in
theorem mvs_k_L_deed_5 : ∀ w ∈ vs_k_L_deed_5, w ∈ lw_tbl := List.forall_mem_cons.mpr ⟨lw_one _ 2 109 rfl, (List.forall_mem_append.mpr ⟨(lw_mem _ [(2, 193), (2, 194), (1, 0), (2, 110), (2, 190), (2, 191)] rfl), mvs_k_L_plain_5⟩)⟩
set_option maxRecDepth 100000 in
theorem mvs_k_L_atom_0 : ∀ w ∈ vs_k_L_atom_0, w ∈ lw_tbl := List.forall_mem_cons.mpr ⟨lw_one _ 5 146 rfl, (List.forall_mem_append.mpr ⟨(lw_mem _ [(2, 107), (2, 108), (1, 0)] rfl), mvs_k_L_deed_5⟩)⟩
set_option maxRecDepth 100000 in
theorem mvs_k_L_atom_1 : ∀ w ∈ vs_k_L_atom_1, w ∈ lw_tbl := List.forall_mem_cons.mpr ⟨lw_one _ 5 146 rfl, (List.forall_mem_append.mpr ⟨(lw_mem _ [(2, 107), (2, 108), (1, 0)] rfl), mvs_k_L_deed_5⟩)⟩
set_option maxRecDepth 100000 in
theorem mvs_k_X10_addCount : ∀ w ∈ vs_k_X10_addCount, w ∈ lw_tbl := List.forall_mem_cons.mpr ⟨lw_one _ 3 221 rfl, (List.forall_mem_append.mpr ⟨(lw_mem _ [(2, 74), (3, 104), (3, 105), (3, 106), (1, 2), (3, 109), (1, 13), (3, 108), (3, 86), (3, 87), (2, 200), (1, 16), (3, 203), (3, 205), (0, 5), (1, 1), (2, 232), (2, 234), (0, 1), (3, 133), (3, 134), (1, 19), (3, 135), (3, 136), (3, 208), (3, 209), (3, 210), (1, 18)] rfl), (List.forall_mem_append.mpr ⟨mu_X10, (List.forall_mem_append.mpr ⟨mvs_k_X6_ruleAt_l, (List.forall_mem_append.mpr ⟨ma_2, (List.forall_mem_append.mpr ⟨mvs_k_X6_hasPredicate, (List.forall_mem_append.mpr ⟨ma_0, (List.forall_mem_append.mpr ⟨mvs_k_X10_checkRoomForCondition, (List.forall_mem_append.mpr ⟨mvs_k_X10_forgetGrounding, (List.forall_mem_append.mpr ⟨mu_X4, (List.forall_mem_append.mpr ⟨mvs_k_X4_init, mvs_k_X8_tellCondition⟩)⟩)⟩)⟩)⟩)⟩)⟩)⟩)⟩)⟩)⟩
set_option maxRecDepth 100000 in
theorem mvs_k_L_plain_7 : ∀ w ∈ vs_k_L_plain_7, w ∈ lw_tbl := List.forall_mem_cons.mpr ⟨lw_one _ 2 195 rfl, (List.forall_mem_append.mpr ⟨(lw_mem _ [(3, 218), (3, 219), (3, 220), (1, 1)] rfl), mvs_k_X10_addCount⟩)⟩
set_option maxRecDepth 100000 in
theorem mvs_k_L_deed_7 : ∀ w ∈ vs_k_L_deed_7, w ∈ lw_tbl := List.forall_mem_cons.mpr ⟨lw_one _ 2 109 rfl, (List.forall_mem_append.mpr ⟨(lw_mem _ [(2, 193), (2, 194), (1, 0), (2, 110), (2, 190), (2, 191)] rfl), mvs_k_L_plain_7⟩)⟩
set_option maxRecDepth 100000 in
theorem mvs_k_L_cell : ∀ w ∈ vs_k_L_cell, w ∈ lw_tbl := List.forall_mem_cons.mpr ⟨lw_one _ 2 101 rfl, (lw_mem _ [(2, 102), (2, 103)] rfl)⟩
set_option maxRecDepth 100000 in
theorem mvs_k_L_pick : ∀ w ∈ vs_k_L_pick, w ∈ lw_tbl := List.forall_mem_cons.mpr ⟨lw_one _ 2 98 rfl, (List.forall_mem_append.mpr ⟨(lw_mem _ [(2, 99), (2, 100), (1, 0)] rfl), mvs_k_L_cell⟩)⟩
set_option maxRecDepth 100000 in
theorem mvs_k_L_told : ∀ w ∈ vs_k_L_told, w ∈ lw_tbl := List.forall_mem_cons.mpr ⟨lw_one _ 2 106 rfl, (fun _ h => absurd h List.not_mem_nil)⟩
set_option maxRecDepth 100000 in
theorem mvs_k_L_addRule : ∀ w ∈ vs_k_L_addRule, w ∈ lw_tbl := List.forall_mem_cons.mpr ⟨lw_one _ 5 143 rfl, (List.forall_mem_append.mpr ⟨(lw_mem _ [(1, 84), (2, 96), (2, 97), (1, 0), (2, 107), (2, 108), (5, 144), (5, 145), (2, 104), (2, 105)] rfl), (List.forall_mem_append.mpr ⟨mvs_k_L_deed_1, (List.forall_mem_append.mpr ⟨mvs_k_L_deed_2, (List.forall_mem_append.mpr ⟨mvs_k_L_deed_3, (List.forall_mem_append.mpr ⟨mvs_k_L_atom_2, (List.forall_mem_append.mpr ⟨mvs_k_L_atom_0, (List.forall_mem_append.mpr ⟨mvs_k_L_atom_1, (List.forall_mem_append.mpr ⟨mvs_k_L_deed_7, (List.forall_mem_append.mpr ⟨mvs_k_L_pick, mvs_k_L_told⟩)⟩)⟩)⟩)⟩)⟩)⟩)⟩)⟩)⟩
set_option maxRecDepth 100000 in
theorem mvs_k_J6_bitCount_0f7a4 : ∀ w ∈ vs_k_J6_bitCount_0f7a4, w ∈ lw_tbl := List.forall_mem_cons.mpr ⟨lw_one _ 5 77 rfl, (lw_mem _ [(5, 78), (5, 79), (5, 80)] rfl)⟩
set_option maxRecDepth 100000 in
theorem mvs_k_X6_tellPredicate : ∀ w ∈ vs_k_X6_tellPredicate, w ∈ lw_tbl := List.forall_mem_cons.mpr ⟨lw_one _ 2 239 rfl, (List.forall_mem_append.mpr ⟨(lw_mem _ [(1, 46), (1, 45)] rfl), mu_X6⟩)⟩
set_option maxRecDepth 100000 in
theorem mvs_k_X10_addPredicate : ∀ w ∈ vs_k_X10_addPredicate, w ∈ lw_tbl := List.forall_mem_cons.mpr ⟨lw_one _ 2 199 rfl, (List.forall_mem_append.mpr ⟨(lw_mem _ [(2, 200), (1, 16), (2, 74), (2, 232), (2, 234), (0, 1), (1, 1), (2, 236), (2, 237), (2, 238), (1, 2), (2, 216), (1, 17)] rfl), (List.forall_mem_append.mpr ⟨ma_0, (List.forall_mem_append.mpr ⟨mu_X10, (List.forall_mem_append.mpr ⟨mu_X6, (List.forall_mem_append.mpr ⟨mvs_k_X10_forgetGrounding, (List.forall_mem_append.mpr ⟨mvs_k_X6_tellPredicate, ma_1⟩)⟩)⟩)⟩)⟩)⟩)⟩
set_option maxRecDepth 100000 in
theorem mvs_k_L_plain_0 : ∀ w ∈ vs_k_L_plain_0, w ∈ lw_tbl := List.forall_mem_cons.mpr ⟨lw_one _ 2 195 rfl, (List.forall_mem_append.mpr ⟨(lw_mem _ [(2, 196), (2, 197), (2, 198), (1, 1)] rfl), mvs_k_X10_addPredicate⟩)⟩
set_option maxRecDepth 100000 in
theorem mvs_k_L_deed_0 : ∀ w ∈ vs_k_L_deed_0, w ∈ lw_tbl := List.forall_mem_cons.mpr ⟨lw_one _ 2 109 rfl, (List.forall_mem_append.mpr ⟨(lw_mem _ [(2, 193), (2, 194), (1, 0), (2, 110), (2, 190), (2, 191)] rfl), mvs_k_L_plain_0⟩)⟩
set_option maxRecDepth 100000 in
theorem mvs_k_X10_checkedAtom : ∀ w ∈ vs_k_X10_checkedAtom, w ∈ lw_tbl := List.forall_mem_cons.mpr ⟨lw_one _ 4 13 rfl, (List.forall_mem_append.mpr ⟨(lw_mem _ [(2, 74), (3, 108), (3, 86), (3, 87), (1, 2), (3, 81), (3, 82), (3, 83), (2, 200), (1, 16), (3, 125), (3, 126), (1, 1), (3, 109), (1, 13)] rfl), (List.forall_mem_append.mpr ⟨mu_X10, (List.forall_mem_append.mpr ⟨mvs_k_X6_hasPredicate, (List.forall_mem_append.mpr ⟨mvs_k_X6_placesOf, (List.forall_mem_append.mpr ⟨ma_0, (List.forall_mem_append.mpr ⟨mvs_k_X10_isValue, ma_2⟩)⟩)⟩)⟩)⟩)⟩)⟩
set_option maxRecDepth 100000 in
theorem mu_X1 : ∀ w ∈ u_ws RX1 TX1 1, w ∈ lw_tbl := lw_mem _ [(1, 122)] rfl
set_option maxRecDepth 100000 in
theorem mvs_k_J13_bitCount_95d88 : ∀ w ∈ vs_k_J13_bitCount_95d88, w ∈ lw_tbl := List.forall_mem_cons.mpr ⟨lw_one _ 4 67 rfl, (lw_mem _ [(4, 68), (4, 69), (4, 70)] rfl)⟩
set_option maxRecDepth 100000 in
theorem mvs_k_X1_countOf : ∀ w ∈ vs_k_X1_countOf, w ∈ lw_tbl := List.forall_mem_cons.mpr ⟨lw_one _ 4 64 rfl, (List.forall_mem_append.mpr ⟨(lw_mem _ [(1, 121), (4, 65), (4, 66), (1, 21)] rfl), (List.forall_mem_append.mpr ⟨mu_X1, mvs_k_J13_bitCount_95d88⟩)⟩)⟩
set_option maxRecDepth 100000 in
theorem mvs_k_X1_count : ∀ w ∈ vs_k_X1_count, w ∈ lw_tbl := List.forall_mem_cons.mpr ⟨lw_one _ 4 60 rfl, (List.forall_mem_append.mpr ⟨(lw_mem _ [(4, 61), (4, 62), (4, 63), (1, 5)] rfl), mvs_k_X1_countOf⟩)⟩
set_option maxRecDepth 100000 in
theorem mvs_k_X1_remove : ∀ w ∈ vs_k_X1_remove, w ∈ lw_tbl := List.forall_mem_cons.mpr ⟨lw_one _ 4 51 rfl, (List.forall_mem_append.mpr ⟨(lw_mem _ [(1, 121), (4, 52)] rfl), mu_X1⟩)⟩
set_option maxRecDepth 100000 in
theorem mvs_k_X1_add : ∀ w ∈ vs_k_X1_add, w ∈ lw_tbl := List.forall_mem_cons.mpr ⟨lw_one _ 4 56 rfl, (List.forall_mem_append.mpr ⟨(lw_mem _ [(1, 121)] rfl), mu_X1⟩)⟩
set_option maxRecDepth 100000 in
theorem mvs_k_X10_assume : ∀ w ∈ vs_k_X10_assume, w ∈ lw_tbl := List.forall_mem_cons.mpr ⟨lw_one _ 4 47 rfl, (List.forall_mem_append.mpr ⟨(lw_mem _ [(4, 10), (4, 12), (0, 6), (1, 1), (2, 80), (2, 78), (4, 57), (4, 58), (4, 59), (1, 5), (2, 79), (4, 48), (4, 49), (4, 50), (4, 53), (4, 54), (4, 55)] rfl), (List.forall_mem_append.mpr ⟨mvs_k_X10_checkedAtom, (List.forall_mem_append.mpr ⟨mu_X10, (List.forall_mem_append.mpr ⟨mu_X0, (List.forall_mem_append.mpr ⟨mvs_k_X1_count, (List.forall_mem_append.mpr ⟨mvs_k_X1_remove, mvs_k_X1_add⟩)⟩)⟩)⟩)⟩)⟩)⟩
set_option maxRecDepth 100000 in
theorem mvs_k_L_plain_11 : ∀ w ∈ vs_k_L_plain_11, w ∈ lw_tbl := List.forall_mem_cons.mpr ⟨lw_one _ 2 195 rfl, (List.forall_mem_append.mpr ⟨(lw_mem _ [(4, 44), (4, 45), (4, 46), (1, 1)] rfl), mvs_k_X10_assume⟩)⟩
set_option maxRecDepth 100000 in
theorem mvs_k_L_deed_11 : ∀ w ∈ vs_k_L_deed_11, w ∈ lw_tbl := List.forall_mem_cons.mpr ⟨lw_one _ 2 109 rfl, (List.forall_mem_append.mpr ⟨(lw_mem _ [(2, 193), (2, 194), (1, 0), (2, 110), (2, 190)] rfl), mvs_k_L_plain_11⟩)⟩
set_option maxRecDepth 100000 in
theorem mvs_k_X1_clear : ∀ w ∈ vs_k_X1_clear, w ∈ lw_tbl := List.forall_mem_cons.mpr ⟨lw_one _ 4 78 rfl, (List.forall_mem_append.mpr ⟨(lw_mem _ [(1, 121)] rfl), mu_X1⟩)⟩
set_option maxRecDepth 100000 in
theorem mvs_k_X10_dropAssumptions : ∀ w ∈ vs_k_X10_dropAssumptions, w ∈ lw_tbl := List.forall_mem_cons.mpr ⟨lw_one _ 4 74 rfl, (List.forall_mem_append.mpr ⟨(lw_mem _ [(2, 78), (4, 57), (4, 58), (4, 59), (1, 5), (2, 79), (2, 80), (4, 75), (4, 76), (4, 77)] rfl), (List.forall_mem_append.mpr ⟨mu_X10, (List.forall_mem_append.mpr ⟨mvs_k_X1_count, (List.forall_mem_append.mpr ⟨mu_X0, mvs_k_X1_clear⟩)⟩)⟩)⟩)⟩
set_option maxRecDepth 100000 in
theorem mvs_k_L_plain_12 : ∀ w ∈ vs_k_L_plain_12, w ∈ lw_tbl := List.forall_mem_cons.mpr ⟨lw_one _ 2 195 rfl, (List.forall_mem_append.mpr ⟨(lw_mem _ [(4, 71), (4, 72), (4, 73), (1, 1)] rfl), mvs_k_X10_dropAssumptions⟩)⟩
set_option maxRecDepth 100000 in
theorem mvs_k_L_deed_12 : ∀ w ∈ vs_k_L_deed_12, w ∈ lw_tbl := List.forall_mem_cons.mpr ⟨lw_one _ 2 109 rfl, (List.forall_mem_append.mpr ⟨(lw_mem _ [(2, 193), (2, 194), (1, 0)] rfl), mvs_k_L_plain_12⟩)⟩
set_option maxRecDepth 100000 in
theorem mvs_k_X6_externalAtom : ∀ w ∈ vs_k_X6_externalAtom, w ∈ lw_tbl := List.forall_mem_cons.mpr ⟨lw_one _ 4 23 rfl, (List.forall_mem_append.mpr ⟨(lw_mem _ [(1, 61), (1, 57)] rfl), mu_X6⟩)⟩
set_option maxRecDepth 100000 in
theorem mvs_k_X6_externalOf : ∀ w ∈ vs_k_X6_externalOf, w ∈ lw_tbl := List.forall_mem_cons.mpr ⟨lw_one _ 4 19 rfl, (List.forall_mem_append.mpr ⟨(lw_mem _ [(1, 61), (4, 20), (4, 21), (4, 22), (1, 2)] rfl), (List.forall_mem_append.mpr ⟨mu_X6, mvs_k_X6_externalAtom⟩)⟩)⟩
set_option maxRecDepth 100000 in
theorem mvs_k_X6_tellExternal : ∀ w ∈ vs_k_X6_tellExternal, w ∈ lw_tbl := List.forall_mem_cons.mpr ⟨lw_one _ 4 28 rfl, (List.forall_mem_append.mpr ⟨(lw_mem _ [(1, 61), (1, 57), (1, 58)] rfl), mu_X6⟩)⟩
set_option maxRecDepth 100000 in
theorem mvs_k_X10_addExternal : ∀ w ∈ vs_k_X10_addExternal, w ∈ lw_tbl := List.forall_mem_cons.mpr ⟨lw_one _ 4 9 rfl, (List.forall_mem_append.mpr ⟨(lw_mem _ [(4, 10), (4, 12), (0, 6), (1, 1), (2, 74), (2, 216), (1, 17), (4, 16), (4, 17), (4, 18), (1, 2), (2, 232), (2, 234), (0, 1), (4, 25), (4, 26), (4, 27)] rfl), (List.forall_mem_append.mpr ⟨mvs_k_X10_checkedAtom, (List.forall_mem_append.mpr ⟨mu_X10, (List.forall_mem_append.mpr ⟨mu_X6, (List.forall_mem_append.mpr ⟨ma_1, (List.forall_mem_append.mpr ⟨mvs_k_X6_externalOf, (List.forall_mem_append.mpr ⟨mvs_k_X10_forgetGrounding, mvs_k_X6_tellExternal⟩)⟩)⟩)⟩)⟩)⟩)⟩)⟩
set_option maxRecDepth 100000 in
theorem mvs_k_L_plain_9 : ∀ w ∈ vs_k_L_plain_9, w ∈ lw_tbl := List.forall_mem_cons.mpr ⟨lw_one _ 2 195 rfl, (List.forall_mem_append.mpr ⟨(lw_mem _ [(4, 6), (4, 7), (4, 8), (1, 1)] rfl), mvs_k_X10_addExternal⟩)⟩
set_option maxRecDepth 100000 in
theorem mvs_k_L_deed_9 : ∀ w ∈ vs_k_L_deed_9, w ∈ lw_tbl := List.forall_mem_cons.mpr ⟨lw_one _ 2 109 rfl, (List.forall_mem_append.mpr ⟨(lw_mem _ [(2, 193), (2, 194), (1, 0), (2, 110), (2, 190), (2, 191)] rfl), mvs_k_L_plain_9⟩)⟩
set_option maxRecDepth 100000 in
theorem mvs_k_X6_init : ∀ w ∈ vs_k_X6_init, w ∈ lw_tbl := List.forall_mem_cons.mpr ⟨lw_one _ 1 41 rfl, (List.forall_mem_append.mpr ⟨(lw_mem _ [(1, 42), (1, 35), (1, 36), (1, 84), (1, 45), (1, 43), (1, 48), (1, 53), (1, 54), (1, 55), (1, 57), (1, 85), (1, 58)] rfl), mu_X6⟩)⟩
set_option maxRecDepth 100000 in
theorem mu_X2 : ∀ w ∈ u_ws RX2 TX2 4, w ∈ lw_tbl := lw_mem _ [(1, 106), (1, 108), (1, 110), (1, 112)] rfl
set_option maxRecDepth 100000 in
theorem mvs_k_X2_init : ∀ w ∈ vs_k_X2_init, w ∈ lw_tbl := List.forall_mem_cons.mpr ⟨lw_one _ 1 96 rfl, (lw_mem _ [(1, 97), (1, 35), (1, 36)] rfl)⟩
set_option maxRecDepth 100000 in
theorem mvs_k_X1_init : ∀ w ∈ vs_k_X1_init, w ∈ lw_tbl := List.forall_mem_cons.mpr ⟨lw_one _ 1 119 rfl, (List.forall_mem_append.mpr ⟨(lw_mem _ [(1, 120), (1, 35), (1, 36), (1, 125), (1, 121)] rfl), mu_X1⟩)⟩
set_option maxRecDepth 100000 in
theorem mvs_k_X3_init : ∀ w ∈ vs_k_X3_init, w ∈ lw_tbl := List.forall_mem_cons.mpr ⟨lw_one _ 1 90 rfl, (List.forall_mem_append.mpr ⟨(lw_mem _ [(1, 91), (1, 35), (1, 36), (1, 92), (1, 93), (1, 4), (1, 95), (1, 127), (1, 115), (1, 116), (1, 5), (1, 118), (1, 130), (1, 133), (1, 84), (1, 136), (1, 140), (1, 141), (1, 142), (1, 147), (1, 148), (1, 126)] rfl), (List.forall_mem_append.mpr ⟨mu_X2, (List.forall_mem_append.mpr ⟨mvs_k_X2_init, (List.forall_mem_append.mpr ⟨mu_X3, (List.forall_mem_append.mpr ⟨mu_X1, mvs_k_X1_init⟩)⟩)⟩)⟩)⟩)⟩
set_option maxRecDepth 100000 in
theorem mu_X7 : ∀ w ∈ u_ws RX7 TX7 7, w ∈ lw_tbl := lw_mem _ [(1, 210), (1, 212), (1, 214), (1, 216), (1, 218), (1, 220), (1, 222)] rfl
set_option maxRecDepth 100000 in
theorem mvs_k_X7_init : ∀ w ∈ vs_k_X7_init, w ∈ lw_tbl := List.forall_mem_cons.mpr ⟨lw_one _ 1 200 rfl, (List.forall_mem_append.mpr ⟨(lw_mem _ [(1, 201), (1, 35), (1, 36), (1, 84), (1, 202), (1, 203), (1, 204), (1, 205), (1, 206), (1, 207)] rfl), mu_X7⟩)⟩
set_option maxRecDepth 100000 in
theorem mvs_k_X9_init : ∀ w ∈ vs_k_X9_init, w ∈ lw_tbl := List.forall_mem_cons.mpr ⟨lw_one _ 1 194 rfl, (List.forall_mem_append.mpr ⟨(lw_mem _ [(1, 195), (1, 35), (1, 36), (1, 196), (1, 197), (1, 7), (1, 199), (1, 227), (1, 228), (1, 84), (1, 229), (1, 231), (1, 232), (1, 233), (1, 225), (1, 226)] rfl), (List.forall_mem_append.mpr ⟨mu_X7, (List.forall_mem_append.mpr ⟨mvs_k_X7_init, mu_X9⟩)⟩)⟩)⟩
set_option maxRecDepth 100000 in
theorem mu_X5 : ∀ w ∈ u_ws RX5 TX5 2, w ∈ lw_tbl := lw_mem _ [(2, 46), (2, 48)] rfl
set_option maxRecDepth 100000 in
theorem mvs_k_X5_init : ∀ w ∈ vs_k_X5_init, w ∈ lw_tbl := List.forall_mem_cons.mpr ⟨lw_one _ 2 42 rfl, (List.forall_mem_append.mpr ⟨(lw_mem _ [(2, 43), (1, 35), (1, 36), (1, 125), (2, 45), (2, 44)] rfl), mu_X5⟩)⟩
set_option maxRecDepth 100000 in
theorem mvs_k_X0_init : ∀ w ∈ vs_k_X0_init, w ∈ lw_tbl := List.forall_mem_cons.mpr ⟨lw_one _ 2 57 rfl, (List.forall_mem_append.mpr ⟨(lw_mem _ [(2, 58), (1, 35), (1, 36), (1, 84), (2, 59), (1, 125), (2, 60)] rfl), mu_X0⟩)⟩
set_option maxRecDepth 100000 in
theorem mvs_k_X10_init : ∀ w ∈ vs_k_X10_init, w ∈ lw_tbl := List.forall_mem_cons.mpr ⟨lw_one _ 1 33 rfl, (List.forall_mem_append.mpr ⟨(lw_mem _ [(1, 34), (1, 35), (1, 36), (1, 37), (1, 38), (1, 2), (1, 40), (2, 74), (1, 86), (1, 87), (1, 3), (1, 88), (1, 89), (2, 75), (1, 190), (1, 191), (1, 6), (1, 192), (1, 193), (2, 76), (2, 38), (2, 39), (1, 8), (2, 40), (2, 41), (2, 77), (2, 51), (1, 116), (1, 5), (1, 118), (2, 78), (2, 79), (2, 53), (2, 54), (1, 9), (2, 56), (2, 80)] rfl), (List.forall_mem_append.mpr ⟨mu_X6, (List.forall_mem_append.mpr ⟨mvs_k_X6_init, (List.forall_mem_append.mpr ⟨mu_X10, (List.forall_mem_append.mpr ⟨mu_X3, (List.forall_mem_append.mpr ⟨mvs_k_X3_init, (List.forall_mem_append.mpr ⟨mu_X9, (List.forall_mem_append.mpr ⟨mvs_k_X9_init, (List.forall_mem_append.mpr ⟨mu_X5, (List.forall_mem_append.mpr ⟨mvs_k_X5_init, (List.forall_mem_append.mpr ⟨mu_X1, (List.forall_mem_append.mpr ⟨mvs_k_X1_init, (List.forall_mem_append.mpr ⟨mu_X0, mvs_k_X0_init⟩)⟩)⟩)⟩)⟩)⟩)⟩)⟩)⟩)⟩)⟩)⟩)⟩)⟩
set_option maxRecDepth 100000 in
theorem mvs_k_X6_externalState : ∀ w ∈ vs_k_X6_externalState, w ∈ lw_tbl := List.forall_mem_cons.mpr ⟨lw_one _ 4 38 rfl, (List.forall_mem_append.mpr ⟨(lw_mem _ [(1, 61), (1, 58)] rfl), mu_X6⟩)⟩
set_option maxRecDepth 100000 in
theorem mvs_k_X3_beginWithExternals : ∀ w ∈ vs_k_X3_beginWithExternals, w ∈ lw_tbl := List.forall_mem_cons.mpr ⟨lw_one _ 4 91 rfl, (List.forall_mem_append.mpr ⟨(lw_mem _ [(1, 126), (4, 92), (4, 36), (4, 37), (1, 2), (1, 133), (4, 93), (4, 21), (4, 22), (4, 94), (4, 54), (4, 55), (1, 5), (1, 130)] rfl), (List.forall_mem_append.mpr ⟨mu_X3, (List.forall_mem_append.mpr ⟨mu_X6, (List.forall_mem_append.mpr ⟨mvs_k_X6_externalState, (List.forall_mem_append.mpr ⟨mvs_k_X6_externalAtom, mvs_k_X1_add⟩)⟩)⟩)⟩)⟩)⟩
set_option maxRecDepth 100000 in
theorem mvs_k_X6_ruleAt : ∀ w ∈ vs_k_X6_ruleAt, w ∈ lw_tbl := List.forall_mem_cons.mpr ⟨lw_one _ 3 107 rfl, (List.forall_mem_append.mpr ⟨(lw_mem _ [(1, 51), (1, 48)] rfl), mu_X6⟩)⟩
set_option maxRecDepth 100000 in
theorem mvs_k_X8_conditionAt : ∀ w ∈ vs_k_X8_conditionAt, w ∈ lw_tbl := List.forall_mem_cons.mpr ⟨lw_one _ 4 111 rfl, (List.forall_mem_append.mpr ⟨(lw_mem _ [(3, 44), (3, 43)] rfl), mu_X8⟩)⟩
set_option maxRecDepth 100000 in
theorem mvs_k_X8_neededPredicates : ∀ w ∈ vs_k_X8_neededPredicates, w ∈ lw_tbl := List.forall_mem_cons.mpr ⟨lw_one _ 4 119 rfl, (List.forall_mem_append.mpr ⟨(lw_mem _ [(3, 44), (4, 108), (4, 109), (4, 110), (1, 18)] rfl), (List.forall_mem_append.mpr ⟨mu_X8, (List.forall_mem_append.mpr ⟨mvs_k_X8_conditionAt, mu_X4⟩)⟩)⟩)⟩
set_option maxRecDepth 100000 in
theorem mvs_k_X4_isCount : ∀ w ∈ vs_k_X4_isCount, w ∈ lw_tbl := List.forall_mem_cons.mpr ⟨lw_one _ 4 115 rfl, (List.forall_mem_append.mpr ⟨(lw_mem _ [(3, 148)] rfl), mu_X4⟩)⟩
set_option maxRecDepth 100000 in
theorem mvs_k_X8_isDefinite : ∀ w ∈ vs_k_X8_isDefinite, w ∈ lw_tbl := List.forall_mem_cons.mpr ⟨lw_one _ 4 107 rfl, (List.forall_mem_append.mpr ⟨(lw_mem _ [(3, 44), (3, 22), (3, 40), (4, 108), (4, 109), (4, 110), (1, 18), (4, 112), (4, 113), (4, 114), (1, 19)] rfl), (List.forall_mem_append.mpr ⟨mu_X8, (List.forall_mem_append.mpr ⟨mvs_k_X8_conditionAt, (List.forall_mem_append.mpr ⟨mu_X4, mvs_k_X4_isCount⟩)⟩)⟩)⟩)⟩
set_option maxRecDepth 100000 in
theorem mvs_k_X3_rulesNeeding : ∀ w ∈ vs_k_X3_rulesNeeding, w ∈ lw_tbl := List.forall_mem_cons.mpr ⟨lw_one _ 4 102 rfl, (List.forall_mem_append.mpr ⟨(lw_mem _ [(1, 126), (4, 103), (3, 105), (3, 106), (1, 2), (1, 155), (4, 116), (4, 117), (4, 118), (1, 18), (4, 104), (4, 105), (4, 106)] rfl), (List.forall_mem_append.mpr ⟨mu_X3, (List.forall_mem_append.mpr ⟨mu_X6, (List.forall_mem_append.mpr ⟨mvs_k_X6_ruleAt, (List.forall_mem_append.mpr ⟨mu_X8, (List.forall_mem_append.mpr ⟨mvs_k_X8_neededPredicates, mvs_k_X8_isDefinite⟩)⟩)⟩)⟩)⟩)⟩)⟩
set_option maxRecDepth 100000 in
theorem mvs_k_X6_parameterAt : ∀ w ∈ vs_k_X6_parameterAt, w ∈ lw_tbl := List.forall_mem_cons.mpr ⟨lw_one _ 4 0 rfl, (List.forall_mem_append.mpr ⟨(lw_mem _ [(1, 53), (1, 54)] rfl), mu_X6⟩)⟩
set_option maxRecDepth 100000 in
theorem mvs_k_X2_valueOf : ∀ w ∈ vs_k_X2_valueOf, w ∈ lw_tbl := List.forall_mem_cons.mpr ⟨lw_one _ 4 141 rfl, (List.forall_mem_append.mpr ⟨(lw_mem _ [(1, 98), (1, 100), (1, 102), (1, 104)] rfl), mu_X2⟩)⟩
set_option maxRecDepth 100000 in
theorem mvs_k_X2_testHolds : ∀ w ∈ vs_k_X2_testHolds, w ∈ lw_tbl := List.forall_mem_cons.mpr ⟨lw_one _ 4 149 rfl, (List.forall_mem_append.mpr ⟨(lw_mem _ [(4, 138), (4, 139), (4, 140), (1, 4)] rfl), (List.forall_mem_append.mpr ⟨mu_X4, mvs_k_X2_valueOf⟩)⟩)⟩
set_option maxRecDepth 100000 in
theorem mvs_k_X2_atomOf : ∀ w ∈ vs_k_X2_atomOf, w ∈ lw_tbl := List.forall_mem_cons.mpr ⟨lw_one _ 4 137 rfl, (List.forall_mem_append.mpr ⟨(lw_mem _ [(4, 138), (4, 139), (4, 140), (1, 4)] rfl), (List.forall_mem_append.mpr ⟨mu_X4, mvs_k_X2_valueOf⟩)⟩)⟩
set_option maxRecDepth 100000 in
theorem mvs_k_X1_contains : ∀ w ∈ vs_k_X1_contains, w ∈ lw_tbl := List.forall_mem_cons.mpr ⟨lw_one _ 4 145 rfl, (List.forall_mem_append.mpr ⟨(lw_mem _ [(1, 121)] rfl), mu_X1⟩)⟩
set_option maxRecDepth 100000 in
theorem mvs_k_X3_mayHoldOne : ∀ w ∈ vs_k_X3_mayHoldOne, w ∈ lw_tbl := List.forall_mem_cons.mpr ⟨lw_one _ 4 133 rfl, (List.forall_mem_append.mpr ⟨(lw_mem _ [(1, 127), (4, 146), (4, 147), (4, 148), (1, 4), (1, 130), (4, 134), (4, 135), (4, 136), (4, 142), (4, 143), (4, 144), (1, 5), (1, 155), (1, 133)] rfl), (List.forall_mem_append.mpr ⟨mu_X4, (List.forall_mem_append.mpr ⟨mu_X3, (List.forall_mem_append.mpr ⟨mvs_k_X2_testHolds, (List.forall_mem_append.mpr ⟨mvs_k_X2_atomOf, mvs_k_X1_contains⟩)⟩)⟩)⟩)⟩)⟩
set_option maxRecDepth 100000 in
theorem mvs_k_X3_mayHold : ∀ w ∈ vs_k_X3_mayHold, w ∈ lw_tbl := List.forall_mem_cons.mpr ⟨lw_one _ 4 128 rfl, (List.forall_mem_append.mpr ⟨(lw_mem _ [(4, 129), (4, 109), (4, 110), (1, 18), (4, 130), (4, 132), (0, 12), (1, 3)] rfl), (List.forall_mem_append.mpr ⟨mu_X8, (List.forall_mem_append.mpr ⟨mvs_k_X8_conditionAt, (List.forall_mem_append.mpr ⟨mu_X4, mvs_k_X3_mayHoldOne⟩)⟩)⟩)⟩)⟩
set_option maxRecDepth 100000 in
theorem mvs_k_X4_names : ∀ w ∈ vs_k_X4_names, w ∈ lw_tbl := List.forall_mem_cons.mpr ⟨lw_one _ 4 162 rfl, (List.forall_mem_append.mpr ⟨(lw_mem _ [(3, 160), (3, 164)] rfl), mu_X4⟩)⟩
set_option maxRecDepth 100000 in
theorem mvs_k_X8_headAt : ∀ w ∈ vs_k_X8_headAt, w ∈ lw_tbl := List.forall_mem_cons.mpr ⟨lw_one _ 4 158 rfl, (List.forall_mem_append.mpr ⟨(lw_mem _ [(3, 40), (3, 39)] rfl), mu_X8⟩)⟩
set_option maxRecDepth 100000 in
theorem mvs_k_X8_hasSpan : ∀ w ∈ vs_k_X8_hasSpan, w ∈ lw_tbl := List.forall_mem_cons.mpr ⟨lw_one _ 3 201 rfl, (List.forall_mem_append.mpr ⟨(lw_mem _ [(3, 32)] rfl), mu_X8⟩)⟩
set_option maxRecDepth 100000 in
theorem mvs_k_X8_valuesFor : ∀ w ∈ vs_k_X8_valuesFor, w ∈ lw_tbl := List.forall_mem_cons.mpr ⟨lw_one _ 4 153 rfl, (List.forall_mem_append.mpr ⟨(lw_mem _ [(3, 40), (3, 44), (4, 108), (4, 109), (4, 110), (1, 18), (4, 159), (4, 160), (4, 161), (1, 19), (4, 155), (4, 156), (4, 157), (4, 154), (3, 199), (3, 200)] rfl), (List.forall_mem_append.mpr ⟨mu_X8, (List.forall_mem_append.mpr ⟨mvs_k_X8_conditionAt, (List.forall_mem_append.mpr ⟨mvs_k_X4_names, (List.forall_mem_append.mpr ⟨mvs_k_X8_headAt, mvs_k_X8_hasSpan⟩)⟩)⟩)⟩)⟩)⟩
set_option maxRecDepth 100000 in
theorem mvs_k_X2_packed : ∀ w ∈ vs_k_X2_packed, w ∈ lw_tbl := List.forall_mem_cons.mpr ⟨lw_one _ 4 170 rfl, (List.forall_mem_append.mpr ⟨(lw_mem _ [(1, 98), (1, 100), (1, 102), (1, 104)] rfl), mu_X2⟩)⟩
set_option maxRecDepth 100000 in
theorem mvs_k_X2_atomOf_z : ∀ w ∈ vs_k_X2_atomOf_z, w ∈ lw_tbl := List.forall_mem_cons.mpr ⟨lw_one _ 4 137 rfl, (fun _ h => absurd h List.not_mem_nil)⟩
set_option maxRecDepth 100000 in
theorem mvs_k_X3_headAtomAt : ∀ w ∈ vs_k_X3_headAtomAt, w ∈ lw_tbl := List.forall_mem_cons.mpr ⟨lw_one _ 4 184 rfl, (List.forall_mem_append.mpr ⟨(lw_mem _ [(1, 136)] rfl), mu_X3⟩)⟩
set_option maxRecDepth 100000 in
theorem mvs_k_X3_listHead : ∀ w ∈ vs_k_X3_listHead, w ∈ lw_tbl := List.forall_mem_cons.mpr ⟨lw_one _ 4 180 rfl, (List.forall_mem_append.mpr ⟨(lw_mem _ [(1, 139), (1, 136), (4, 181), (4, 182), (4, 183), (1, 3)] rfl), (List.forall_mem_append.mpr ⟨mu_X3, mvs_k_X3_headAtomAt⟩)⟩)⟩
set_option maxRecDepth 100000 in
theorem mvs_k_X3_listHeads : ∀ w ∈ vs_k_X3_listHeads, w ∈ lw_tbl := List.forall_mem_cons.mpr ⟨lw_one _ 4 174 rfl, (List.forall_mem_append.mpr ⟨(lw_mem _ [(1, 139), (4, 175), (3, 199), (3, 200), (1, 18), (1, 127), (4, 176), (4, 156), (4, 157), (4, 134), (4, 135), (4, 136), (1, 4), (4, 177), (4, 179), (0, 14), (1, 3), (1, 130), (4, 142), (4, 143), (4, 144), (1, 5)] rfl), (List.forall_mem_append.mpr ⟨mu_X3, (List.forall_mem_append.mpr ⟨mvs_k_X8_hasSpan, (List.forall_mem_append.mpr ⟨mu_X8, (List.forall_mem_append.mpr ⟨mvs_k_X8_headAt, (List.forall_mem_append.mpr ⟨mvs_k_X2_atomOf_z, (List.forall_mem_append.mpr ⟨mvs_k_X3_listHead, (List.forall_mem_append.mpr ⟨mvs_k_X2_atomOf, (List.forall_mem_append.mpr ⟨mvs_k_X1_contains, mu_X2⟩)⟩)⟩)⟩)⟩)⟩)⟩)⟩)⟩)⟩
set_option maxRecDepth 100000 in
theorem mvs_k_X3_keep : ∀ w ∈ vs_k_X3_keep, w ∈ lw_tbl := List.forall_mem_cons.mpr ⟨lw_one _ 4 188 rfl, (List.forall_mem_append.mpr ⟨(lw_mem _ [(1, 145), (1, 142), (1, 140), (1, 141)] rfl), mu_X3⟩)⟩
set_option maxRecDepth 100000 in
theorem mvs_k_X3_takeInstance : ∀ w ∈ vs_k_X3_takeInstance, w ∈ lw_tbl := List.forall_mem_cons.mpr ⟨lw_one _ 4 166 rfl, (List.forall_mem_append.mpr ⟨(lw_mem _ [(1, 127), (4, 167), (4, 168), (4, 169), (1, 4), (4, 171), (4, 172), (4, 173), (1, 3), (1, 155), (1, 139), (4, 181), (4, 182), (4, 183), (4, 94), (4, 54), (4, 55), (1, 5), (1, 156), (1, 133), (1, 130), (4, 185), (4, 187), (0, 15)] rfl), (List.forall_mem_append.mpr ⟨mu_X3, (List.forall_mem_append.mpr ⟨mvs_k_X2_packed, (List.forall_mem_append.mpr ⟨mvs_k_X3_listHeads, (List.forall_mem_append.mpr ⟨mvs_k_X3_headAtomAt, (List.forall_mem_append.mpr ⟨mvs_k_X1_add, mvs_k_X3_keep⟩)⟩)⟩)⟩)⟩)⟩)⟩
set_option maxRecDepth 100000 in
theorem mvs_k_X3_eachInstance : ∀ w ∈ vs_k_X3_eachInstance, w ∈ lw_tbl := List.forall_mem_cons.mpr ⟨lw_one _ 4 124 rfl, (List.forall_mem_append.mpr ⟨(lw_mem _ [(1, 127), (4, 125), (4, 127), (0, 11), (1, 3), (4, 150), (4, 151), (4, 152), (1, 18), (4, 163), (4, 165), (0, 13)] rfl), (List.forall_mem_append.mpr ⟨mu_X3, (List.forall_mem_append.mpr ⟨mu_X2, (List.forall_mem_append.mpr ⟨mvs_k_X3_mayHold, (List.forall_mem_append.mpr ⟨mvs_k_X8_valuesFor, mvs_k_X3_takeInstance⟩)⟩)⟩)⟩)⟩)⟩
set_option maxRecDepth 100000 in
theorem mvs_k_X3_spread : ∀ w ∈ vs_k_X3_spread, w ∈ lw_tbl := List.forall_mem_cons.mpr ⟨lw_one _ 4 98 rfl, (List.forall_mem_append.mpr ⟨(lw_mem _ [(4, 99), (4, 101), (0, 9), (1, 3), (1, 126), (4, 103), (3, 105), (3, 106), (1, 2), (1, 156), (4, 120), (3, 238), (3, 239), (4, 121), (4, 123), (0, 10)] rfl), (List.forall_mem_append.mpr ⟨mvs_k_X3_rulesNeeding, (List.forall_mem_append.mpr ⟨mu_X3, (List.forall_mem_append.mpr ⟨mu_X6, (List.forall_mem_append.mpr ⟨mvs_k_X6_ruleAt, (List.forall_mem_append.mpr ⟨mu_X8, (List.forall_mem_append.mpr ⟨mvs_k_X6_parameterAt, mvs_k_X3_eachInstance⟩)⟩)⟩)⟩)⟩)⟩)⟩)⟩
set_option maxRecDepth 100000 in
theorem mvs_k_X3_keepInstances : ∀ w ∈ vs_k_X3_keepInstances, w ∈ lw_tbl := List.forall_mem_cons.mpr ⟨lw_one _ 4 192 rfl, (List.forall_mem_append.mpr ⟨(lw_mem _ [(1, 145), (1, 142), (1, 126), (4, 103), (3, 105), (3, 106), (1, 2), (4, 120), (3, 238), (3, 239), (4, 121), (4, 123), (0, 10), (1, 3)] rfl), (List.forall_mem_append.mpr ⟨mu_X3, (List.forall_mem_append.mpr ⟨mvs_k_X6_ruleAt, (List.forall_mem_append.mpr ⟨mu_X6, (List.forall_mem_append.mpr ⟨mu_X8, (List.forall_mem_append.mpr ⟨mvs_k_X6_parameterAt, mvs_k_X3_eachInstance⟩)⟩)⟩)⟩)⟩)⟩)⟩
set_option maxRecDepth 100000 in
theorem mvs_k_X3_numberOpenAtoms : ∀ w ∈ vs_k_X3_numberOpenAtoms, w ∈ lw_tbl := List.forall_mem_cons.mpr ⟨lw_one _ 4 196 rfl, (List.forall_mem_append.mpr ⟨(lw_mem _ [(1, 151), (1, 148), (1, 133), (4, 142), (4, 143), (4, 144), (1, 5), (1, 130), (1, 147)] rfl), (List.forall_mem_append.mpr ⟨mu_X3, mvs_k_X1_contains⟩)⟩)⟩
set_option maxRecDepth 100000 in
theorem mvs_k_X3_refresh : ∀ w ∈ vs_k_X3_refresh, w ∈ lw_tbl := List.forall_mem_cons.mpr ⟨lw_one _ 4 86 rfl, (List.forall_mem_append.mpr ⟨(lw_mem _ [(1, 153), (1, 130), (4, 87), (4, 76), (4, 77), (1, 5), (1, 133), (4, 88), (4, 90), (0, 7), (1, 3), (1, 155), (4, 95), (4, 97), (0, 8), (4, 189), (4, 191), (0, 16), (4, 193), (4, 195), (0, 17)] rfl), (List.forall_mem_append.mpr ⟨mu_X3, (List.forall_mem_append.mpr ⟨mvs_k_X1_clear, (List.forall_mem_append.mpr ⟨mvs_k_X3_beginWithExternals, (List.forall_mem_append.mpr ⟨mvs_k_X3_spread, (List.forall_mem_append.mpr ⟨mvs_k_X3_keepInstances, mvs_k_X3_numberOpenAtoms⟩)⟩)⟩)⟩)⟩)⟩)⟩
set_option maxRecDepth 100000 in
theorem ma_3 : ∀ w ∈ (vx_atS RX10 276 "java/lang/UnsupportedOperationException" ["java/lang/RuntimeException", "java/lang/Exception"]).filter goodWord, w ∈ lw_tbl := by decide +kernel
set_option maxRecDepth 100000 in
theorem mvs_k_X3_openNumberOf : ∀ w ∈ vs_k_X3_openNumberOf, w ∈ lw_tbl := List.forall_mem_cons.mpr ⟨lw_one _ 4 233 rfl, (List.forall_mem_append.mpr ⟨(lw_mem _ [(1, 148)] rfl), mu_X3⟩)⟩
set_option maxRecDepth 100000 in
theorem mvs_k_X9_bitOf : ∀ w ∈ vs_k_X9_bitOf, w ∈ lw_tbl := List.forall_mem_cons.mpr ⟨lw_one _ 4 229 rfl, (List.forall_mem_append.mpr ⟨(lw_mem _ [(1, 226), (4, 230), (4, 231), (4, 232), (1, 3)] rfl), (List.forall_mem_append.mpr ⟨mu_X9, (List.forall_mem_append.mpr ⟨mvs_k_X3_openNumberOf, mu_X3⟩)⟩)⟩)⟩
set_option maxRecDepth 100000 in
theorem mvs_k_X9_fitAssumptions : ∀ w ∈ vs_k_X9_fitAssumptions, w ∈ lw_tbl := List.forall_mem_cons.mpr ⟨lw_one _ 5 40 rfl, (List.forall_mem_append.mpr ⟨(lw_mem _ [(1, 237), (1, 238), (1, 239), (5, 41), (4, 143), (4, 144), (1, 5), (4, 226), (4, 228), (0, 19), (1, 6), (1, 226)] rfl), (List.forall_mem_append.mpr ⟨mu_X9, (List.forall_mem_append.mpr ⟨mvs_k_X1_contains, (List.forall_mem_append.mpr ⟨mvs_k_X9_bitOf, mu_X3⟩)⟩)⟩)⟩)⟩
set_option maxRecDepth 100000 in
theorem mvs_k_X8_hasCounts : ∀ w ∈ vs_k_X8_hasCounts, w ∈ lw_tbl := List.forall_mem_cons.mpr ⟨lw_one _ 5 4 rfl, (List.forall_mem_append.mpr ⟨(lw_mem _ [(3, 44), (4, 108), (4, 109), (4, 110), (1, 18), (4, 112), (4, 113), (4, 114), (1, 19)] rfl), (List.forall_mem_append.mpr ⟨mu_X8, (List.forall_mem_append.mpr ⟨mvs_k_X8_conditionAt, mvs_k_X4_isCount⟩)⟩)⟩)⟩
set_option maxRecDepth 100000 in
theorem mvs_k_X9_noteRules : ∀ w ∈ vs_k_X9_noteRules, w ∈ lw_tbl := List.forall_mem_cons.mpr ⟨lw_one _ 4 239 rfl, (List.forall_mem_append.mpr ⟨(lw_mem _ [(1, 234), (1, 235), (1, 225), (5, 0), (3, 105), (3, 106), (1, 2), (5, 1), (5, 2), (5, 3), (1, 18)] rfl), (List.forall_mem_append.mpr ⟨mu_X9, (List.forall_mem_append.mpr ⟨mu_X6, (List.forall_mem_append.mpr ⟨mvs_k_X6_ruleAt, (List.forall_mem_append.mpr ⟨mu_X8, mvs_k_X8_hasCounts⟩)⟩)⟩)⟩)⟩)⟩
set_option maxRecDepth 100000 in
theorem mvs_k_X2_unpack : ∀ w ∈ vs_k_X2_unpack, w ∈ lw_tbl := List.forall_mem_cons.mpr ⟨lw_one _ 5 16 rfl, (List.forall_mem_append.mpr ⟨(lw_mem _ [(1, 98), (1, 100), (1, 102), (1, 104)] rfl), mu_X2⟩)⟩
set_option maxRecDepth 100000 in
theorem mvs_k_X3_bindKept : ∀ w ∈ vs_k_X3_bindKept, w ∈ lw_tbl := List.forall_mem_cons.mpr ⟨lw_one _ 5 12 rfl, (List.forall_mem_append.mpr ⟨(lw_mem _ [(1, 127), (1, 141), (5, 13), (5, 14), (5, 15), (1, 4), (1, 126), (1, 140), (4, 103), (3, 105), (3, 106), (1, 2)] rfl), (List.forall_mem_append.mpr ⟨mu_X3, (List.forall_mem_append.mpr ⟨mvs_k_X2_unpack, mvs_k_X6_ruleAt⟩)⟩)⟩)⟩
set_option maxRecDepth 100000 in
theorem mvs_k_X3_keptRuleAt : ∀ w ∈ vs_k_X3_keptRuleAt, w ∈ lw_tbl := List.forall_mem_cons.mpr ⟨lw_one _ 5 22 rfl, (List.forall_mem_append.mpr ⟨(lw_mem _ [(1, 140)] rfl), mu_X3⟩)⟩
set_option maxRecDepth 100000 in
theorem mvs_k_X7_add : ∀ w ∈ vs_k_X7_add, w ∈ lw_tbl := List.forall_mem_cons.mpr ⟨lw_one _ 5 26 rfl, (List.forall_mem_append.mpr ⟨(lw_mem _ [(1, 208), (1, 202), (1, 203), (1, 204), (1, 205), (1, 206), (1, 207)] rfl), mu_X7⟩)⟩
set_option maxRecDepth 100000 in
theorem mvs_k_X7_boundLast : ∀ w ∈ vs_k_X7_boundLast, w ∈ lw_tbl := List.forall_mem_cons.mpr ⟨lw_one _ 5 36 rfl, (List.forall_mem_append.mpr ⟨(lw_mem _ [(1, 208), (1, 205), (1, 206), (1, 207)] rfl), mu_X7⟩)⟩
set_option maxRecDepth 100000 in
theorem mvs_k_X9_compileHeads : ∀ w ∈ vs_k_X9_compileHeads, w ∈ lw_tbl := List.forall_mem_cons.mpr ⟨lw_one _ 5 30 rfl, (List.forall_mem_append.mpr ⟨(lw_mem _ [(1, 226), (5, 31), (4, 172), (4, 173), (1, 3), (1, 227), (5, 23), (5, 24), (5, 25), (1, 7), (5, 33), (5, 34), (5, 35), (5, 32), (4, 182), (4, 183), (4, 226), (4, 228), (0, 19), (1, 6)] rfl), (List.forall_mem_append.mpr ⟨mu_X9, (List.forall_mem_append.mpr ⟨mvs_k_X3_listHeads, (List.forall_mem_append.mpr ⟨mu_X3, (List.forall_mem_append.mpr ⟨mu_X8, (List.forall_mem_append.mpr ⟨mvs_k_X7_add, (List.forall_mem_append.mpr ⟨mvs_k_X7_boundLast, (List.forall_mem_append.mpr ⟨mvs_k_X3_headAtomAt, mvs_k_X9_bitOf⟩)⟩)⟩)⟩)⟩)⟩)⟩)⟩)⟩
set_option maxRecDepth 100000 in
theorem mvs_k_X9_compileInstance : ∀ w ∈ vs_k_X9_compileInstance, w ∈ lw_tbl := List.forall_mem_cons.mpr ⟨lw_one _ 5 8 rfl, (List.forall_mem_append.mpr ⟨(lw_mem _ [(1, 226), (5, 9), (5, 10), (5, 11), (1, 3), (5, 19), (5, 20), (5, 21), (5, 27), (5, 29), (0, 22), (1, 6), (1, 228), (5, 23), (5, 24), (5, 25), (1, 7), (5, 17), (4, 109), (4, 110), (1, 18), (5, 18), (4, 135), (4, 136), (1, 4), (4, 226), (4, 228), (0, 19)] rfl), (List.forall_mem_append.mpr ⟨mu_X9, (List.forall_mem_append.mpr ⟨mvs_k_X3_bindKept, (List.forall_mem_append.mpr ⟨mu_X8, (List.forall_mem_append.mpr ⟨mvs_k_X3_keptRuleAt, (List.forall_mem_append.mpr ⟨mvs_k_X9_compileHeads, (List.forall_mem_append.mpr ⟨mvs_k_X7_add, (List.forall_mem_append.mpr ⟨mvs_k_X8_conditionAt, (List.forall_mem_append.mpr ⟨mu_X4, (List.forall_mem_append.mpr ⟨mu_X3, (List.forall_mem_append.mpr ⟨mvs_k_X2_atomOf, mvs_k_X9_bitOf⟩)⟩)⟩)⟩)⟩)⟩)⟩)⟩)⟩)⟩)⟩)⟩
set_option maxRecDepth 100000 in
theorem mvs_k_X3_openAtomAt : ∀ w ∈ vs_k_X3_openAtomAt, w ∈ lw_tbl := List.forall_mem_cons.mpr ⟨lw_one _ 4 225 rfl, (List.forall_mem_append.mpr ⟨(lw_mem _ [(1, 147)] rfl), mu_X3⟩)⟩
set_option maxRecDepth 100000 in
theorem mvs_k_X9_compile : ∀ w ∈ vs_k_X9_compile, w ∈ lw_tbl := List.forall_mem_cons.mpr ⟨lw_one _ 4 220 rfl, (List.forall_mem_append.mpr ⟨(lw_mem _ [(1, 226), (1, 236), (1, 225), (4, 236), (4, 238), (0, 20), (1, 6), (1, 227), (1, 228), (2, 0), (5, 5), (5, 7), (0, 21), (4, 234), (4, 36), (4, 37), (1, 2), (4, 235), (4, 21), (4, 22), (4, 226), (4, 228), (0, 19), (4, 222), (4, 223), (4, 224), (1, 3), (1, 231), (1, 232), (4, 221), (4, 62), (4, 63), (1, 5)] rfl), (List.forall_mem_append.mpr ⟨mu_X9, (List.forall_mem_append.mpr ⟨mu_X3, (List.forall_mem_append.mpr ⟨mu_X6, (List.forall_mem_append.mpr ⟨mvs_k_X9_noteRules, (List.forall_mem_append.mpr ⟨mu_X7, (List.forall_mem_append.mpr ⟨mvs_k_X9_compileInstance, (List.forall_mem_append.mpr ⟨mvs_k_X6_externalState, (List.forall_mem_append.mpr ⟨mvs_k_X6_externalAtom, (List.forall_mem_append.mpr ⟨mvs_k_X9_bitOf, (List.forall_mem_append.mpr ⟨mvs_k_X3_openAtomAt, mvs_k_X1_countOf⟩)⟩)⟩)⟩)⟩)⟩)⟩)⟩)⟩)⟩)⟩)⟩
set_option maxRecDepth 100000 in
theorem mvs_k_X9_prepare : ∀ w ∈ vs_k_X9_prepare, w ∈ lw_tbl := List.forall_mem_cons.mpr ⟨lw_one _ 4 216 rfl, (List.forall_mem_append.mpr ⟨(lw_mem _ [(2, 1), (5, 37), (5, 39), (0, 23), (1, 6), (4, 217), (4, 219), (0, 18)] rfl), (List.forall_mem_append.mpr ⟨mu_X9, (List.forall_mem_append.mpr ⟨mvs_k_X9_fitAssumptions, mvs_k_X9_compile⟩)⟩)⟩)⟩
set_option maxRecDepth 100000 in
theorem mvs_k_X9_fullSet : ∀ w ∈ vs_k_X9_fullSet, w ∈ lw_tbl := List.forall_mem_cons.mpr ⟨lw_one _ 5 49 rfl, (List.forall_mem_append.mpr ⟨(lw_mem _ [(1, 226), (5, 50), (5, 51), (1, 20), (5, 52)] rfl), (List.forall_mem_append.mpr ⟨mu_X9, mu_X3⟩)⟩)⟩
set_option maxRecDepth 100000 in
theorem mvs_k_X9_fits : ∀ w ∈ vs_k_X9_fits, w ∈ lw_tbl := List.forall_mem_cons.mpr ⟨lw_one _ 5 56 rfl, (List.forall_mem_append.mpr ⟨(lw_mem _ [(1, 239), (1, 237), (1, 238)] rfl), mu_X9⟩)⟩
set_option maxRecDepth 100000 in
theorem mvs_k_X9_countsHold_z : ∀ w ∈ vs_k_X9_countsHold_z, w ∈ lw_tbl := List.forall_mem_cons.mpr ⟨lw_one _ 5 69 rfl, (fun _ h => absurd h List.not_mem_nil)⟩
set_option maxRecDepth 100000 in
theorem mvs_k_X9_countHolds : ∀ w ∈ vs_k_X9_countHolds, w ∈ lw_tbl := List.forall_mem_cons.mpr ⟨lw_one _ 5 74 rfl, (List.forall_mem_append.mpr ⟨(lw_mem _ [(1, 232), (1, 231), (5, 75), (5, 76), (1, 23)] rfl), (List.forall_mem_append.mpr ⟨mu_X4, (List.forall_mem_append.mpr ⟨mu_X9, mvs_k_J6_bitCount_0f7a4⟩)⟩)⟩)⟩
set_option maxRecDepth 100000 in
theorem mvs_k_X9_countsHold : ∀ w ∈ vs_k_X9_countsHold, w ∈ lw_tbl := List.forall_mem_cons.mpr ⟨lw_one _ 5 69 rfl, (List.forall_mem_append.mpr ⟨(lw_mem _ [(5, 17), (4, 109), (4, 110), (1, 18), (5, 70), (4, 113), (4, 114), (1, 19), (5, 71), (5, 73), (0, 29), (1, 6)] rfl), (List.forall_mem_append.mpr ⟨mu_X8, (List.forall_mem_append.mpr ⟨mvs_k_X8_conditionAt, (List.forall_mem_append.mpr ⟨mvs_k_X4_isCount, mvs_k_X9_countHolds⟩)⟩)⟩)⟩)⟩
set_option maxRecDepth 100000 in
theorem mvs_k_X9_countsHeld : ∀ w ∈ vs_k_X9_countsHeld, w ∈ lw_tbl := List.forall_mem_cons.mpr ⟨lw_one _ 5 64 rfl, (List.forall_mem_append.mpr ⟨(lw_mem _ [(5, 65), (1, 235), (1, 225), (5, 0), (3, 105), (3, 106), (1, 2), (5, 66), (5, 68), (0, 28), (1, 6)] rfl), (List.forall_mem_append.mpr ⟨mu_X9, (List.forall_mem_append.mpr ⟨mvs_k_X6_ruleAt, (List.forall_mem_append.mpr ⟨mvs_k_X9_countsHold_z, mvs_k_X9_countsHold⟩)⟩)⟩)⟩)⟩
set_option maxRecDepth 100000 in
theorem mvs_k_X7_bodyHolds : ∀ w ∈ vs_k_X7_bodyHolds, w ∈ lw_tbl := List.forall_mem_cons.mpr ⟨lw_one _ 5 88 rfl, (List.forall_mem_append.mpr ⟨(lw_mem _ [(1, 203), (1, 204), (1, 202)] rfl), mu_X7⟩)⟩
set_option maxRecDepth 100000 in
theorem mvs_k_X7_isBroken : ∀ w ∈ vs_k_X7_isBroken, w ∈ lw_tbl := List.forall_mem_cons.mpr ⟨lw_one _ 5 84 rfl, (List.forall_mem_append.mpr ⟨(lw_mem _ [(5, 85), (5, 86), (5, 87), (1, 7), (1, 205), (5, 89), (5, 76), (1, 23), (1, 206), (1, 207)] rfl), (List.forall_mem_append.mpr ⟨mvs_k_X7_bodyHolds, (List.forall_mem_append.mpr ⟨mu_X7, mvs_k_J6_bitCount_0f7a4⟩)⟩)⟩)⟩
set_option maxRecDepth 100000 in
theorem mvs_k_X9_isModel : ∀ w ∈ vs_k_X9_isModel, w ∈ lw_tbl := List.forall_mem_cons.mpr ⟨lw_one _ 5 60 rfl, (List.forall_mem_append.mpr ⟨(lw_mem _ [(5, 61), (5, 63), (0, 27), (1, 6), (2, 0), (1, 227), (5, 81), (5, 82), (5, 83), (1, 7)] rfl), (List.forall_mem_append.mpr ⟨mvs_k_X9_countsHeld, (List.forall_mem_append.mpr ⟨mu_X9, (List.forall_mem_append.mpr ⟨mu_X7, mvs_k_X7_isBroken⟩)⟩)⟩)⟩)⟩
set_option maxRecDepth 100000 in
theorem mvs_k_X7_headsAt : ∀ w ∈ vs_k_X7_headsAt, w ∈ lw_tbl := List.forall_mem_cons.mpr ⟨lw_one _ 5 101 rfl, (List.forall_mem_append.mpr ⟨(lw_mem _ [(1, 205)] rfl), mu_X7⟩)⟩
set_option maxRecDepth 100000 in
theorem mvs_k_X9_listActive : ∀ w ∈ vs_k_X9_listActive, w ∈ lw_tbl := List.forall_mem_cons.mpr ⟨lw_one _ 5 97 rfl, (List.forall_mem_append.mpr ⟨(lw_mem _ [(5, 61), (5, 63), (0, 27), (1, 6), (1, 230), (1, 227), (5, 98), (5, 99), (5, 100), (1, 7), (5, 102), (5, 86), (5, 87), (1, 229)] rfl), (List.forall_mem_append.mpr ⟨mvs_k_X9_countsHeld, (List.forall_mem_append.mpr ⟨mu_X9, (List.forall_mem_append.mpr ⟨mu_X7, (List.forall_mem_append.mpr ⟨mvs_k_X7_headsAt, mvs_k_X7_bodyHolds⟩)⟩)⟩)⟩)⟩)⟩
set_option maxRecDepth 100000 in
theorem mvs_k_X7_ruleAt : ∀ w ∈ vs_k_X7_ruleAt, w ∈ lw_tbl := List.forall_mem_cons.mpr ⟨lw_one _ 5 115 rfl, (List.forall_mem_append.mpr ⟨(lw_mem _ [(1, 202)] rfl), mu_X7⟩)⟩
set_option maxRecDepth 100000 in
theorem mvs_k_X9_isChoice : ∀ w ∈ vs_k_X9_isChoice, w ∈ lw_tbl := List.forall_mem_cons.mpr ⟨lw_one _ 5 111 rfl, (List.forall_mem_append.mpr ⟨(lw_mem _ [(1, 227), (5, 112), (5, 113), (5, 114), (1, 7), (1, 234)] rfl), (List.forall_mem_append.mpr ⟨mu_X9, mvs_k_X7_ruleAt⟩)⟩)⟩
set_option maxRecDepth 100000 in
theorem mvs_k_X9_doesFor : ∀ w ∈ vs_k_X9_doesFor, w ∈ lw_tbl := List.forall_mem_cons.mpr ⟨lw_one _ 6 12 rfl, (List.forall_mem_append.mpr ⟨(lw_mem _ [(1, 236), (5, 61), (5, 63), (0, 27), (1, 6), (1, 230), (1, 229), (1, 227), (5, 98), (5, 99), (5, 100), (1, 7), (5, 108), (5, 110), (0, 33), (5, 102), (5, 86), (5, 87)] rfl), (List.forall_mem_append.mpr ⟨mu_X9, (List.forall_mem_append.mpr ⟨mvs_k_X9_countsHeld, (List.forall_mem_append.mpr ⟨mvs_k_X7_headsAt, (List.forall_mem_append.mpr ⟨mvs_k_X9_isChoice, mvs_k_X7_bodyHolds⟩)⟩)⟩)⟩)⟩)⟩
set_option maxRecDepth 100000 in
theorem mvs_k_X9_hasSmallerByAll : ∀ w ∈ vs_k_X9_hasSmallerByAll, w ∈ lw_tbl := List.forall_mem_cons.mpr ⟨lw_one _ 6 8 rfl, (List.forall_mem_append.mpr ⟨(lw_mem _ [(5, 94), (5, 96), (0, 31), (1, 6), (6, 9), (6, 11), (0, 45)] rfl), (List.forall_mem_append.mpr ⟨mvs_k_X9_listActive, mvs_k_X9_doesFor⟩)⟩)⟩
set_option maxRecDepth 100000 in
theorem mvs_k_X9_countByAll : ∀ w ∈ vs_k_X9_countByAll, w ∈ lw_tbl := List.forall_mem_cons.mpr ⟨lw_one _ 6 4 rfl, (List.forall_mem_append.mpr ⟨(lw_mem _ [(5, 46), (5, 48), (0, 24), (1, 6), (5, 53), (5, 55), (0, 25), (5, 57), (5, 59), (0, 26), (6, 5), (6, 7), (0, 44)] rfl), (List.forall_mem_append.mpr ⟨mvs_k_X9_fullSet, (List.forall_mem_append.mpr ⟨mvs_k_X9_fits, (List.forall_mem_append.mpr ⟨mvs_k_X9_isModel, mvs_k_X9_hasSmallerByAll⟩)⟩)⟩)⟩)⟩
set_option maxRecDepth 100000 in
theorem mvs_k_X10_walkByAll : ∀ w ∈ vs_k_X10_walkByAll, w ∈ lw_tbl := List.forall_mem_cons.mpr ⟨lw_one _ 5 239 rfl, (List.forall_mem_append.mpr ⟨(lw_mem _ [(2, 75), (4, 83), (4, 84), (4, 85), (1, 3), (4, 197), (1, 22), (2, 76), (2, 78), (2, 79), (4, 213), (4, 214), (4, 215), (1, 6), (6, 1), (6, 2), (6, 3)] rfl), (List.forall_mem_append.mpr ⟨mu_X10, (List.forall_mem_append.mpr ⟨mvs_k_X3_refresh, (List.forall_mem_append.mpr ⟨mu_X3, (List.forall_mem_append.mpr ⟨ma_3, (List.forall_mem_append.mpr ⟨mvs_k_X9_prepare, mvs_k_X9_countByAll⟩)⟩)⟩)⟩)⟩)⟩)⟩
set_option maxRecDepth 100000 in
theorem mvs_k_L_asked_4 : ∀ w ∈ vs_k_L_asked_4, w ∈ lw_tbl := List.forall_mem_cons.mpr ⟨lw_one _ 5 178 rfl, (List.forall_mem_append.mpr ⟨(lw_mem _ [(5, 236), (5, 237), (5, 238), (1, 1)] rfl), mvs_k_X10_walkByAll⟩)⟩
set_option maxRecDepth 100000 in
theorem mvs_k_L_ask_4 : ∀ w ∈ vs_k_L_ask_4, w ∈ lw_tbl := List.forall_mem_cons.mpr ⟨lw_one _ 5 174 rfl, (List.forall_mem_append.mpr ⟨(lw_mem _ [(5, 176), (5, 177), (1, 0), (2, 110), (2, 190), (2, 191), (2, 192)] rfl), mvs_k_L_asked_4⟩)⟩
set_option maxRecDepth 100000 in
theorem mvs_k_X10_checkWalk : ∀ w ∈ vs_k_X10_checkWalk, w ∈ lw_tbl := List.forall_mem_cons.mpr ⟨lw_one _ 6 24 rfl, (List.forall_mem_append.mpr ⟨(lw_mem _ [(2, 80), (2, 216), (1, 17)] rfl), (List.forall_mem_append.mpr ⟨mu_X10, (List.forall_mem_append.mpr ⟨mu_X0, ma_1⟩)⟩)⟩)⟩
set_option maxRecDepth 100000 in
theorem ma_4 : ∀ w ∈ (vx_atSX RX10 337 "java/util/NoSuchElementException" ["java/lang/RuntimeException", "java/lang/Exception"]).filter goodWord, w ∈ lw_tbl := by decide +kernel
set_option maxRecDepth 100000 in
theorem mvs_k_X0_setAt : ∀ w ∈ vs_k_X0_setAt, w ∈ lw_tbl := List.forall_mem_cons.mpr ⟨lw_one _ 6 30 rfl, (List.forall_mem_append.mpr ⟨(lw_mem _ [(2, 59)] rfl), mu_X0⟩)⟩
set_option maxRecDepth 100000 in
theorem mvs_k_X9_isIn : ∀ w ∈ vs_k_X9_isIn, w ∈ lw_tbl := List.forall_mem_cons.mpr ⟨lw_one _ 6 34 rfl, (List.forall_mem_append.mpr ⟨(lw_mem _ [(1, 226), (5, 41), (4, 143), (4, 144), (1, 5), (4, 226), (4, 228), (0, 19), (1, 6)] rfl), (List.forall_mem_append.mpr ⟨mu_X9, (List.forall_mem_append.mpr ⟨mu_X3, (List.forall_mem_append.mpr ⟨mvs_k_X1_contains, mvs_k_X9_bitOf⟩)⟩)⟩)⟩)⟩
set_option maxRecDepth 100000 in
theorem mvs_k_X10_answersWith : ∀ w ∈ vs_k_X10_answersWith, w ∈ lw_tbl := List.forall_mem_cons.mpr ⟨lw_one _ 6 77 rfl, (List.forall_mem_append.mpr ⟨(lw_mem _ [(2, 80), (2, 76), (6, 27), (6, 28), (6, 29), (1, 9), (6, 31), (6, 32), (6, 33), (1, 6)] rfl), (List.forall_mem_append.mpr ⟨mu_X10, (List.forall_mem_append.mpr ⟨mu_X0, (List.forall_mem_append.mpr ⟨mvs_k_X0_setAt, mvs_k_X9_isIn⟩)⟩)⟩)⟩)⟩
set_option maxRecDepth 100000 in
theorem mvs_k_X10_commonest : ∀ w ∈ vs_k_X10_commonest, w ∈ lw_tbl := List.forall_mem_cons.mpr ⟨lw_one _ 6 120 rfl, (List.forall_mem_append.mpr ⟨(lw_mem _ [(6, 21), (6, 23), (0, 47), (1, 1), (2, 75), (6, 101), (1, 27), (2, 80), (6, 122), (4, 223), (4, 224), (1, 3), (6, 74), (6, 76), (0, 48)] rfl), (List.forall_mem_append.mpr ⟨mvs_k_X10_checkWalk, (List.forall_mem_append.mpr ⟨mu_X10, (List.forall_mem_append.mpr ⟨mu_X3, (List.forall_mem_append.mpr ⟨ma_4, (List.forall_mem_append.mpr ⟨mu_X0, (List.forall_mem_append.mpr ⟨mvs_k_X3_openAtomAt, mvs_k_X10_answersWith⟩)⟩)⟩)⟩)⟩)⟩)⟩)⟩
set_option maxRecDepth 100000 in
theorem mvs_k_L_asked_12 : ∀ w ∈ vs_k_L_asked_12, w ∈ lw_tbl := List.forall_mem_cons.mpr ⟨lw_one _ 5 178 rfl, (List.forall_mem_append.mpr ⟨(lw_mem _ [(6, 117), (6, 118), (6, 119), (1, 1)] rfl), mvs_k_X10_commonest⟩)⟩
set_option maxRecDepth 100000 in
theorem mvs_k_L_ask_12 : ∀ w ∈ vs_k_L_ask_12, w ∈ lw_tbl := List.forall_mem_cons.mpr ⟨lw_one _ 5 174 rfl, (List.forall_mem_append.mpr ⟨(lw_mem _ [(5, 176), (5, 177), (1, 0), (2, 110), (2, 190), (2, 191), (2, 192), (5, 175)] rfl), mvs_k_L_asked_12⟩)⟩
set_option maxRecDepth 100000 in
theorem mvs_k_X10_state : ∀ w ∈ vs_k_X10_state, w ∈ lw_tbl := List.forall_mem_cons.mpr ⟨lw_one _ 5 182 rfl, (List.forall_mem_append.mpr ⟨(lw_mem _ [(4, 10), (4, 12), (0, 6), (1, 1), (2, 75), (4, 83), (4, 84), (4, 85), (1, 3), (5, 183), (4, 143), (4, 144), (1, 5)] rfl), (List.forall_mem_append.mpr ⟨mvs_k_X10_checkedAtom, (List.forall_mem_append.mpr ⟨mu_X10, (List.forall_mem_append.mpr ⟨mvs_k_X3_refresh, (List.forall_mem_append.mpr ⟨mu_X3, mvs_k_X1_contains⟩)⟩)⟩)⟩)⟩)⟩
set_option maxRecDepth 100000 in
theorem mvs_k_L_asked_0 : ∀ w ∈ vs_k_L_asked_0, w ∈ lw_tbl := List.forall_mem_cons.mpr ⟨lw_one _ 5 178 rfl, (List.forall_mem_append.mpr ⟨(lw_mem _ [(5, 179), (5, 180), (5, 181), (1, 1)] rfl), mvs_k_X10_state⟩)⟩
set_option maxRecDepth 100000 in
theorem mvs_k_L_ask_0 : ∀ w ∈ vs_k_L_ask_0, w ∈ lw_tbl := List.forall_mem_cons.mpr ⟨lw_one _ 5 174 rfl, (List.forall_mem_append.mpr ⟨(lw_mem _ [(5, 176), (5, 177), (1, 0), (2, 110), (2, 190)] rfl), mvs_k_L_asked_0⟩)⟩
set_option maxRecDepth 100000 in
theorem mvs_k_X10_open : ∀ w ∈ vs_k_X10_open, w ∈ lw_tbl := List.forall_mem_cons.mpr ⟨lw_one _ 5 187 rfl, (List.forall_mem_append.mpr ⟨(lw_mem _ [(2, 75), (4, 83), (4, 84), (4, 85), (1, 3)] rfl), (List.forall_mem_append.mpr ⟨mu_X10, (List.forall_mem_append.mpr ⟨mvs_k_X3_refresh, mu_X3⟩)⟩)⟩)⟩
set_option maxRecDepth 100000 in
theorem mvs_k_L_asked_1 : ∀ w ∈ vs_k_L_asked_1, w ∈ lw_tbl := List.forall_mem_cons.mpr ⟨lw_one _ 5 178 rfl, (List.forall_mem_append.mpr ⟨(lw_mem _ [(5, 184), (5, 185), (5, 186), (1, 1)] rfl), mvs_k_X10_open⟩)⟩
set_option maxRecDepth 100000 in
theorem mvs_k_L_ask_1 : ∀ w ∈ vs_k_L_ask_1, w ∈ lw_tbl := List.forall_mem_cons.mpr ⟨lw_one _ 5 174 rfl, (List.forall_mem_append.mpr ⟨(lw_mem _ [(5, 176), (5, 177), (1, 0)] rfl), mvs_k_L_asked_1⟩)⟩
set_option maxRecDepth 100000 in
theorem mvs_k_X10_holds : ∀ w ∈ vs_k_X10_holds, w ∈ lw_tbl := List.forall_mem_cons.mpr ⟨lw_one _ 6 73 rfl, (List.forall_mem_append.mpr ⟨(lw_mem _ [(6, 21), (6, 23), (0, 47), (1, 1), (4, 10), (4, 12), (0, 6), (6, 74), (6, 76), (0, 48), (2, 80)] rfl), (List.forall_mem_append.mpr ⟨mvs_k_X10_checkWalk, (List.forall_mem_append.mpr ⟨mvs_k_X10_checkedAtom, (List.forall_mem_append.mpr ⟨mvs_k_X10_answersWith, (List.forall_mem_append.mpr ⟨mu_X10, mu_X0⟩)⟩)⟩)⟩)⟩)⟩
set_option maxRecDepth 100000 in
theorem mvs_k_L_asked_10 : ∀ w ∈ vs_k_L_asked_10, w ∈ lw_tbl := List.forall_mem_cons.mpr ⟨lw_one _ 5 178 rfl, (List.forall_mem_append.mpr ⟨(lw_mem _ [(6, 70), (6, 71), (6, 72), (1, 1)] rfl), mvs_k_X10_holds⟩)⟩
set_option maxRecDepth 100000 in
theorem mvs_k_L_ask_10 : ∀ w ∈ vs_k_L_ask_10, w ∈ lw_tbl := List.forall_mem_cons.mpr ⟨lw_one _ 5 174 rfl, (List.forall_mem_append.mpr ⟨(lw_mem _ [(5, 176), (5, 177), (1, 0), (2, 110), (2, 190), (2, 191)] rfl), mvs_k_L_asked_10⟩)⟩
set_option maxRecDepth 100000 in
theorem mvs_k_X9_openBitsOf : ∀ w ∈ vs_k_X9_openBitsOf, w ∈ lw_tbl := List.forall_mem_cons.mpr ⟨lw_one _ 6 64 rfl, (List.forall_mem_append.mpr ⟨(lw_mem _ [(1, 231)] rfl), mu_X9⟩)⟩
set_option maxRecDepth 100000 in
theorem mvs_k_X0_countDifferent : ∀ w ∈ vs_k_X0_countDifferent, w ∈ lw_tbl := List.forall_mem_cons.mpr ⟨lw_one _ 6 68 rfl, (List.forall_mem_append.mpr ⟨(lw_mem _ [(2, 61), (6, 69), (6, 28), (6, 29), (1, 9)] rfl), (List.forall_mem_append.mpr ⟨mu_X0, mvs_k_X0_setAt⟩)⟩)⟩
set_option maxRecDepth 100000 in
theorem mvs_k_X10_projected : ∀ w ∈ vs_k_X10_projected, w ∈ lw_tbl := List.forall_mem_cons.mpr ⟨lw_one _ 6 60 rfl, (List.forall_mem_append.mpr ⟨(lw_mem _ [(6, 21), (6, 23), (0, 47), (1, 1), (2, 74), (3, 108), (3, 86), (3, 87), (1, 2), (2, 80), (2, 76), (6, 61), (6, 62), (6, 63), (1, 6), (6, 65), (6, 66), (6, 67), (1, 9), (3, 109), (1, 13)] rfl), (List.forall_mem_append.mpr ⟨mvs_k_X10_checkWalk, (List.forall_mem_append.mpr ⟨mu_X10, (List.forall_mem_append.mpr ⟨mvs_k_X6_hasPredicate, (List.forall_mem_append.mpr ⟨mvs_k_X9_openBitsOf, (List.forall_mem_append.mpr ⟨mvs_k_X0_countDifferent, ma_2⟩)⟩)⟩)⟩)⟩)⟩)⟩
set_option maxRecDepth 100000 in
theorem mvs_k_L_asked_9 : ∀ w ∈ vs_k_L_asked_9, w ∈ lw_tbl := List.forall_mem_cons.mpr ⟨lw_one _ 5 178 rfl, (List.forall_mem_append.mpr ⟨(lw_mem _ [(6, 57), (6, 58), (6, 59), (1, 1)] rfl), mvs_k_X10_projected⟩)⟩
set_option maxRecDepth 100000 in
theorem mvs_k_L_ask_9 : ∀ w ∈ vs_k_L_ask_9, w ∈ lw_tbl := List.forall_mem_cons.mpr ⟨lw_one _ 5 174 rfl, (List.forall_mem_append.mpr ⟨(lw_mem _ [(5, 176), (5, 177), (1, 0), (2, 110), (2, 190), (2, 191)] rfl), mvs_k_L_asked_9⟩)⟩
set_option maxRecDepth 100000 in
theorem ma_5 : ∀ w ∈ (vx_atS RX10 342 "java/lang/ArithmeticException" ["java/lang/RuntimeException", "java/lang/Exception"]).filter goodWord, w ∈ lw_tbl := by decide +kernel
set_option maxRecDepth 100000 in
theorem mvs_k_X10_share : ∀ w ∈ vs_k_X10_share, w ∈ lw_tbl := List.forall_mem_cons.mpr ⟨lw_one _ 6 152 rfl, (List.forall_mem_append.mpr ⟨(lw_mem _ [(6, 21), (6, 23), (0, 47), (1, 1), (4, 10), (4, 12), (0, 6), (2, 80), (6, 74), (6, 76), (0, 48), (6, 133), (1, 28)] rfl), (List.forall_mem_append.mpr ⟨mvs_k_X10_checkWalk, (List.forall_mem_append.mpr ⟨mvs_k_X10_checkedAtom, (List.forall_mem_append.mpr ⟨mu_X10, (List.forall_mem_append.mpr ⟨mu_X0, (List.forall_mem_append.mpr ⟨mvs_k_X10_answersWith, ma_5⟩)⟩)⟩)⟩)⟩)⟩)⟩
set_option maxRecDepth 100000 in
theorem mvs_k_X0_costAt : ∀ w ∈ vs_k_X0_costAt, w ∈ lw_tbl := List.forall_mem_cons.mpr ⟨lw_one _ 5 135 rfl, (List.forall_mem_append.mpr ⟨(lw_mem _ [(2, 60)] rfl), mu_X0⟩)⟩
set_option maxRecDepth 100000 in
theorem mvs_k_X0_countBest : ∀ w ∈ vs_k_X0_countBest, w ∈ lw_tbl := List.forall_mem_cons.mpr ⟨lw_one _ 6 56 rfl, (List.forall_mem_append.mpr ⟨(lw_mem _ [(2, 61), (5, 132), (5, 133), (5, 134), (1, 9)] rfl), (List.forall_mem_append.mpr ⟨mu_X0, mvs_k_X0_costAt⟩)⟩)⟩
set_option maxRecDepth 100000 in
theorem mvs_k_X10_best : ∀ w ∈ vs_k_X10_best, w ∈ lw_tbl := List.forall_mem_cons.mpr ⟨lw_one _ 6 52 rfl, (List.forall_mem_append.mpr ⟨(lw_mem _ [(6, 21), (6, 23), (0, 47), (1, 1), (2, 80), (6, 53), (6, 54), (6, 55), (1, 9)] rfl), (List.forall_mem_append.mpr ⟨mvs_k_X10_checkWalk, (List.forall_mem_append.mpr ⟨mu_X10, mvs_k_X0_countBest⟩)⟩)⟩)⟩
set_option maxRecDepth 100000 in
theorem mvs_k_L_asked_8 : ∀ w ∈ vs_k_L_asked_8, w ∈ lw_tbl := List.forall_mem_cons.mpr ⟨lw_one _ 5 178 rfl, (List.forall_mem_append.mpr ⟨(lw_mem _ [(6, 49), (6, 50), (6, 51), (1, 1)] rfl), mvs_k_X10_best⟩)⟩
set_option maxRecDepth 100000 in
theorem mvs_k_L_ask_8 : ∀ w ∈ vs_k_L_ask_8, w ∈ lw_tbl := List.forall_mem_cons.mpr ⟨lw_one _ 5 174 rfl, (List.forall_mem_append.mpr ⟨(lw_mem _ [(5, 176), (5, 177), (1, 0), (2, 110), (2, 190), (2, 191)] rfl), mvs_k_L_asked_8⟩)⟩
set_option maxRecDepth 100000 in
theorem mvs_k_X9_sizeOf : ∀ w ∈ vs_k_X9_sizeOf, w ∈ lw_tbl := List.forall_mem_cons.mpr ⟨lw_one _ 6 42 rfl, (List.forall_mem_append.mpr ⟨(lw_mem _ [(1, 226), (6, 43), (4, 58), (4, 59), (1, 5), (5, 75), (5, 76), (1, 23)] rfl), (List.forall_mem_append.mpr ⟨mu_X9, (List.forall_mem_append.mpr ⟨mu_X3, (List.forall_mem_append.mpr ⟨mvs_k_X1_count, mvs_k_J6_bitCount_0f7a4⟩)⟩)⟩)⟩)⟩
set_option maxRecDepth 100000 in
theorem mvs_k_X10_meanSize : ∀ w ∈ vs_k_X10_meanSize, w ∈ lw_tbl := List.forall_mem_cons.mpr ⟨lw_one _ 6 132 rfl, (List.forall_mem_append.mpr ⟨(lw_mem _ [(6, 21), (6, 23), (0, 47), (1, 1), (2, 80), (2, 76), (6, 27), (6, 28), (6, 29), (1, 9), (6, 39), (6, 40), (6, 41), (1, 6), (6, 133), (1, 28)] rfl), (List.forall_mem_append.mpr ⟨mvs_k_X10_checkWalk, (List.forall_mem_append.mpr ⟨mu_X10, (List.forall_mem_append.mpr ⟨mu_X0, (List.forall_mem_append.mpr ⟨mvs_k_X0_setAt, (List.forall_mem_append.mpr ⟨mvs_k_X9_sizeOf, ma_5⟩)⟩)⟩)⟩)⟩)⟩)⟩
set_option maxRecDepth 100000 in
theorem mvs_k_X10_checkedAnswer : ∀ w ∈ vs_k_X10_checkedAnswer, w ∈ lw_tbl := List.forall_mem_cons.mpr ⟨lw_one _ 6 20 rfl, (List.forall_mem_append.mpr ⟨(lw_mem _ [(6, 21), (6, 23), (0, 47), (1, 1), (3, 109), (1, 13), (2, 80), (6, 27), (6, 28), (6, 29), (1, 9)] rfl), (List.forall_mem_append.mpr ⟨mvs_k_X10_checkWalk, (List.forall_mem_append.mpr ⟨ma_2, (List.forall_mem_append.mpr ⟨mu_X10, (List.forall_mem_append.mpr ⟨mu_X0, mvs_k_X0_setAt⟩)⟩)⟩)⟩)⟩)⟩
set_option maxRecDepth 100000 in
theorem mvs_k_X10_has : ∀ w ∈ vs_k_X10_has, w ∈ lw_tbl := List.forall_mem_cons.mpr ⟨lw_one _ 6 16 rfl, (List.forall_mem_append.mpr ⟨(lw_mem _ [(6, 17), (6, 19), (0, 46), (1, 1), (2, 76), (4, 10), (4, 12), (0, 6), (6, 31), (6, 32), (6, 33), (1, 6)] rfl), (List.forall_mem_append.mpr ⟨mvs_k_X10_checkedAnswer, (List.forall_mem_append.mpr ⟨mu_X10, (List.forall_mem_append.mpr ⟨mvs_k_X10_checkedAtom, mvs_k_X9_isIn⟩)⟩)⟩)⟩)⟩
set_option maxRecDepth 100000 in
theorem mvs_k_L_asked_5 : ∀ w ∈ vs_k_L_asked_5, w ∈ lw_tbl := List.forall_mem_cons.mpr ⟨lw_one _ 5 178 rfl, (List.forall_mem_append.mpr ⟨(lw_mem _ [(6, 13), (6, 14), (6, 15), (1, 1), (2, 104), (2, 105), (1, 0)] rfl), (List.forall_mem_append.mpr ⟨mvs_k_X10_has, mvs_k_L_told⟩)⟩)⟩
set_option maxRecDepth 100000 in
theorem mvs_k_L_ask_5 : ∀ w ∈ vs_k_L_ask_5, w ∈ lw_tbl := List.forall_mem_cons.mpr ⟨lw_one _ 5 174 rfl, (List.forall_mem_append.mpr ⟨(lw_mem _ [(5, 176), (5, 177), (1, 0), (2, 110), (2, 190), (2, 191)] rfl), mvs_k_L_asked_5⟩)⟩
set_option maxRecDepth 100000 in
theorem mvs_k_L_setOf : ∀ w ∈ vs_k_L_setOf, w ∈ lw_tbl := List.forall_mem_cons.mpr ⟨lw_one _ 6 125 rfl, (List.forall_mem_append.mpr ⟨(lw_mem _ [(5, 172), (5, 173), (1, 0)] rfl), mvs_k_L_ask_5⟩)⟩
set_option maxRecDepth 100000 in
theorem mvs_k_X9_conditionHolds : ∀ w ∈ vs_k_X9_conditionHolds, w ∈ lw_tbl := List.forall_mem_cons.mpr ⟨lw_one _ 6 93 rfl, (List.forall_mem_append.mpr ⟨(lw_mem _ [(5, 70), (4, 113), (4, 114), (1, 19), (1, 226), (6, 95), (4, 147), (4, 148), (1, 4), (5, 18), (4, 135), (4, 136), (6, 94), (6, 32), (6, 33), (1, 6), (5, 71), (5, 73), (0, 29)] rfl), (List.forall_mem_append.mpr ⟨mvs_k_X4_isCount, (List.forall_mem_append.mpr ⟨mu_X4, (List.forall_mem_append.mpr ⟨mu_X9, (List.forall_mem_append.mpr ⟨mu_X3, (List.forall_mem_append.mpr ⟨mvs_k_X2_testHolds, (List.forall_mem_append.mpr ⟨mvs_k_X2_atomOf, (List.forall_mem_append.mpr ⟨mvs_k_X9_isIn, mvs_k_X9_countHolds⟩)⟩)⟩)⟩)⟩)⟩)⟩)⟩)⟩
set_option maxRecDepth 100000 in
theorem mvs_k_X9_bodyHolds : ∀ w ∈ vs_k_X9_bodyHolds, w ∈ lw_tbl := List.forall_mem_cons.mpr ⟨lw_one _ 6 89 rfl, (List.forall_mem_append.mpr ⟨(lw_mem _ [(5, 17), (4, 109), (4, 110), (1, 18), (6, 90), (6, 92), (0, 50), (1, 6)] rfl), (List.forall_mem_append.mpr ⟨mu_X8, (List.forall_mem_append.mpr ⟨mvs_k_X8_conditionAt, mvs_k_X9_conditionHolds⟩)⟩)⟩)⟩
set_option maxRecDepth 100000 in
theorem mvs_k_X9_gives : ∀ w ∈ vs_k_X9_gives, w ∈ lw_tbl := List.forall_mem_cons.mpr ⟨lw_one _ 6 99 rfl, (List.forall_mem_append.mpr ⟨(lw_mem _ [(1, 226), (5, 31), (4, 172), (4, 173), (1, 3), (5, 32), (4, 182), (4, 183), (6, 94), (6, 32), (6, 33), (1, 6)] rfl), (List.forall_mem_append.mpr ⟨mu_X9, (List.forall_mem_append.mpr ⟨mvs_k_X3_listHeads, (List.forall_mem_append.mpr ⟨mu_X3, (List.forall_mem_append.mpr ⟨mu_X8, (List.forall_mem_append.mpr ⟨mvs_k_X3_headAtomAt, mvs_k_X9_isIn⟩)⟩)⟩)⟩)⟩)⟩)⟩
set_option maxRecDepth 100000 in
theorem mvs_k_X9_reasonFor : ∀ w ∈ vs_k_X9_reasonFor, w ∈ lw_tbl := List.forall_mem_cons.mpr ⟨lw_one _ 6 85 rfl, (List.forall_mem_append.mpr ⟨(lw_mem _ [(1, 226), (1, 225), (6, 100), (4, 17), (4, 18), (1, 2), (4, 234), (4, 36), (4, 37), (5, 9), (5, 10), (5, 11), (1, 3), (6, 86), (6, 88), (0, 49), (1, 6), (6, 96), (6, 98), (0, 51), (5, 19), (5, 20), (5, 21)] rfl), (List.forall_mem_append.mpr ⟨mu_X9, (List.forall_mem_append.mpr ⟨mu_X3, (List.forall_mem_append.mpr ⟨mvs_k_X6_externalOf, (List.forall_mem_append.mpr ⟨mvs_k_X6_externalState, (List.forall_mem_append.mpr ⟨mvs_k_X3_bindKept, (List.forall_mem_append.mpr ⟨mu_X8, (List.forall_mem_append.mpr ⟨mvs_k_X9_bodyHolds, (List.forall_mem_append.mpr ⟨mvs_k_X9_gives, mvs_k_X3_keptRuleAt⟩)⟩)⟩)⟩)⟩)⟩)⟩)⟩)⟩)⟩
set_option maxRecDepth 100000 in
theorem mvs_k_X10_reason : ∀ w ∈ vs_k_X10_reason, w ∈ lw_tbl := List.forall_mem_cons.mpr ⟨lw_one _ 6 81 rfl, (List.forall_mem_append.mpr ⟨(lw_mem _ [(6, 17), (6, 19), (0, 46), (1, 1), (4, 10), (4, 12), (0, 6), (2, 76), (6, 31), (6, 32), (6, 33), (1, 6), (6, 101), (1, 27), (6, 82), (6, 83), (6, 84)] rfl), (List.forall_mem_append.mpr ⟨mvs_k_X10_checkedAnswer, (List.forall_mem_append.mpr ⟨mvs_k_X10_checkedAtom, (List.forall_mem_append.mpr ⟨mu_X10, (List.forall_mem_append.mpr ⟨mvs_k_X9_isIn, (List.forall_mem_append.mpr ⟨ma_4, mvs_k_X9_reasonFor⟩)⟩)⟩)⟩)⟩)⟩)⟩
set_option maxRecDepth 100000 in
theorem mvs_k_L_asked_11 : ∀ w ∈ vs_k_L_asked_11, w ∈ lw_tbl := List.forall_mem_cons.mpr ⟨lw_one _ 5 178 rfl, (List.forall_mem_append.mpr ⟨(lw_mem _ [(6, 78), (6, 79), (6, 80), (1, 1)] rfl), mvs_k_X10_reason⟩)⟩
set_option maxRecDepth 100000 in
theorem mvs_k_L_ask_11 : ∀ w ∈ vs_k_L_ask_11, w ∈ lw_tbl := List.forall_mem_cons.mpr ⟨lw_one _ 5 174 rfl, (List.forall_mem_append.mpr ⟨(lw_mem _ [(5, 176), (5, 177), (1, 0), (2, 110), (2, 190), (2, 191), (2, 192), (5, 175)] rfl), mvs_k_L_asked_11⟩)⟩
set_option maxRecDepth 100000 in
theorem mvs_k_L_isHeld : ∀ w ∈ vs_k_L_isHeld, w ∈ lw_tbl := List.forall_mem_cons.mpr ⟨lw_one _ 5 159 rfl, (fun _ h => absurd h List.not_mem_nil)⟩
set_option maxRecDepth 100000 in
theorem mvs_k_L_isReason : ∀ w ∈ vs_k_L_isReason, w ∈ lw_tbl := List.forall_mem_cons.mpr ⟨lw_one _ 6 128 rfl, (List.forall_mem_append.mpr ⟨(lw_mem _ [(5, 157), (5, 158), (1, 0)] rfl), mvs_k_L_isHeld⟩)⟩
set_option maxRecDepth 100000 in
theorem mvs_k_X10_cost : ∀ w ∈ vs_k_X10_cost, w ∈ lw_tbl := List.forall_mem_cons.mpr ⟨lw_one _ 6 47 rfl, (List.forall_mem_append.mpr ⟨(lw_mem _ [(6, 17), (6, 19), (0, 46), (1, 1), (3, 95), (3, 97), (0, 4), (2, 80), (6, 48), (5, 133), (5, 134), (1, 9)] rfl), (List.forall_mem_append.mpr ⟨mvs_k_X10_checkedAnswer, (List.forall_mem_append.mpr ⟨mvs_k_X10_checkLevel, (List.forall_mem_append.mpr ⟨mu_X10, mvs_k_X0_costAt⟩)⟩)⟩)⟩)⟩
set_option maxRecDepth 100000 in
theorem mvs_k_L_asked_7 : ∀ w ∈ vs_k_L_asked_7, w ∈ lw_tbl := List.forall_mem_cons.mpr ⟨lw_one _ 5 178 rfl, (List.forall_mem_append.mpr ⟨(lw_mem _ [(6, 44), (6, 45), (6, 46), (1, 1)] rfl), mvs_k_X10_cost⟩)⟩
set_option maxRecDepth 100000 in
theorem mvs_k_L_ask_7 : ∀ w ∈ vs_k_L_ask_7, w ∈ lw_tbl := List.forall_mem_cons.mpr ⟨lw_one _ 5 174 rfl, (List.forall_mem_append.mpr ⟨(lw_mem _ [(5, 176), (5, 177), (1, 0), (2, 110), (2, 190), (2, 191)] rfl), mvs_k_L_asked_7⟩)⟩
set_option maxRecDepth 100000 in
theorem mvs_k_L_costOf : ∀ w ∈ vs_k_L_costOf, w ∈ lw_tbl := List.forall_mem_cons.mpr ⟨lw_one _ 5 168 rfl, (List.forall_mem_append.mpr ⟨(lw_mem _ [(5, 157), (5, 158), (1, 0)] rfl), mvs_k_L_isHeld⟩)⟩
set_option maxRecDepth 100000 in
theorem mvs_k_X10_size : ∀ w ∈ vs_k_X10_size, w ∈ lw_tbl := List.forall_mem_cons.mpr ⟨lw_one _ 6 38 rfl, (List.forall_mem_append.mpr ⟨(lw_mem _ [(2, 76), (6, 17), (6, 19), (0, 46), (1, 1), (6, 39), (6, 40), (6, 41), (1, 6)] rfl), (List.forall_mem_append.mpr ⟨mu_X10, (List.forall_mem_append.mpr ⟨mvs_k_X10_checkedAnswer, mvs_k_X9_sizeOf⟩)⟩)⟩)⟩
set_option maxRecDepth 100000 in
theorem mvs_k_L_asked_6 : ∀ w ∈ vs_k_L_asked_6, w ∈ lw_tbl := List.forall_mem_cons.mpr ⟨lw_one _ 5 178 rfl, (List.forall_mem_append.mpr ⟨(lw_mem _ [(6, 35), (6, 36), (6, 37), (1, 1)] rfl), mvs_k_X10_size⟩)⟩
set_option maxRecDepth 100000 in
theorem mvs_k_L_ask_6 : ∀ w ∈ vs_k_L_ask_6, w ∈ lw_tbl := List.forall_mem_cons.mpr ⟨lw_one _ 5 174 rfl, (List.forall_mem_append.mpr ⟨(lw_mem _ [(5, 176), (5, 177), (1, 0), (2, 110), (2, 190), (2, 191)] rfl), mvs_k_L_asked_6⟩)⟩
set_option maxRecDepth 100000 in
theorem mvs_k_X9_grow : ∀ w ∈ vs_k_X9_grow, w ∈ lw_tbl := List.forall_mem_cons.mpr ⟨lw_one _ 5 107 rfl, (List.forall_mem_append.mpr ⟨(lw_mem _ [(5, 61), (5, 63), (0, 27), (1, 6), (1, 230), (1, 229), (1, 227), (5, 98), (5, 99), (5, 100), (1, 7), (5, 108), (5, 110), (0, 33), (5, 102), (5, 86), (5, 87)] rfl), (List.forall_mem_append.mpr ⟨mvs_k_X9_countsHeld, (List.forall_mem_append.mpr ⟨mu_X9, (List.forall_mem_append.mpr ⟨mvs_k_X7_headsAt, (List.forall_mem_append.mpr ⟨mvs_k_X9_isChoice, mvs_k_X7_bodyHolds⟩)⟩)⟩)⟩)⟩)⟩
set_option maxRecDepth 100000 in
theorem mvs_k_X9_headsToSplit : ∀ w ∈ vs_k_X9_headsToSplit, w ∈ lw_tbl := List.forall_mem_cons.mpr ⟨lw_one _ 5 119 rfl, (List.forall_mem_append.mpr ⟨(lw_mem _ [(5, 61), (5, 63), (0, 27), (1, 6), (1, 230), (1, 229), (1, 227), (5, 98), (5, 99), (5, 100), (1, 7), (5, 108), (5, 110), (0, 33), (5, 102), (5, 86), (5, 87)] rfl), (List.forall_mem_append.mpr ⟨mvs_k_X9_countsHeld, (List.forall_mem_append.mpr ⟨mu_X9, (List.forall_mem_append.mpr ⟨mvs_k_X7_headsAt, (List.forall_mem_append.mpr ⟨mvs_k_X9_isChoice, mvs_k_X7_bodyHolds⟩)⟩)⟩)⟩)⟩)⟩
set_option maxRecDepth 100000 in
theorem mvs_k_X9_hasSmaller : ∀ w ∈ vs_k_X9_hasSmaller, w ∈ lw_tbl := List.forall_mem_cons.mpr ⟨lw_one _ 5 93 rfl, (List.forall_mem_append.mpr ⟨(lw_mem _ [(5, 94), (5, 96), (0, 31), (1, 6), (1, 233), (1, 236), (5, 103), (5, 104), (5, 106), (0, 32), (5, 116), (5, 118), (0, 34)] rfl), (List.forall_mem_append.mpr ⟨mvs_k_X9_listActive, (List.forall_mem_append.mpr ⟨mu_X9, (List.forall_mem_append.mpr ⟨mvs_k_X9_grow, mvs_k_X9_headsToSplit⟩)⟩)⟩)⟩)⟩
set_option maxRecDepth 100000 in
theorem mvs_k_X9_costOf : ∀ w ∈ vs_k_X9_costOf, w ∈ lw_tbl := List.forall_mem_cons.mpr ⟨lw_one _ 5 123 rfl, (List.forall_mem_append.mpr ⟨(lw_mem _ [(5, 61), (5, 63), (0, 27), (1, 6), (1, 228), (1, 225), (5, 112), (5, 113), (5, 114), (1, 7), (5, 0), (3, 105), (3, 106), (1, 2), (5, 102), (5, 86), (5, 87)] rfl), (List.forall_mem_append.mpr ⟨mvs_k_X9_countsHeld, (List.forall_mem_append.mpr ⟨mu_X9, (List.forall_mem_append.mpr ⟨mu_X7, (List.forall_mem_append.mpr ⟨mvs_k_X7_ruleAt, (List.forall_mem_append.mpr ⟨mvs_k_X6_ruleAt, (List.forall_mem_append.mpr ⟨mu_X8, mvs_k_X7_bodyHolds⟩)⟩)⟩)⟩)⟩)⟩)⟩)⟩
set_option maxRecDepth 100000 in
theorem mvs_k_X0_isDearer : ∀ w ∈ vs_k_X0_isDearer, w ∈ lw_tbl := List.forall_mem_cons.mpr ⟨lw_one _ 5 131 rfl, (List.forall_mem_append.mpr ⟨(lw_mem _ [(5, 132), (5, 133), (5, 134), (1, 9)] rfl), mvs_k_X0_costAt⟩)⟩
set_option maxRecDepth 100000 in
theorem mvs_k_X0_copy : ∀ w ∈ vs_k_X0_copy, w ∈ lw_tbl := List.forall_mem_cons.mpr ⟨lw_one _ 5 139 rfl, (List.forall_mem_append.mpr ⟨(lw_mem _ [(2, 59), (2, 60)] rfl), mu_X0⟩)⟩
set_option maxRecDepth 100000 in
theorem mvs_k_X0_insert : ∀ w ∈ vs_k_X0_insert, w ∈ lw_tbl := List.forall_mem_cons.mpr ⟨lw_one _ 5 127 rfl, (List.forall_mem_append.mpr ⟨(lw_mem _ [(2, 61), (2, 59), (2, 60), (5, 128), (5, 130), (0, 36), (1, 9), (5, 136), (5, 138), (0, 37)] rfl), (List.forall_mem_append.mpr ⟨mu_X0, (List.forall_mem_append.mpr ⟨mvs_k_X0_isDearer, mvs_k_X0_copy⟩)⟩)⟩)⟩
set_option maxRecDepth 100000 in
theorem mvs_k_X9_findAnswers : ∀ w ∈ vs_k_X9_findAnswers, w ∈ lw_tbl := List.forall_mem_cons.mpr ⟨lw_one _ 5 45 rfl, (List.forall_mem_append.mpr ⟨(lw_mem _ [(5, 46), (5, 48), (0, 24), (1, 6), (5, 53), (5, 55), (0, 25), (5, 57), (5, 59), (0, 26), (5, 90), (5, 92), (0, 30), (5, 120), (5, 122), (0, 35), (5, 124), (5, 125), (5, 126), (1, 9)] rfl), (List.forall_mem_append.mpr ⟨mu_X0, (List.forall_mem_append.mpr ⟨mvs_k_X9_fullSet, (List.forall_mem_append.mpr ⟨mvs_k_X9_fits, (List.forall_mem_append.mpr ⟨mvs_k_X9_isModel, (List.forall_mem_append.mpr ⟨mvs_k_X9_hasSmaller, (List.forall_mem_append.mpr ⟨mvs_k_X9_costOf, mvs_k_X0_insert⟩)⟩)⟩)⟩)⟩)⟩)⟩)⟩
set_option maxRecDepth 100000 in
theorem mvs_k_X10_walk : ∀ w ∈ vs_k_X10_walk, w ∈ lw_tbl := List.forall_mem_cons.mpr ⟨lw_one _ 4 82 rfl, (List.forall_mem_append.mpr ⟨(lw_mem _ [(2, 80), (2, 75), (4, 83), (4, 84), (4, 85), (1, 3), (4, 197), (1, 22), (2, 76), (2, 78), (2, 79), (4, 213), (4, 214), (4, 215), (1, 6), (5, 42), (5, 43), (5, 44)] rfl), (List.forall_mem_append.mpr ⟨mu_X10, (List.forall_mem_append.mpr ⟨mu_X0, (List.forall_mem_append.mpr ⟨mvs_k_X3_refresh, (List.forall_mem_append.mpr ⟨mu_X3, (List.forall_mem_append.mpr ⟨ma_3, (List.forall_mem_append.mpr ⟨mvs_k_X9_prepare, mvs_k_X9_findAnswers⟩)⟩)⟩)⟩)⟩)⟩)⟩)⟩
set_option maxRecDepth 100000 in
theorem mvs_k_L_plain_13 : ∀ w ∈ vs_k_L_plain_13, w ∈ lw_tbl := List.forall_mem_cons.mpr ⟨lw_one _ 2 195 rfl, (List.forall_mem_append.mpr ⟨(lw_mem _ [(4, 79), (4, 80), (4, 81), (1, 1)] rfl), mvs_k_X10_walk⟩)⟩
set_option maxRecDepth 100000 in
theorem mvs_k_L_deed_13 : ∀ w ∈ vs_k_L_deed_13, w ∈ lw_tbl := List.forall_mem_cons.mpr ⟨lw_one _ 2 109 rfl, (List.forall_mem_append.mpr ⟨(lw_mem _ [(2, 193), (2, 194), (1, 0), (2, 110), (2, 190), (2, 191), (2, 192)] rfl), mvs_k_L_plain_13⟩)⟩
set_option maxRecDepth 100000 in
theorem mvs_k_L_isClosed : ∀ w ∈ vs_k_L_isClosed, w ∈ lw_tbl := List.forall_mem_cons.mpr ⟨lw_one _ 5 155 rfl, (List.forall_mem_append.mpr ⟨(lw_mem _ [(5, 156), (5, 76), (1, 23), (5, 157), (5, 158), (1, 0)] rfl), (List.forall_mem_append.mpr ⟨mvs_k_J6_bitCount_0f7a4, mvs_k_L_isHeld⟩)⟩)⟩
set_option maxRecDepth 100000 in
theorem mvs_k_L_isEnough : ∀ w ∈ vs_k_L_isEnough, w ∈ lw_tbl := List.forall_mem_cons.mpr ⟨lw_one _ 5 162 rfl, (List.forall_mem_append.mpr ⟨(lw_mem _ [(5, 157), (5, 158), (1, 0)] rfl), mvs_k_L_isHeld⟩)⟩
set_option maxRecDepth 100000 in
theorem mvs_k_L_isAnswer : ∀ w ∈ vs_k_L_isAnswer, w ∈ lw_tbl := List.forall_mem_cons.mpr ⟨lw_one _ 5 152 rfl, (List.forall_mem_append.mpr ⟨(lw_mem _ [(5, 153), (5, 154), (1, 0), (5, 160), (5, 161)] rfl), (List.forall_mem_append.mpr ⟨mvs_k_L_isClosed, mvs_k_L_isEnough⟩)⟩)⟩
set_option maxRecDepth 100000 in
theorem mvs_k_J6_lowestOneBit_0f7a4 : ∀ w ∈ vs_k_J6_lowestOneBit_0f7a4, w ∈ lw_tbl := List.forall_mem_cons.mpr ⟨lw_one _ 5 171 rfl, (fun _ h => absurd h List.not_mem_nil)⟩
set_option maxRecDepth 100000 in
theorem mvs_k_L_isAhead : ∀ w ∈ vs_k_L_isAhead, w ∈ lw_tbl := List.forall_mem_cons.mpr ⟨lw_one _ 5 165 rfl, (List.forall_mem_append.mpr ⟨(lw_mem _ [(5, 169), (5, 170), (1, 23), (5, 166), (5, 167), (1, 0)] rfl), (List.forall_mem_append.mpr ⟨mvs_k_J6_lowestOneBit_0f7a4, mvs_k_L_costOf⟩)⟩)⟩
set_option maxRecDepth 100000 in
theorem mvs_k_L_isWalked : ∀ w ∈ vs_k_L_isWalked, w ∈ lw_tbl := List.forall_mem_cons.mpr ⟨lw_one _ 5 149 rfl, (List.forall_mem_append.mpr ⟨(lw_mem _ [(1, 84), (5, 172), (5, 173), (1, 0), (6, 149), (6, 150), (6, 151), (1, 1), (6, 129), (6, 130), (6, 131), (6, 123), (6, 124), (5, 156), (5, 76), (1, 23), (2, 104), (2, 105), (6, 126), (6, 127), (5, 166), (5, 167), (2, 107), (2, 108), (5, 150), (5, 151), (5, 163), (5, 164)] rfl), (List.forall_mem_append.mpr ⟨mvs_k_L_ask_4, (List.forall_mem_append.mpr ⟨mvs_k_L_ask_12, (List.forall_mem_append.mpr ⟨mvs_k_L_ask_0, (List.forall_mem_append.mpr ⟨mvs_k_L_ask_1, (List.forall_mem_append.mpr ⟨mvs_k_L_ask_10, (List.forall_mem_append.mpr ⟨mvs_k_L_ask_9, (List.forall_mem_append.mpr ⟨mvs_k_X10_share, (List.forall_mem_append.mpr ⟨mvs_k_L_ask_8, (List.forall_mem_append.mpr ⟨mvs_k_X10_meanSize, (List.forall_mem_append.mpr ⟨mvs_k_L_setOf, (List.forall_mem_append.mpr ⟨mvs_k_J6_bitCount_0f7a4, (List.forall_mem_append.mpr ⟨mvs_k_L_told, (List.forall_mem_append.mpr ⟨mvs_k_L_ask_11, (List.forall_mem_append.mpr ⟨mvs_k_L_isReason, (List.forall_mem_append.mpr ⟨mvs_k_L_ask_7, (List.forall_mem_append.mpr ⟨mvs_k_L_costOf, (List.forall_mem_append.mpr ⟨mvs_k_L_ask_6, (List.forall_mem_append.mpr ⟨mvs_k_L_deed_13, (List.forall_mem_append.mpr ⟨mvs_k_L_ask_5, (List.forall_mem_append.mpr ⟨mvs_k_L_isAnswer, mvs_k_L_isAhead⟩)⟩)⟩)⟩)⟩)⟩)⟩)⟩)⟩)⟩)⟩)⟩)⟩)⟩)⟩)⟩)⟩)⟩)⟩)⟩)⟩)⟩
theorem iw_L_law_X10 : ∀ w ∈ u_ws RX10 TX10 7, w ∈ lw_tbl := mu_X10
set_option maxRecDepth 100000 in
theorem gw_addRule : GoodIn lw_tbl (va_wsS RL 195 yL_addRule vs_k_L_addRule) := goodIn_sub (List.forall_mem_append.mpr ⟨lw_mem _ [(5, 141), (5, 142), (1, 0)] rfl, mvs_k_L_addRule⟩) (by decide +kernel)
set_option maxRecDepth 100000 in
theorem gw_bitCount : GoodIn lw_tbl (va_wsS RL 135 yJ6_bitCount_0f7a4 vs_k_J6_bitCount_0f7a4) := goodIn_sub (List.forall_mem_append.mpr ⟨lw_mem _ [(5, 156), (5, 76), (1, 23)] rfl, mvs_k_J6_bitCount_0f7a4⟩) (by decide +kernel)
set_option maxRecDepth 100000 in
theorem gw_deed_0 : GoodIn lw_tbl (va_wsS RL 132 yL_deed vs_k_L_deed_0) := goodIn_sub (List.forall_mem_append.mpr ⟨lw_mem _ [(2, 107), (2, 108), (1, 0)] rfl, mvs_k_L_deed_0⟩) (by decide +kernel)
set_option maxRecDepth 100000 in
theorem gw_deed_11 : GoodIn lw_tbl (va_wsS RL 132 yL_deed vs_k_L_deed_11) := goodIn_sub (List.forall_mem_append.mpr ⟨lw_mem _ [(2, 107), (2, 108), (1, 0)] rfl, mvs_k_L_deed_11⟩) (by decide +kernel)
set_option maxRecDepth 100000 in
theorem gw_deed_12 : GoodIn lw_tbl (va_wsS RL 132 yL_deed vs_k_L_deed_12) := goodIn_sub (List.forall_mem_append.mpr ⟨lw_mem _ [(2, 107), (2, 108), (1, 0)] rfl, mvs_k_L_deed_12⟩) (by decide +kernel)
set_option maxRecDepth 100000 in
theorem gw_deed_9 : GoodIn lw_tbl (va_wsS RL 132 yL_deed vs_k_L_deed_9) := goodIn_sub (List.forall_mem_append.mpr ⟨lw_mem _ [(2, 107), (2, 108), (1, 0)] rfl, mvs_k_L_deed_9⟩) (by decide +kernel)
set_option maxRecDepth 100000 in
theorem gw_init : GoodIn lw_tbl (vs_k_X10_init) := goodIn_sub mvs_k_X10_init (by decide +kernel)
set_option maxRecDepth 100000 in
theorem gw_isWalked : GoodIn lw_tbl (va_wsS RL 207 yL_isWalked vs_k_L_isWalked) := goodIn_sub (List.forall_mem_append.mpr ⟨lw_mem _ [(5, 147), (5, 148), (1, 0)] rfl, mvs_k_L_isWalked⟩) (by decide +kernel)
set_option maxRecDepth 100000 in
theorem gw_pick : GoodIn lw_tbl (va_wsS RL 159 yL_pick vs_k_L_pick) := goodIn_sub (List.forall_mem_append.mpr ⟨lw_mem _ [(2, 96), (2, 97), (1, 0)] rfl, mvs_k_L_pick⟩) (by decide +kernel)
set_option maxRecDepth 100000 in
theorem gw_told : GoodIn lw_tbl (va_wsS RL 100 yL_told vs_k_L_told) := goodIn_sub (List.forall_mem_append.mpr ⟨lw_mem _ [(2, 104), (2, 105), (1, 0)] rfl, mvs_k_L_told⟩) (by decide +kernel)
set_option maxRecDepth 100000 in
theorem hw__arrayClass_int : (.arrayClass .int : Cond) ∈ lw_tbl := lw_one _ 1 84 rfl
set_option maxRecDepth 100000 in
theorem hw__arrayOver_rows : (.arrayOver (.array .int) : Cond) ∈ lw_tbl := lw_one _ 6 194 rfl
set_option maxRecDepth 100000 in
theorem hw__classLink_RL_16 : (.classLink RL 16 RX10 : Cond) ∈ lw_tbl := lw_one _ 1 29 rfl
set_option maxRecDepth 100000 in
theorem hw__classLink_RL_193 : (.classLink RL 193 "[I" : Cond) ∈ lw_tbl := lw_one _ 6 193 rfl
set_option maxRecDepth 100000 in
theorem hw__initialized_RX10 : (.initialized RX10 : Cond) ∈ lw_tbl := lw_one _ 1 1 rfl
set_option maxRecDepth 100000 in
theorem hw__instanceMethod_yX10_init : (.instanceMethod yX10_init : Cond) ∈ lw_tbl := lw_one _ 1 32 rfl
set_option maxRecDepth 100000 in
theorem hw__instantiable_RX10 : (.instantiable RX10 7 : Cond) ∈ lw_tbl := lw_one _ 1 30 rfl
set_option maxRecDepth 100000 in
theorem hw__methodLink_RL_192 : (.methodLink RL 192 yX10_init : Cond) ∈ lw_tbl := lw_one _ 1 31 rfl
