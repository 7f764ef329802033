/-! words of the tables by their places -/
def lw_ck (k : Nat) : List Cond := match k with
  | 0 => k2_sels lw_privs
  | 1 => tables_1_1
  | 2 => tables_1_2
  | 3 => tables_1_3
  | 4 => tables_1_4
  | 5 => tables_1_5
  | 6 => tables_1_6
  | 7 => tables_1_7
  | 8 => tables_1_8
  | 9 => tables_1_9
  | 10 => tables_1_10
  | _ => []
theorem lw_ck_ok (k : Nat) : ∀ w ∈ lw_ck k, w ∈ lw_tbl := by
  intro w h
  match k, h with
  | 0, h => exact List.mem_append_left _ h
  | 1, h => exact List.mem_append_right _ (List.mem_append_left _ h)
  | 2, h => exact List.mem_append_right _ (List.mem_append_right _ (List.mem_append_left _ h))
  | 3, h => exact List.mem_append_right _ (List.mem_append_right _ (List.mem_append_right _ (List.mem_append_left _ h)))
  | 4, h => exact List.mem_append_right _ (List.mem_append_right _ (List.mem_append_right _ (List.mem_append_right _ (List.mem_append_left _ h))))
  | 5, h => exact List.mem_append_right _ (List.mem_append_right _ (List.mem_append_right _ (List.mem_append_right _ (List.mem_append_right _ (List.mem_append_left _ h)))))
  | 6, h => exact List.mem_append_right _ (List.mem_append_right _ (List.mem_append_right _ (List.mem_append_right _ (List.mem_append_right _ (List.mem_append_right _ (List.mem_append_left _ h))))))
  | 7, h => exact List.mem_append_right _ (List.mem_append_right _ (List.mem_append_right _ (List.mem_append_right _ (List.mem_append_right _ (List.mem_append_right _ (List.mem_append_right _ (List.mem_append_left _ h)))))))
  | 8, h => exact List.mem_append_right _ (List.mem_append_right _ (List.mem_append_right _ (List.mem_append_right _ (List.mem_append_right _ (List.mem_append_right _ (List.mem_append_right _ (List.mem_append_right _ (List.mem_append_left _ h))))))))
  | 9, h => exact List.mem_append_right _ (List.mem_append_right _ (List.mem_append_right _ (List.mem_append_right _ (List.mem_append_right _ (List.mem_append_right _ (List.mem_append_right _ (List.mem_append_right _ (List.mem_append_right _ (List.mem_append_left _ h)))))))))
  | 10, h => exact List.mem_append_right _ (List.mem_append_right _ (List.mem_append_right _ (List.mem_append_right _ (List.mem_append_right _ (List.mem_append_right _ (List.mem_append_right _ (List.mem_append_right _ (List.mem_append_right _ (List.mem_append_right _ (h))))))))))
  | k + 11, h => cases h
theorem lw_mem (ws : List Cond) (ps : List (Nat × Nat)) (h : ws.map some = ps.map (fun p => (lw_ck p.1)[p.2]?)) : ∀ w ∈ ws, w ∈ lw_tbl := by
  intro w hw
  have h1 : some w ∈ ws.map some := List.mem_map_of_mem hw
  rw [h] at h1
  obtain ⟨p, -, hp⟩ := List.mem_map.mp h1
  exact lw_ck_ok p.1 w (List.mem_of_getElem? hp)
theorem lw_one (w : Cond) (k i : Nat) (h : (lw_ck k)[i]? = some w) : w ∈ lw_tbl := lw_ck_ok k w (List.mem_of_getElem? h)

theorem ws_tw : ∀ w ∈ wq_tw, w ∈ lw_tbl := lw_mem _ [(1, 57), (1, 65), (1, 67), (1, 68), (1, 70), (1, 74), (1, 77), (1, 78), (1, 80), (1, 112), (1, 117), (1, 119), (1, 121), (1, 123), (1, 135), (1, 146), (1, 147), (1, 149), (1, 150), (1, 152), (1, 153), (1, 155), (1, 156), (1, 161), (1, 162), (1, 164), (1, 167), (1, 168), (1, 170), (1, 172), (1, 216), (1, 227), (2, 20), (2, 70), (2, 73), (2, 80), (2, 81), (2, 82), (3, 163), (3, 164), (3, 165), (3, 167), (3, 168), (3, 169), (3, 170), (3, 171), (3, 173), (3, 174), (3, 175), (3, 176), (3, 177), (3, 178), (3, 181), (3, 182), (3, 185), (3, 186), (3, 187), (3, 188), (4, 79), (4, 80), (4, 81), (4, 82), (4, 83), (4, 85), (4, 86), (4, 87), (4, 89), (4, 91), (4, 93), (4, 95), (4, 97), (4, 99), (6, 215), (8, 219)] rfl
set_option maxRecDepth 100000 in
theorem ws_ca : ∀ q ∈ wq_ca, Cond.castable q.1 q.2 ∈ lw_tbl := fun q h => lw_mem (wq_ca.map fun q => (Cond.castable q.1 q.2 : Cond)) [(10, 195), (10, 203), (10, 199), (10, 198), (10, 197), (10, 194), (10, 202), (10, 196), (10, 201), (10, 193), (10, 200), (10, 204), (10, 217), (10, 211), (10, 214), (10, 215), (10, 208), (9, 173), (10, 229), (10, 227), (10, 233), (10, 226), (10, 228), (10, 230), (10, 225), (10, 232), (10, 231), (6, 168), (10, 220), (4, 24), (10, 192), (10, 209), (3, 43), (10, 206), (3, 115), (10, 207), (4, 41), (10, 210), (10, 219), (10, 218), (10, 221), (10, 216), (5, 22), (10, 205), (10, 108), (10, 212), (8, 94), (10, 213), (6, 139)] rfl _ (List.mem_map_of_mem h)
set_option maxRecDepth 100000 in
theorem ws_ao : ∀ C ∈ wq_ao, Cond.arrayOver (.object C) ∈ lw_tbl := fun C h => lw_mem (wq_ao.map fun C => (Cond.arrayOver (.object C) : Cond)) [(1, 62), (3, 161), (7, 204)] rfl _ (List.mem_map_of_mem h)
set_option maxRecDepth 100000 in
theorem ws_de : ∀ x ∈ wq_de, Cond.declares x ∈ lw_tbl := fun x h => lw_mem (wq_de.map fun x => (Cond.declares x : Cond)) [(3, 45), (3, 47), (3, 49)] rfl _ (List.mem_map_of_mem h)
set_option maxRecDepth 100000 in
theorem ws_str : ∀ q ∈ wq_str, Cond.stringRef "AnswerFold" q.1 q.2 ∈ lw_tbl := fun q h => lw_mem (wq_str.map fun q => (Cond.stringRef "AnswerFold" q.1 q.2 : Cond)) [(3, 86), (3, 122), (3, 223), (3, 232), (4, 0), (4, 48), (4, 58), (4, 59), (4, 132), (4, 149), (4, 150), (4, 158), (4, 159), (4, 167), (4, 177), (4, 200), (4, 212), (4, 213), (4, 215), (5, 29), (5, 88), (6, 6), (6, 14), (4, 193), (6, 146), (6, 175), (6, 184), (3, 148), (4, 5), (3, 153), (4, 137), (6, 42), (6, 43), (4, 194)] rfl _ (List.mem_map_of_mem h)
set_option maxRecDepth 100000 in
theorem ws_fw0 : ∀ q ∈ wq_fw, Cond.declares q.2.1 ∈ lw_tbl := fun q h => lw_mem (wq_fw.map fun q => (Cond.declares q.2.1 : Cond)) [(8, 93), (8, 103), (10, 107)] rfl _ (List.mem_map_of_mem h)
set_option maxRecDepth 100000 in
theorem ws_fw1 : ∀ q ∈ wq_fw, Cond.interfaceMethod q.2.1.cls q.2.1.cls q.2.1.name q.2.1.desc ∈ lw_tbl := fun q h => lw_mem (wq_fw.map fun q => (Cond.interfaceMethod q.2.1.cls q.2.1.cls q.2.1.name q.2.1.desc : Cond)) [(8, 92), (8, 102), (10, 106)] rfl _ (List.mem_map_of_mem h)
set_option maxRecDepth 100000 in
theorem ws_fw2 : ∀ q ∈ wq_fw, Cond.publicMethod q.2.2 ∈ lw_tbl := fun q h => lw_mem (wq_fw.map fun q => (Cond.publicMethod q.2.2 : Cond)) [(8, 98), (8, 107), (10, 112)] rfl _ (List.mem_map_of_mem h)
set_option maxRecDepth 100000 in
theorem ws_fw3 : ∀ q ∈ wq_fw, Cond.unhidden q.1 q.2.1.name q.2.1.desc ∈ lw_tbl := fun q h => lw_mem (wq_fw.map fun q => (Cond.unhidden q.1 q.2.1.name q.2.1.desc : Cond)) [(8, 96), (8, 105), (10, 110)] rfl _ (List.mem_map_of_mem h)
set_option maxRecDepth 100000 in
theorem ws_fw4 : ∀ q ∈ wq_fw, Cond.castable q.1 q.2.1.cls ∈ lw_tbl := fun q h => lw_mem (wq_fw.map fun q => (Cond.castable q.1 q.2.1.cls : Cond)) [(8, 94), (8, 94), (10, 108)] rfl _ (List.mem_map_of_mem h)
theorem ws_fw : ∀ q ∈ wq_fw, Cond.declares q.2.1 ∈ lw_tbl ∧ Cond.interfaceMethod q.2.1.cls q.2.1.cls q.2.1.name q.2.1.desc ∈ lw_tbl ∧ Cond.publicMethod q.2.2 ∈ lw_tbl ∧ Cond.unhidden q.1 q.2.1.name q.2.1.desc ∈ lw_tbl ∧ Cond.castable q.1 q.2.1.cls ∈ lw_tbl := fun q h => ⟨ws_fw0 q h, ws_fw1 q h, ws_fw2 q h, ws_fw3 q h, ws_fw4 q h⟩
set_option maxRecDepth 100000 in
theorem mu_J0 : ∀ w ∈ u_ws RJ0 TJ0 4, w ∈ lw_tbl := lw_mem _ [(4, 29), (4, 31), (10, 93), (10, 95)] rfl
set_option maxRecDepth 100000 in
theorem mu_J4 : ∀ w ∈ u_ws RJ4 TJ4 4, w ∈ lw_tbl := lw_mem _ [(9, 134), (9, 136), (9, 138), (9, 140)] rfl
set_option maxRecDepth 100000 in
theorem mu_Jx00060 : ∀ w ∈ u_ws RJx00060 TJx00060 6, w ∈ lw_tbl := lw_mem _ [(4, 17), (4, 18), (4, 19), (4, 20), (4, 21), (4, 22)] rfl
set_option maxRecDepth 100000 in
theorem mu_Jx35411 : ∀ w ∈ u_ws RJx35411 TJx35411 4, w ∈ lw_tbl := lw_mem _ [(8, 81), (8, 83), (8, 85), (8, 87)] rfl
set_option maxRecDepth 100000 in
theorem mu_Jx4a65c : ∀ w ∈ u_ws RJx4a65c TJx4a65c 3, w ∈ lw_tbl := lw_mem _ [(6, 225), (6, 221), (6, 223)] rfl
set_option maxRecDepth 100000 in
theorem mu_X0 : ∀ w ∈ u_ws RX0 TX0 4, w ∈ lw_tbl := lw_mem _ [(2, 83), (2, 85), (2, 87), (2, 89)] rfl
set_option maxRecDepth 100000 in
theorem mu_X1 : ∀ w ∈ u_ws RX1 TX1 1, w ∈ lw_tbl := lw_mem _ [(1, 140)] rfl
set_option maxRecDepth 100000 in
theorem mu_X2 : ∀ w ∈ u_ws RX2 TX2 4, w ∈ lw_tbl := lw_mem _ [(1, 124), (1, 126), (1, 128), (1, 130)] rfl
set_option maxRecDepth 100000 in
theorem mu_X3 : ∀ w ∈ u_ws RX3 TX3 16, w ∈ lw_tbl := lw_mem _ [(1, 175), (1, 177), (1, 179), (1, 181), (1, 183), (1, 185), (1, 187), (1, 189), (1, 191), (1, 193), (1, 195), (1, 197), (1, 199), (1, 201), (1, 203), (1, 205)] rfl
set_option maxRecDepth 100000 in
theorem mu_X4 : ∀ w ∈ u_ws RX4 TX4 8, w ∈ lw_tbl := lw_mem _ [(4, 100), (4, 102), (4, 104), (4, 106), (4, 108), (4, 110), (4, 112), (4, 114)] rfl
set_option maxRecDepth 100000 in
theorem mu_X5 : ∀ w ∈ u_ws RX5 TX5 2, w ∈ lw_tbl := lw_mem _ [(2, 64), (2, 66)] rfl
set_option maxRecDepth 100000 in
theorem mu_X6 : ∀ w ∈ u_ws RX6 TX6 10, w ∈ lw_tbl := lw_mem _ [(1, 81), (1, 83), (1, 85), (1, 87), (1, 89), (1, 91), (1, 93), (1, 95), (1, 97), (1, 99)] rfl
set_option maxRecDepth 100000 in
theorem mu_X7 : ∀ w ∈ u_ws RX7 TX7 7, w ∈ lw_tbl := lw_mem _ [(1, 228), (1, 230), (1, 232), (1, 234), (1, 236), (1, 238), (2, 0)] rfl
set_option maxRecDepth 100000 in
theorem mu_X8 : ∀ w ∈ u_ws RX8 TX8 11, w ∈ lw_tbl := lw_mem _ [(3, 189), (3, 191), (3, 193), (3, 195), (3, 197), (3, 199), (3, 201), (3, 203), (3, 205), (3, 207), (3, 209)] rfl
set_option maxRecDepth 100000 in
theorem mu_X9 : ∀ w ∈ u_ws RX9 TX9 17, w ∈ lw_tbl := lw_mem _ [(2, 21), (2, 23), (2, 25), (2, 27), (2, 29), (2, 31), (2, 33), (2, 35), (2, 37), (2, 39), (2, 41), (2, 43), (2, 45), (2, 47), (2, 49), (2, 51), (2, 53)] rfl
set_option maxRecDepth 100000 in
theorem mu_X10 : ∀ w ∈ u_ws RX10 TX10 7, w ∈ lw_tbl := lw_mem _ [(2, 99), (2, 101), (2, 103), (2, 105), (2, 107), (2, 109), (2, 111)] rfl
set_option maxRecDepth 100000 in
theorem mu_X11 : ∀ w ∈ u_ws RX11 TX11 2, w ∈ lw_tbl := lw_mem _ [(9, 90), (9, 92)] rfl
set_option maxRecDepth 100000 in
theorem mu_X12 : ∀ w ∈ u_ws RX12 TX12 4, w ∈ lw_tbl := lw_mem _ [(8, 27), (8, 29), (8, 31), (8, 33)] rfl
set_option maxRecDepth 100000 in
theorem mu_X14 : ∀ w ∈ u_ws RX14 TX14 8, w ∈ lw_tbl := lw_mem _ [(8, 237), (8, 239), (9, 1), (9, 3), (9, 5), (9, 7), (9, 9), (9, 11)] rfl
set_option maxRecDepth 100000 in
theorem mu_X15 : ∀ w ∈ u_ws RX15 TX15 9, w ∈ lw_tbl := lw_mem _ [(7, 118), (7, 120), (7, 122), (7, 124), (7, 126), (7, 128), (7, 130), (7, 132), (7, 134)] rfl
set_option maxRecDepth 100000 in
theorem mu_X16 : ∀ w ∈ u_ws RX16 TX16 26, w ∈ lw_tbl := lw_mem _ [(7, 15), (7, 17), (7, 19), (7, 21), (7, 23), (7, 25), (7, 27), (7, 29), (7, 31), (7, 33), (7, 35), (7, 37), (7, 39), (7, 41), (7, 43), (7, 45), (7, 47), (7, 49), (7, 51), (7, 53), (7, 55), (7, 57), (7, 59), (7, 61), (7, 63), (7, 65)] rfl
set_option maxRecDepth 100000 in
theorem ws_cl : ∀ q ∈ vwCl, (∀ w ∈ u_ws q.1 q.2.1 q.2.2, w ∈ lw_tbl) ∧ ∃ n, n < 30 ∧ Cond.instantiable q.1 n ∈ lw_tbl := (List.forall_mem_cons.mpr ⟨⟨mu_J0, 4, by decide, lw_one _ 4 28 rfl⟩, (List.forall_mem_cons.mpr ⟨⟨mu_J4, 4, by decide, lw_one _ 9 113 rfl⟩, (List.forall_mem_cons.mpr ⟨⟨mu_Jx00060, 6, by decide, lw_one _ 4 10 rfl⟩, (List.forall_mem_cons.mpr ⟨⟨mu_Jx35411, 4, by decide, lw_one _ 8 72 rfl⟩, (List.forall_mem_cons.mpr ⟨⟨mu_Jx4a65c, 3, by decide, lw_one _ 6 200 rfl⟩, (List.forall_mem_cons.mpr ⟨⟨mu_X0, 4, by decide, lw_one _ 2 72 rfl⟩, (List.forall_mem_cons.mpr ⟨⟨mu_X1, 1, by decide, lw_one _ 1 134 rfl⟩, (List.forall_mem_cons.mpr ⟨⟨mu_X2, 4, by decide, lw_one _ 1 111 rfl⟩, (List.forall_mem_cons.mpr ⟨⟨mu_X3, 16, by decide, lw_one _ 1 105 rfl⟩, (List.forall_mem_cons.mpr ⟨⟨mu_X4, 8, by decide, lw_one _ 4 64 rfl⟩, (List.forall_mem_cons.mpr ⟨⟨mu_X5, 2, by decide, lw_one _ 2 57 rfl⟩, (List.forall_mem_cons.mpr ⟨⟨mu_X6, 10, by decide, lw_one _ 1 56 rfl⟩, (List.forall_mem_cons.mpr ⟨⟨mu_X7, 7, by decide, lw_one _ 1 215 rfl⟩, (List.forall_mem_cons.mpr ⟨⟨mu_X8, 11, by decide, lw_one _ 3 155 rfl⟩, (List.forall_mem_cons.mpr ⟨⟨mu_X9, 17, by decide, lw_one _ 1 209 rfl⟩, (List.forall_mem_cons.mpr ⟨⟨mu_X10, 7, by decide, lw_one _ 1 48 rfl⟩, (List.forall_mem_cons.mpr ⟨⟨mu_X11, 2, by decide, lw_one _ 9 81 rfl⟩, (List.forall_mem_cons.mpr ⟨⟨mu_X12, 4, by decide, lw_one _ 8 14 rfl⟩, (List.forall_mem_cons.mpr ⟨⟨mu_X14, 8, by decide, lw_one _ 8 218 rfl⟩, (List.forall_mem_cons.mpr ⟨⟨mu_X15, 9, by decide, lw_one _ 7 97 rfl⟩, (List.forall_mem_cons.mpr ⟨⟨mu_X16, 26, by decide, lw_one _ 6 194 rfl⟩, (fun _ h => absurd h List.not_mem_nil)⟩)⟩)⟩)⟩)⟩)⟩)⟩)⟩)⟩)⟩)⟩)⟩)⟩)⟩)⟩)⟩)⟩)⟩)⟩)⟩)⟩)
theorem ws_cls : Cond.instantiable "AnswerFold" 7 ∈ lw_tbl := lw_one _ 1 48 rfl
set_option maxRecDepth 100000 in
theorem ma_0 : ∀ w ∈ (vx_atS RX10 64 "java/lang/IllegalArgumentException" ["java/lang/RuntimeException", "java/lang/Exception"]).filter goodWord, w ∈ lw_tbl := by decide +kernel
set_option maxRecDepth 100000 in
theorem mvs_k_X10_forgetGrounding : ∀ w ∈ vs_k_X10_forgetGrounding, w ∈ lw_tbl := List.forall_mem_cons.mpr ⟨lw_one _ 3 132 rfl, (List.forall_mem_append.mpr ⟨(lw_mem _ [(2, 93), (2, 94), (2, 98)] rfl), (List.forall_mem_append.mpr ⟨mu_X10, (List.forall_mem_append.mpr ⟨mu_X3, (List.forall_mem_append.mpr ⟨mu_X9, mu_X0⟩)⟩)⟩)⟩)⟩
set_option maxRecDepth 100000 in
theorem mvs_k_X6_tellPredicate : ∀ w ∈ vs_k_X6_tellPredicate, w ∈ lw_tbl := List.forall_mem_cons.mpr ⟨lw_one _ 3 136 rfl, (List.forall_mem_append.mpr ⟨(lw_mem _ [(1, 64), (1, 63)] rfl), mu_X6⟩)⟩
set_option maxRecDepth 100000 in
theorem mvs_k_X10_addPredicate : ∀ w ∈ vs_k_X10_addPredicate, w ∈ lw_tbl := List.forall_mem_cons.mpr ⟨lw_one _ 3 40 rfl, (List.forall_mem_append.mpr ⟨(lw_mem _ [(3, 41), (1, 17), (2, 92), (3, 129), (3, 131), (0, 12), (1, 1), (3, 133), (3, 134), (3, 135), (1, 2)] rfl), (List.forall_mem_append.mpr ⟨ma_0, (List.forall_mem_append.mpr ⟨mu_X10, (List.forall_mem_append.mpr ⟨mu_X6, (List.forall_mem_append.mpr ⟨mvs_k_X10_forgetGrounding, mvs_k_X6_tellPredicate⟩)⟩)⟩)⟩)⟩)⟩
set_option maxRecDepth 100000 in
theorem mvs_k_L_addPredicate : ∀ w ∈ vs_k_L_addPredicate, w ∈ lw_tbl := List.forall_mem_cons.mpr ⟨lw_one _ 3 34 rfl, (List.forall_mem_append.mpr ⟨(lw_mem _ [(3, 37), (3, 38), (3, 39), (1, 1), (3, 35)] rfl), mvs_k_X10_addPredicate⟩)⟩
set_option maxRecDepth 100000 in
theorem mvs_k_X10_checkPart : ∀ w ∈ vs_k_X10_checkPart, w ∈ lw_tbl := List.forall_mem_cons.mpr ⟨lw_one _ 3 147 rfl, (List.forall_mem_append.mpr ⟨(lw_mem _ [(3, 41), (1, 17)] rfl), ma_0⟩)⟩
set_option maxRecDepth 100000 in
theorem mvs_k_X10_checkRoomForRule : ∀ w ∈ vs_k_X10_checkRoomForRule, w ∈ lw_tbl := List.forall_mem_cons.mpr ⟨lw_one _ 3 152 rfl, (List.forall_mem_append.mpr ⟨(lw_mem _ [(2, 92)] rfl), (List.forall_mem_append.mpr ⟨mu_X10, mu_X6⟩)⟩)⟩
set_option maxRecDepth 100000 in
theorem mvs_k_X8_init_d : ∀ w ∈ vs_k_X8_init_d, w ∈ lw_tbl := List.forall_mem_cons.mpr ⟨lw_one _ 3 158 rfl, (List.forall_mem_append.mpr ⟨(lw_mem _ [(3, 159), (1, 53), (1, 54), (3, 172), (3, 160), (3, 179), (3, 183), (3, 162), (3, 166)] rfl), mu_X8⟩)⟩
set_option maxRecDepth 100000 in
theorem mvs_k_X6_tellRule : ∀ w ∈ vs_k_X6_tellRule, w ∈ lw_tbl := List.forall_mem_cons.mpr ⟨lw_one _ 3 215 rfl, (List.forall_mem_append.mpr ⟨(lw_mem _ [(1, 69), (1, 66)] rfl), mu_X6⟩)⟩
set_option maxRecDepth 100000 in
theorem mvs_k_X10_addDisjunction : ∀ w ∈ vs_k_X10_addDisjunction, w ∈ lw_tbl := List.forall_mem_cons.mpr ⟨lw_one _ 3 143 rfl, (List.forall_mem_append.mpr ⟨(lw_mem _ [(3, 144), (3, 146), (0, 13), (1, 1), (3, 149), (3, 151), (0, 14), (3, 129), (3, 131), (0, 12), (2, 92), (3, 154), (3, 155), (1, 19), (3, 156), (3, 157), (3, 212), (3, 213), (3, 214), (1, 2)] rfl), (List.forall_mem_append.mpr ⟨mvs_k_X10_checkPart, (List.forall_mem_append.mpr ⟨mvs_k_X10_checkRoomForRule, (List.forall_mem_append.mpr ⟨mvs_k_X10_forgetGrounding, (List.forall_mem_append.mpr ⟨mu_X10, (List.forall_mem_append.mpr ⟨mu_X8, (List.forall_mem_append.mpr ⟨mvs_k_X8_init_d, mvs_k_X6_tellRule⟩)⟩)⟩)⟩)⟩)⟩)⟩)⟩
set_option maxRecDepth 100000 in
theorem mvs_k_L_addDisjunction : ∀ w ∈ vs_k_L_addDisjunction, w ∈ lw_tbl := List.forall_mem_cons.mpr ⟨lw_one _ 3 139 rfl, (List.forall_mem_append.mpr ⟨(lw_mem _ [(3, 140), (3, 141), (3, 142), (1, 1), (3, 35)] rfl), mvs_k_X10_addDisjunction⟩)⟩
set_option maxRecDepth 100000 in
theorem mvs_k_X8_init_c : ∀ w ∈ vs_k_X8_init_c, w ∈ lw_tbl := List.forall_mem_cons.mpr ⟨lw_one _ 3 158 rfl, (List.forall_mem_append.mpr ⟨(lw_mem _ [(3, 159), (1, 53), (1, 54), (3, 172), (3, 160), (3, 179), (3, 183), (3, 162), (3, 166)] rfl), mu_X8⟩)⟩
set_option maxRecDepth 100000 in
theorem mvs_k_X6_hasPredicate : ∀ w ∈ vs_k_X6_hasPredicate, w ∈ lw_tbl := List.forall_mem_cons.mpr ⟨lw_one _ 3 231 rfl, (List.forall_mem_append.mpr ⟨(lw_mem _ [(1, 64)] rfl), mu_X6⟩)⟩
set_option maxRecDepth 100000 in
theorem mvs_k_X6_placesOf : ∀ w ∈ vs_k_X6_placesOf, w ∈ lw_tbl := List.forall_mem_cons.mpr ⟨lw_one _ 3 227 rfl, (List.forall_mem_append.mpr ⟨(lw_mem _ [(3, 228), (3, 229), (3, 230), (1, 2)] rfl), mvs_k_X6_hasPredicate⟩)⟩
set_option maxRecDepth 100000 in
theorem mvs_k_X10_addChoice : ∀ w ∈ vs_k_X10_addChoice, w ∈ lw_tbl := List.forall_mem_cons.mpr ⟨lw_one _ 3 222 rfl, (List.forall_mem_append.mpr ⟨(lw_mem _ [(3, 144), (3, 146), (0, 13), (1, 1), (3, 41), (1, 17), (3, 149), (3, 151), (0, 14), (3, 129), (3, 131), (0, 12), (3, 154), (3, 155), (1, 19), (3, 156), (3, 157), (2, 92), (3, 212), (3, 213), (3, 214), (1, 2), (3, 224), (3, 225), (3, 226)] rfl), (List.forall_mem_append.mpr ⟨mvs_k_X10_checkPart, (List.forall_mem_append.mpr ⟨ma_0, (List.forall_mem_append.mpr ⟨mvs_k_X10_checkRoomForRule, (List.forall_mem_append.mpr ⟨mvs_k_X10_forgetGrounding, (List.forall_mem_append.mpr ⟨mu_X8, (List.forall_mem_append.mpr ⟨mvs_k_X8_init_c, (List.forall_mem_append.mpr ⟨mu_X10, (List.forall_mem_append.mpr ⟨mvs_k_X6_tellRule, mvs_k_X6_placesOf⟩)⟩)⟩)⟩)⟩)⟩)⟩)⟩)⟩)⟩
set_option maxRecDepth 100000 in
theorem mvs_k_L_addChoice : ∀ w ∈ vs_k_L_addChoice, w ∈ lw_tbl := List.forall_mem_cons.mpr ⟨lw_one _ 3 218 rfl, (List.forall_mem_append.mpr ⟨(lw_mem _ [(3, 219), (3, 220), (3, 221), (1, 1), (3, 35)] rfl), mvs_k_X10_addChoice⟩)⟩
set_option maxRecDepth 100000 in
theorem mvs_k_X10_checkLevel : ∀ w ∈ vs_k_X10_checkLevel, w ∈ lw_tbl := List.forall_mem_cons.mpr ⟨lw_one _ 4 4 rfl, (List.forall_mem_append.mpr ⟨(lw_mem _ [(3, 41), (1, 17)] rfl), ma_0⟩)⟩
set_option maxRecDepth 100000 in
theorem mvs_k_X8_init_w : ∀ w ∈ vs_k_X8_init_w, w ∈ lw_tbl := List.forall_mem_cons.mpr ⟨lw_one _ 3 158 rfl, (List.forall_mem_append.mpr ⟨(lw_mem _ [(3, 159), (1, 53), (1, 54), (3, 172), (3, 160), (3, 179), (3, 183), (3, 162), (3, 166)] rfl), mu_X8⟩)⟩
set_option maxRecDepth 100000 in
theorem mvs_k_X10_addWeak : ∀ w ∈ vs_k_X10_addWeak, w ∈ lw_tbl := List.forall_mem_cons.mpr ⟨lw_one _ 3 239 rfl, (List.forall_mem_append.mpr ⟨(lw_mem _ [(3, 144), (3, 146), (0, 13), (1, 1), (3, 41), (1, 17), (4, 1), (4, 3), (0, 15), (3, 149), (3, 151), (0, 14), (3, 129), (3, 131), (0, 12), (3, 154), (3, 155), (1, 19), (3, 156), (3, 157), (2, 92), (3, 212), (3, 213), (3, 214), (1, 2)] rfl), (List.forall_mem_append.mpr ⟨mvs_k_X10_checkPart, (List.forall_mem_append.mpr ⟨ma_0, (List.forall_mem_append.mpr ⟨mvs_k_X10_checkLevel, (List.forall_mem_append.mpr ⟨mvs_k_X10_checkRoomForRule, (List.forall_mem_append.mpr ⟨mvs_k_X10_forgetGrounding, (List.forall_mem_append.mpr ⟨mu_X8, (List.forall_mem_append.mpr ⟨mvs_k_X8_init_w, (List.forall_mem_append.mpr ⟨mu_X10, mvs_k_X6_tellRule⟩)⟩)⟩)⟩)⟩)⟩)⟩)⟩)⟩)⟩
set_option maxRecDepth 100000 in
theorem mvs_k_L_addWeak : ∀ w ∈ vs_k_L_addWeak, w ∈ lw_tbl := List.forall_mem_cons.mpr ⟨lw_one _ 3 235 rfl, (List.forall_mem_append.mpr ⟨(lw_mem _ [(3, 236), (3, 237), (3, 238), (1, 1), (3, 35)] rfl), mvs_k_X10_addWeak⟩)⟩
set_option maxRecDepth 100000 in
theorem mvs_k_X6_ruleAt : ∀ w ∈ vs_k_X6_ruleAt, w ∈ lw_tbl := List.forall_mem_cons.mpr ⟨lw_one _ 2 172 rfl, (List.forall_mem_append.mpr ⟨(lw_mem _ [(1, 69)] rfl), mu_X6⟩)⟩
set_option maxRecDepth 100000 in
theorem ma_1 : ∀ w ∈ (vx_atS RX10 138 "java/lang/IndexOutOfBoundsException" ["java/lang/RuntimeException", "java/lang/Exception"]).filter goodWord, w ∈ lw_tbl := by decide +kernel
set_option maxRecDepth 100000 in
theorem mvs_k_X10_addHead : ∀ w ∈ vs_k_X10_addHead, w ∈ lw_tbl := List.forall_mem_cons.mpr ⟨lw_one _ 4 36 rfl, (List.forall_mem_append.mpr ⟨(lw_mem _ [(2, 92), (4, 37), (2, 170), (2, 171), (1, 2), (4, 39), (1, 25)] rfl), (List.forall_mem_append.mpr ⟨mu_X10, (List.forall_mem_append.mpr ⟨mvs_k_X6_ruleAt, ma_1⟩)⟩)⟩)⟩
set_option maxRecDepth 100000 in
theorem mvs_k_L_addHead : ∀ w ∈ vs_k_L_addHead, w ∈ lw_tbl := List.forall_mem_cons.mpr ⟨lw_one _ 4 8 rfl, (List.forall_mem_append.mpr ⟨(lw_mem _ [(4, 33), (4, 34), (4, 35), (1, 1), (4, 9)] rfl), mvs_k_X10_addHead⟩)⟩
set_option maxRecDepth 100000 in
theorem mvs_k_X10_addAtom : ∀ w ∈ vs_k_X10_addAtom, w ∈ lw_tbl := List.forall_mem_cons.mpr ⟨lw_one _ 4 127 rfl, (List.forall_mem_append.mpr ⟨(lw_mem _ [(2, 92), (4, 37), (2, 170), (2, 171), (1, 2), (4, 39), (1, 25)] rfl), (List.forall_mem_append.mpr ⟨mu_X10, (List.forall_mem_append.mpr ⟨mvs_k_X6_ruleAt, ma_1⟩)⟩)⟩)⟩
set_option maxRecDepth 100000 in
theorem mvs_k_L_addAtom : ∀ w ∈ vs_k_L_addAtom, w ∈ lw_tbl := List.forall_mem_cons.mpr ⟨lw_one _ 4 123 rfl, (List.forall_mem_append.mpr ⟨(lw_mem _ [(4, 124), (4, 125), (4, 126), (1, 1), (4, 9)] rfl), mvs_k_X10_addAtom⟩)⟩
set_option maxRecDepth 100000 in
theorem mvs_k_X10_addTest : ∀ w ∈ vs_k_X10_addTest, w ∈ lw_tbl := List.forall_mem_cons.mpr ⟨lw_one _ 4 148 rfl, (List.forall_mem_append.mpr ⟨(lw_mem _ [(2, 92), (4, 37), (2, 170), (2, 171), (1, 2), (4, 39), (1, 25)] rfl), (List.forall_mem_append.mpr ⟨mu_X10, (List.forall_mem_append.mpr ⟨mvs_k_X6_ruleAt, ma_1⟩)⟩)⟩)⟩
set_option maxRecDepth 100000 in
theorem mvs_k_L_addTest : ∀ w ∈ vs_k_L_addTest, w ∈ lw_tbl := List.forall_mem_cons.mpr ⟨lw_one _ 4 144 rfl, (List.forall_mem_append.mpr ⟨(lw_mem _ [(4, 145), (4, 146), (4, 147), (1, 1), (4, 9)] rfl), mvs_k_X10_addTest⟩)⟩
set_option maxRecDepth 100000 in
theorem mvs_k_X10_addCount : ∀ w ∈ vs_k_X10_addCount, w ∈ lw_tbl := List.forall_mem_cons.mpr ⟨lw_one _ 4 157 rfl, (List.forall_mem_append.mpr ⟨(lw_mem _ [(2, 92), (4, 37), (2, 170), (2, 171), (1, 2), (4, 39), (1, 25)] rfl), (List.forall_mem_append.mpr ⟨mu_X10, (List.forall_mem_append.mpr ⟨mvs_k_X6_ruleAt, ma_1⟩)⟩)⟩)⟩
set_option maxRecDepth 100000 in
theorem mvs_k_L_addCount : ∀ w ∈ vs_k_L_addCount, w ∈ lw_tbl := List.forall_mem_cons.mpr ⟨lw_one _ 4 153 rfl, (List.forall_mem_append.mpr ⟨(lw_mem _ [(4, 154), (4, 155), (4, 156), (1, 1), (4, 9)] rfl), mvs_k_X10_addCount⟩)⟩
set_option maxRecDepth 100000 in
theorem mvs_k_X10_isValue : ∀ w ∈ vs_k_X10_isValue, w ∈ lw_tbl := List.forall_mem_cons.mpr ⟨lw_one _ 4 57 rfl, (fun _ h => absurd h List.not_mem_nil)⟩
set_option maxRecDepth 100000 in
theorem mvs_k_X6_groundedByCalls : ∀ w ∈ vs_k_X6_groundedByCalls, w ∈ lw_tbl := List.forall_mem_cons.mpr ⟨lw_one _ 4 171 rfl, (List.forall_mem_append.mpr ⟨(lw_mem _ [(1, 73)] rfl), mu_X6⟩)⟩
set_option maxRecDepth 100000 in
theorem mvs_k_X6_parameterAt : ∀ w ∈ vs_k_X6_parameterAt, w ∈ lw_tbl := List.forall_mem_cons.mpr ⟨lw_one _ 2 192 rfl, (List.forall_mem_append.mpr ⟨(lw_mem _ [(1, 71), (1, 72)] rfl), mu_X6⟩)⟩
set_option maxRecDepth 100000 in
theorem mvs_k_X6_isGrounded : ∀ w ∈ vs_k_X6_isGrounded, w ∈ lw_tbl := List.forall_mem_cons.mpr ⟨lw_one _ 4 175 rfl, (List.forall_mem_append.mpr ⟨(lw_mem _ [(1, 73), (4, 176), (2, 190), (2, 191), (1, 2)] rfl), (List.forall_mem_append.mpr ⟨mu_X6, mvs_k_X6_parameterAt⟩)⟩)⟩
set_option maxRecDepth 100000 in
theorem mvs_k_X6_tellTime : ∀ w ∈ vs_k_X6_tellTime, w ∈ lw_tbl := List.forall_mem_cons.mpr ⟨lw_one _ 4 181 rfl, (List.forall_mem_append.mpr ⟨(lw_mem _ [(1, 73), (1, 71), (1, 72)] rfl), mu_X6⟩)⟩
set_option maxRecDepth 100000 in
theorem mvs_k_X6_groundedByCalls_2 : ∀ w ∈ vs_k_X6_groundedByCalls_2, w ∈ lw_tbl := List.forall_mem_cons.mpr ⟨lw_one _ 4 171 rfl, (List.forall_mem_append.mpr ⟨(lw_mem _ [(1, 73)] rfl), mu_X6⟩)⟩
set_option maxRecDepth 100000 in
theorem ma_2 : ∀ w ∈ (vx_atS RX10 75 "java/lang/IllegalStateException" ["java/lang/RuntimeException", "java/lang/Exception"]).filter goodWord, w ∈ lw_tbl := by decide +kernel
set_option maxRecDepth 100000 in
theorem mvs_k_X10_ground : ∀ w ∈ vs_k_X10_ground, w ∈ lw_tbl := List.forall_mem_cons.mpr ⟨lw_one _ 4 166 rfl, (List.forall_mem_append.mpr ⟨(lw_mem _ [(3, 41), (1, 17), (4, 55), (4, 56), (1, 1), (2, 92), (4, 168), (4, 169), (4, 170), (1, 2), (4, 172), (4, 173), (4, 174), (3, 129), (3, 131), (0, 12), (4, 178), (4, 179), (4, 180), (3, 113), (1, 18)] rfl), (List.forall_mem_append.mpr ⟨ma_0, (List.forall_mem_append.mpr ⟨mvs_k_X10_isValue, (List.forall_mem_append.mpr ⟨mu_X10, (List.forall_mem_append.mpr ⟨mvs_k_X6_groundedByCalls, (List.forall_mem_append.mpr ⟨mvs_k_X6_isGrounded, (List.forall_mem_append.mpr ⟨mvs_k_X10_forgetGrounding, (List.forall_mem_append.mpr ⟨mvs_k_X6_tellTime, (List.forall_mem_append.mpr ⟨mvs_k_X6_groundedByCalls_2, ma_2⟩)⟩)⟩)⟩)⟩)⟩)⟩)⟩)⟩)⟩
set_option maxRecDepth 100000 in
theorem mvs_k_L_ground : ∀ w ∈ vs_k_L_ground, w ∈ lw_tbl := List.forall_mem_cons.mpr ⟨lw_one _ 4 162 rfl, (List.forall_mem_append.mpr ⟨(lw_mem _ [(4, 163), (4, 164), (4, 165), (1, 1), (3, 35), (3, 36)] rfl), mvs_k_X10_ground⟩)⟩
set_option maxRecDepth 100000 in
theorem mvs_k_X10_checkedAtom : ∀ w ∈ vs_k_X10_checkedAtom, w ∈ lw_tbl := List.forall_mem_cons.mpr ⟨lw_one _ 4 192 rfl, (List.forall_mem_append.mpr ⟨(lw_mem _ [(2, 92), (4, 38), (3, 229), (3, 230), (1, 2), (4, 39), (1, 25)] rfl), (List.forall_mem_append.mpr ⟨mu_X10, (List.forall_mem_append.mpr ⟨mvs_k_X6_hasPredicate, ma_1⟩)⟩)⟩)⟩
set_option maxRecDepth 100000 in
theorem mvs_k_X10_addExternal : ∀ w ∈ vs_k_X10_addExternal, w ∈ lw_tbl := List.forall_mem_cons.mpr ⟨lw_one _ 4 188 rfl, (List.forall_mem_append.mpr ⟨(lw_mem _ [(4, 189), (4, 191), (0, 17), (1, 1)] rfl), mvs_k_X10_checkedAtom⟩)⟩
set_option maxRecDepth 100000 in
theorem mvs_k_L_addExternal : ∀ w ∈ vs_k_L_addExternal, w ∈ lw_tbl := List.forall_mem_cons.mpr ⟨lw_one _ 4 184 rfl, (List.forall_mem_append.mpr ⟨(lw_mem _ [(4, 185), (4, 186), (4, 187), (1, 1), (4, 9)] rfl), mvs_k_X10_addExternal⟩)⟩
set_option maxRecDepth 100000 in
theorem mvs_k_X10_setExternal : ∀ w ∈ vs_k_X10_setExternal, w ∈ lw_tbl := List.forall_mem_cons.mpr ⟨lw_one _ 4 211 rfl, (List.forall_mem_append.mpr ⟨(lw_mem _ [(4, 39), (1, 25), (2, 92)] rfl), (List.forall_mem_append.mpr ⟨ma_1, (List.forall_mem_append.mpr ⟨mu_X10, mu_X6⟩)⟩)⟩)⟩
set_option maxRecDepth 100000 in
theorem mvs_k_L_setExternal : ∀ w ∈ vs_k_L_setExternal, w ∈ lw_tbl := List.forall_mem_cons.mpr ⟨lw_one _ 4 207 rfl, (List.forall_mem_append.mpr ⟨(lw_mem _ [(4, 208), (4, 209), (4, 210), (1, 1), (4, 9)] rfl), mvs_k_X10_setExternal⟩)⟩
set_option maxRecDepth 100000 in
theorem mvs_k_X10_assume : ∀ w ∈ vs_k_X10_assume, w ∈ lw_tbl := List.forall_mem_cons.mpr ⟨lw_one _ 4 226 rfl, (List.forall_mem_append.mpr ⟨(lw_mem _ [(4, 189), (4, 191), (0, 17), (1, 1)] rfl), mvs_k_X10_checkedAtom⟩)⟩
set_option maxRecDepth 100000 in
theorem mvs_k_L_assume : ∀ w ∈ vs_k_L_assume, w ∈ lw_tbl := List.forall_mem_cons.mpr ⟨lw_one _ 4 222 rfl, (List.forall_mem_append.mpr ⟨(lw_mem _ [(4, 223), (4, 224), (4, 225), (1, 1), (4, 9)] rfl), mvs_k_X10_assume⟩)⟩
set_option maxRecDepth 100000 in
theorem mvs_k_X10_state : ∀ w ∈ vs_k_X10_state, w ∈ lw_tbl := List.forall_mem_cons.mpr ⟨lw_one _ 4 239 rfl, (List.forall_mem_append.mpr ⟨(lw_mem _ [(4, 189), (4, 191), (0, 17), (1, 1)] rfl), mvs_k_X10_checkedAtom⟩)⟩
set_option maxRecDepth 100000 in
theorem mvs_k_L_state : ∀ w ∈ vs_k_L_state, w ∈ lw_tbl := List.forall_mem_cons.mpr ⟨lw_one _ 4 235 rfl, (List.forall_mem_append.mpr ⟨(lw_mem _ [(4, 236), (4, 237), (4, 238), (1, 1), (4, 9)] rfl), mvs_k_X10_state⟩)⟩
set_option maxRecDepth 100000 in
theorem mvs_k_X10_instances : ∀ w ∈ vs_k_X10_instances, w ∈ lw_tbl := List.forall_mem_cons.mpr ⟨lw_one _ 5 7 rfl, (List.forall_mem_append.mpr ⟨(lw_mem _ [(2, 92), (4, 37), (2, 170), (2, 171), (1, 2), (4, 39), (1, 25)] rfl), (List.forall_mem_append.mpr ⟨mu_X10, (List.forall_mem_append.mpr ⟨mvs_k_X6_ruleAt, ma_1⟩)⟩)⟩)⟩
set_option maxRecDepth 100000 in
theorem mvs_k_L_instances : ∀ w ∈ vs_k_L_instances, w ∈ lw_tbl := List.forall_mem_cons.mpr ⟨lw_one _ 5 3 rfl, (List.forall_mem_append.mpr ⟨(lw_mem _ [(5, 4), (5, 5), (5, 6), (1, 1), (4, 9)] rfl), mvs_k_X10_instances⟩)⟩
set_option maxRecDepth 100000 in
theorem mvs_k_X1_clear : ∀ w ∈ vs_k_X1_clear, w ∈ lw_tbl := List.forall_mem_cons.mpr ⟨lw_one _ 2 135 rfl, (List.forall_mem_append.mpr ⟨(lw_mem _ [(1, 139)] rfl), mu_X1⟩)⟩
set_option maxRecDepth 100000 in
theorem mvs_k_X3_beginWithExternals : ∀ w ∈ vs_k_X3_beginWithExternals, w ∈ lw_tbl := List.forall_mem_cons.mpr ⟨lw_one _ 2 148 rfl, (List.forall_mem_append.mpr ⟨(lw_mem _ [(1, 144)] rfl), (List.forall_mem_append.mpr ⟨mu_X3, mu_X6⟩)⟩)⟩
set_option maxRecDepth 100000 in
theorem mvs_k_X3_rulesNeeding : ∀ w ∈ vs_k_X3_rulesNeeding, w ∈ lw_tbl := List.forall_mem_cons.mpr ⟨lw_one _ 2 168 rfl, (List.forall_mem_append.mpr ⟨(lw_mem _ [(1, 144)] rfl), (List.forall_mem_append.mpr ⟨mu_X3, mu_X6⟩)⟩)⟩
set_option maxRecDepth 100000 in
theorem mvs_k_X3_spread_0 : ∀ w ∈ vs_k_X3_spread_0, w ∈ lw_tbl := List.forall_mem_cons.mpr ⟨lw_one _ 2 164 rfl, (List.forall_mem_append.mpr ⟨(lw_mem _ [(2, 165), (2, 167), (0, 2), (1, 3)] rfl), mvs_k_X3_rulesNeeding⟩)⟩
set_option maxRecDepth 100000 in
theorem mvs_k_X3_rulesNeeding_1 : ∀ w ∈ vs_k_X3_rulesNeeding_1, w ∈ lw_tbl := List.forall_mem_cons.mpr ⟨lw_one _ 2 168 rfl, (List.forall_mem_append.mpr ⟨(lw_mem _ [(1, 144)] rfl), (List.forall_mem_append.mpr ⟨mu_X3, mu_X6⟩)⟩)⟩
set_option maxRecDepth 100000 in
theorem mvs_k_X3_spread_1 : ∀ w ∈ vs_k_X3_spread_1, w ∈ lw_tbl := List.forall_mem_cons.mpr ⟨lw_one _ 2 164 rfl, (List.forall_mem_append.mpr ⟨(lw_mem _ [(2, 165), (2, 167), (0, 2), (1, 3)] rfl), mvs_k_X3_rulesNeeding_1⟩)⟩
set_option maxRecDepth 100000 in
theorem mvs_k_X3_keepInstances : ∀ w ∈ vs_k_X3_keepInstances, w ∈ lw_tbl := List.forall_mem_cons.mpr ⟨lw_one _ 3 27 rfl, (List.forall_mem_append.mpr ⟨(lw_mem _ [(1, 163), (1, 160), (1, 144), (2, 169), (2, 170), (2, 171), (1, 2)] rfl), (List.forall_mem_append.mpr ⟨mu_X3, mvs_k_X6_ruleAt⟩)⟩)⟩
set_option maxRecDepth 100000 in
theorem mvs_k_X1_contains : ∀ w ∈ vs_k_X1_contains, w ∈ lw_tbl := List.forall_mem_cons.mpr ⟨lw_one _ 2 217 rfl, (List.forall_mem_append.mpr ⟨(lw_mem _ [(1, 139)] rfl), mu_X1⟩)⟩
set_option maxRecDepth 100000 in
theorem mvs_k_X3_numberOpenAtoms : ∀ w ∈ vs_k_X3_numberOpenAtoms, w ∈ lw_tbl := List.forall_mem_cons.mpr ⟨lw_one _ 3 31 rfl, (List.forall_mem_append.mpr ⟨(lw_mem _ [(1, 169), (1, 166), (1, 151), (2, 214), (2, 215), (2, 216), (1, 5)] rfl), (List.forall_mem_append.mpr ⟨mu_X3, mvs_k_X1_contains⟩)⟩)⟩
set_option maxRecDepth 100000 in
theorem mvs_k_X3_refresh : ∀ w ∈ vs_k_X3_refresh, w ∈ lw_tbl := List.forall_mem_cons.mpr ⟨lw_one _ 2 143 rfl, (List.forall_mem_append.mpr ⟨(lw_mem _ [(1, 171), (1, 148), (2, 144), (2, 133), (2, 134), (1, 5), (1, 151), (2, 145), (2, 147), (0, 0), (1, 3), (1, 173), (2, 161), (2, 163), (0, 1), (3, 24), (3, 26), (0, 9), (3, 28), (3, 30), (0, 10)] rfl), (List.forall_mem_append.mpr ⟨mu_X3, (List.forall_mem_append.mpr ⟨mvs_k_X1_clear, (List.forall_mem_append.mpr ⟨mvs_k_X3_beginWithExternals, (List.forall_mem_append.mpr ⟨mvs_k_X3_spread_0, (List.forall_mem_append.mpr ⟨mvs_k_X3_spread_1, (List.forall_mem_append.mpr ⟨mvs_k_X3_keepInstances, mvs_k_X3_numberOpenAtoms⟩)⟩)⟩)⟩)⟩)⟩)⟩)⟩
set_option maxRecDepth 100000 in
theorem mvs_a_X5_clearRows_0 : ∀ w ∈ vs_a_X5_clearRows_0, w ∈ lw_tbl := List.forall_mem_cons.mpr ⟨lw_one _ 5 43 rfl, (fun _ h => absurd h List.not_mem_nil)⟩
set_option maxRecDepth 100000 in
theorem mvs_a_X5_countLoops_0 : ∀ w ∈ vs_a_X5_countLoops_0, w ∈ lw_tbl := List.forall_mem_cons.mpr ⟨lw_one _ 5 39 rfl, (List.forall_mem_append.mpr ⟨(lw_mem _ [(2, 62), (5, 40), (5, 42), (0, 18), (1, 8)] rfl), (List.forall_mem_append.mpr ⟨mu_X5, (List.forall_mem_append.mpr ⟨mu_X3, mvs_a_X5_clearRows_0⟩)⟩)⟩)⟩
set_option maxRecDepth 100000 in
theorem mvs_k_X10_loops : ∀ w ∈ vs_k_X10_loops, w ∈ lw_tbl := List.forall_mem_cons.mpr ⟨lw_one _ 5 19 rfl, (List.forall_mem_append.mpr ⟨(lw_mem _ [(2, 93), (2, 140), (2, 141), (2, 142), (1, 3), (2, 95), (5, 36), (5, 37), (5, 38), (1, 8)] rfl), (List.forall_mem_append.mpr ⟨mu_X10, (List.forall_mem_append.mpr ⟨mvs_k_X3_refresh, (List.forall_mem_append.mpr ⟨mu_X3, mvs_a_X5_countLoops_0⟩)⟩)⟩)⟩)⟩
set_option maxRecDepth 100000 in
theorem mvs_k_L_loops : ∀ w ∈ vs_k_L_loops, w ∈ lw_tbl := List.forall_mem_cons.mpr ⟨lw_one _ 5 14 rfl, (List.forall_mem_append.mpr ⟨(lw_mem _ [(5, 16), (5, 17), (5, 18), (1, 1)] rfl), mvs_k_X10_loops⟩)⟩
set_option maxRecDepth 100000 in
theorem mvs_k_J13_bitCount_0 : ∀ w ∈ vs_k_J13_bitCount_0, w ∈ lw_tbl := List.forall_mem_cons.mpr ⟨lw_one _ 2 128 rfl, (lw_mem _ [(2, 129), (2, 130), (2, 131)] rfl)⟩
set_option maxRecDepth 100000 in
theorem mvs_k_X1_countOf_0 : ∀ w ∈ vs_k_X1_countOf_0, w ∈ lw_tbl := List.forall_mem_cons.mpr ⟨lw_one _ 2 125 rfl, (List.forall_mem_append.mpr ⟨(lw_mem _ [(1, 139), (2, 126), (2, 127), (1, 35)] rfl), (List.forall_mem_append.mpr ⟨mu_X1, mvs_k_J13_bitCount_0⟩)⟩)⟩
set_option maxRecDepth 100000 in
theorem mvs_k_X1_countOf_1 : ∀ w ∈ vs_k_X1_countOf_1, w ∈ lw_tbl := List.forall_mem_cons.mpr ⟨lw_one _ 2 125 rfl, (List.forall_mem_append.mpr ⟨(lw_mem _ [(1, 139), (2, 126), (2, 127), (1, 35)] rfl), (List.forall_mem_append.mpr ⟨mu_X1, mvs_k_J13_bitCount_0⟩)⟩)⟩
set_option maxRecDepth 100000 in
theorem mvs_k_X1_countOf_2 : ∀ w ∈ vs_k_X1_countOf_2, w ∈ lw_tbl := List.forall_mem_cons.mpr ⟨lw_one _ 2 125 rfl, (List.forall_mem_append.mpr ⟨(lw_mem _ [(1, 139), (2, 126), (2, 127), (1, 35)] rfl), (List.forall_mem_append.mpr ⟨mu_X1, mvs_k_J13_bitCount_0⟩)⟩)⟩
set_option maxRecDepth 100000 in
theorem mvs_k_X1_countOf_3 : ∀ w ∈ vs_k_X1_countOf_3, w ∈ lw_tbl := List.forall_mem_cons.mpr ⟨lw_one _ 2 125 rfl, (List.forall_mem_append.mpr ⟨(lw_mem _ [(1, 139), (2, 126), (2, 127), (1, 35)] rfl), (List.forall_mem_append.mpr ⟨mu_X1, mvs_k_J13_bitCount_0⟩)⟩)⟩
set_option maxRecDepth 100000 in
theorem mvs_k_X1_countOf_4 : ∀ w ∈ vs_k_X1_countOf_4, w ∈ lw_tbl := List.forall_mem_cons.mpr ⟨lw_one _ 2 125 rfl, (List.forall_mem_append.mpr ⟨(lw_mem _ [(1, 139), (2, 126), (2, 127), (1, 35)] rfl), (List.forall_mem_append.mpr ⟨mu_X1, mvs_k_J13_bitCount_0⟩)⟩)⟩
set_option maxRecDepth 100000 in
theorem mvs_k_X1_countOf_5 : ∀ w ∈ vs_k_X1_countOf_5, w ∈ lw_tbl := List.forall_mem_cons.mpr ⟨lw_one _ 2 125 rfl, (List.forall_mem_append.mpr ⟨(lw_mem _ [(1, 139), (2, 126), (2, 127), (1, 35)] rfl), (List.forall_mem_append.mpr ⟨mu_X1, mvs_k_J13_bitCount_0⟩)⟩)⟩
set_option maxRecDepth 100000 in
theorem mvs_a_X9_noteRules_0 : ∀ w ∈ vs_a_X9_noteRules_0, w ∈ lw_tbl := List.forall_mem_cons.mpr ⟨lw_one _ 5 112 rfl, (List.forall_mem_append.mpr ⟨(lw_mem _ [(2, 12), (2, 13), (2, 3)] rfl), (List.forall_mem_append.mpr ⟨mu_X9, mu_X6⟩)⟩)⟩
set_option maxRecDepth 100000 in
theorem mvs_a_X9_compile_0 : ∀ w ∈ vs_a_X9_compile_0, w ∈ lw_tbl := List.forall_mem_cons.mpr ⟨lw_one _ 5 96 rfl, (List.forall_mem_append.mpr ⟨(lw_mem _ [(2, 9), (2, 10), (2, 4), (5, 97), (2, 123), (2, 124), (1, 5), (2, 14), (2, 3), (5, 109), (5, 111), (0, 26), (1, 6), (2, 5), (2, 6), (2, 18)] rfl), (List.forall_mem_append.mpr ⟨mu_X9, (List.forall_mem_append.mpr ⟨mu_X3, (List.forall_mem_append.mpr ⟨mvs_k_X1_countOf_0, (List.forall_mem_append.mpr ⟨mvs_k_X1_countOf_1, (List.forall_mem_append.mpr ⟨mvs_k_X1_countOf_2, (List.forall_mem_append.mpr ⟨mvs_k_X1_countOf_3, (List.forall_mem_append.mpr ⟨mvs_k_X1_countOf_4, (List.forall_mem_append.mpr ⟨mvs_k_X1_countOf_5, (List.forall_mem_append.mpr ⟨mu_X6, (List.forall_mem_append.mpr ⟨mvs_a_X9_noteRules_0, mu_X7⟩)⟩)⟩)⟩)⟩)⟩)⟩)⟩)⟩)⟩)⟩)⟩
set_option maxRecDepth 100000 in
theorem mvs_a_X9_fitAssumptions_0 : ∀ w ∈ vs_a_X9_fitAssumptions_0, w ∈ lw_tbl := List.forall_mem_cons.mpr ⟨lw_one _ 5 146 rfl, (List.forall_mem_append.mpr ⟨(lw_mem _ [(2, 15), (2, 16), (2, 17), (5, 147), (2, 215), (2, 216), (1, 5)] rfl), (List.forall_mem_append.mpr ⟨mu_X9, mvs_k_X1_contains⟩)⟩)⟩
set_option maxRecDepth 100000 in
theorem mvs_a_X9_prepare_0 : ∀ w ∈ vs_a_X9_prepare_0, w ∈ lw_tbl := List.forall_mem_cons.mpr ⟨lw_one _ 5 92 rfl, (List.forall_mem_append.mpr ⟨(lw_mem _ [(2, 19), (5, 93), (5, 95), (0, 24), (1, 6), (5, 143), (5, 145), (0, 29)] rfl), (List.forall_mem_append.mpr ⟨mu_X9, (List.forall_mem_append.mpr ⟨mvs_a_X9_compile_0, mvs_a_X9_fitAssumptions_0⟩)⟩)⟩)⟩
set_option maxRecDepth 100000 in
theorem mvs_a_X9_fullSet_0 : ∀ w ∈ vs_a_X9_fullSet_0, w ∈ lw_tbl := List.forall_mem_cons.mpr ⟨lw_one _ 5 155 rfl, (List.forall_mem_append.mpr ⟨(lw_mem _ [(2, 4), (5, 156), (5, 157), (1, 22), (5, 158)] rfl), (List.forall_mem_append.mpr ⟨mu_X9, mu_X3⟩)⟩)⟩
set_option maxRecDepth 100000 in
theorem mvs_a_X9_fits_0 : ∀ w ∈ vs_a_X9_fits_0, w ∈ lw_tbl := List.forall_mem_cons.mpr ⟨lw_one _ 5 162 rfl, (List.forall_mem_append.mpr ⟨(lw_mem _ [(2, 17), (2, 15), (2, 16)] rfl), mu_X9⟩)⟩
set_option maxRecDepth 100000 in
theorem mvs_a_X9_countsHeld_0 : ∀ w ∈ vs_a_X9_countsHeld_0, w ∈ lw_tbl := List.forall_mem_cons.mpr ⟨lw_one _ 5 170 rfl, (List.forall_mem_append.mpr ⟨(lw_mem _ [(5, 171), (2, 13)] rfl), mu_X9⟩)⟩
set_option maxRecDepth 100000 in
theorem mvs_a_X9_isModel_0 : ∀ w ∈ vs_a_X9_isModel_0, w ∈ lw_tbl := List.forall_mem_cons.mpr ⟨lw_one _ 5 166 rfl, (List.forall_mem_append.mpr ⟨(lw_mem _ [(5, 167), (5, 169), (0, 33), (1, 6), (2, 18), (2, 5)] rfl), (List.forall_mem_append.mpr ⟨mvs_a_X9_countsHeld_0, (List.forall_mem_append.mpr ⟨mu_X9, mu_X7⟩)⟩)⟩)⟩
set_option maxRecDepth 100000 in
theorem mvs_a_X9_listActive_0 : ∀ w ∈ vs_a_X9_listActive_0, w ∈ lw_tbl := List.forall_mem_cons.mpr ⟨lw_one _ 5 203 rfl, (List.forall_mem_append.mpr ⟨(lw_mem _ [(5, 167), (5, 169), (0, 33), (1, 6), (2, 8), (2, 5)] rfl), (List.forall_mem_append.mpr ⟨mvs_a_X9_countsHeld_0, (List.forall_mem_append.mpr ⟨mu_X9, mu_X7⟩)⟩)⟩)⟩
set_option maxRecDepth 100000 in
theorem mvs_a_X9_grow_0 : ∀ w ∈ vs_a_X9_grow_0, w ∈ lw_tbl := List.forall_mem_cons.mpr ⟨lw_one _ 5 213 rfl, (List.forall_mem_append.mpr ⟨(lw_mem _ [(5, 167), (5, 169), (0, 33), (1, 6), (2, 8)] rfl), (List.forall_mem_append.mpr ⟨mvs_a_X9_countsHeld_0, mu_X9⟩)⟩)⟩
set_option maxRecDepth 100000 in
theorem mvs_a_X9_headsToSplit_0 : ∀ w ∈ vs_a_X9_headsToSplit_0, w ∈ lw_tbl := List.forall_mem_cons.mpr ⟨lw_one _ 5 225 rfl, (List.forall_mem_append.mpr ⟨(lw_mem _ [(5, 167), (5, 169), (0, 33), (1, 6), (2, 8)] rfl), (List.forall_mem_append.mpr ⟨mvs_a_X9_countsHeld_0, mu_X9⟩)⟩)⟩
set_option maxRecDepth 100000 in
theorem mvs_a_X9_hasSmaller_0 : ∀ w ∈ vs_a_X9_hasSmaller_0, w ∈ lw_tbl := List.forall_mem_cons.mpr ⟨lw_one _ 5 199 rfl, (List.forall_mem_append.mpr ⟨(lw_mem _ [(5, 200), (5, 202), (0, 37), (1, 6), (2, 11), (2, 14), (5, 209), (5, 210), (5, 212), (0, 38), (5, 222), (5, 224), (0, 40)] rfl), (List.forall_mem_append.mpr ⟨mvs_a_X9_listActive_0, (List.forall_mem_append.mpr ⟨mu_X9, (List.forall_mem_append.mpr ⟨mvs_a_X9_grow_0, mvs_a_X9_headsToSplit_0⟩)⟩)⟩)⟩)⟩
set_option maxRecDepth 100000 in
theorem mvs_a_X9_costOf_0 : ∀ w ∈ vs_a_X9_costOf_0, w ∈ lw_tbl := List.forall_mem_cons.mpr ⟨lw_one _ 5 229 rfl, (List.forall_mem_append.mpr ⟨(lw_mem _ [(5, 167), (5, 169), (0, 33), (1, 6), (2, 6)] rfl), (List.forall_mem_append.mpr ⟨mvs_a_X9_countsHeld_0, (List.forall_mem_append.mpr ⟨mu_X9, mu_X7⟩)⟩)⟩)⟩
set_option maxRecDepth 100000 in
theorem mvs_a_X9_costOf_1 : ∀ w ∈ vs_a_X9_costOf_1, w ∈ lw_tbl := List.forall_mem_cons.mpr ⟨lw_one _ 5 229 rfl, (List.forall_mem_append.mpr ⟨(lw_mem _ [(5, 167), (5, 169), (0, 33), (1, 6), (2, 6)] rfl), (List.forall_mem_append.mpr ⟨mvs_a_X9_countsHeld_0, (List.forall_mem_append.mpr ⟨mu_X9, mu_X7⟩)⟩)⟩)⟩
set_option maxRecDepth 100000 in
theorem mvs_a_X9_costOf_2 : ∀ w ∈ vs_a_X9_costOf_2, w ∈ lw_tbl := List.forall_mem_cons.mpr ⟨lw_one _ 5 229 rfl, (List.forall_mem_append.mpr ⟨(lw_mem _ [(5, 167), (5, 169), (0, 33), (1, 6), (2, 6)] rfl), (List.forall_mem_append.mpr ⟨mvs_a_X9_countsHeld_0, (List.forall_mem_append.mpr ⟨mu_X9, mu_X7⟩)⟩)⟩)⟩
set_option maxRecDepth 100000 in
theorem mvs_a_X0_insert_0 : ∀ w ∈ vs_a_X0_insert_0, w ∈ lw_tbl := List.forall_mem_cons.mpr ⟨lw_one _ 5 233 rfl, (List.forall_mem_append.mpr ⟨(lw_mem _ [(2, 79), (2, 77), (2, 78)] rfl), mu_X0⟩)⟩
set_option maxRecDepth 100000 in
theorem mvs_a_X9_findAnswers_0 : ∀ w ∈ vs_a_X9_findAnswers_0, w ∈ lw_tbl := List.forall_mem_cons.mpr ⟨lw_one _ 5 151 rfl, (List.forall_mem_append.mpr ⟨(lw_mem _ [(5, 152), (5, 154), (0, 30), (1, 6), (5, 159), (5, 161), (0, 31), (5, 163), (5, 165), (0, 32), (5, 196), (5, 198), (0, 36), (5, 226), (5, 228), (0, 41), (5, 230), (5, 231), (5, 232), (1, 9)] rfl), (List.forall_mem_append.mpr ⟨mu_X0, (List.forall_mem_append.mpr ⟨mvs_a_X9_fullSet_0, (List.forall_mem_append.mpr ⟨mvs_a_X9_fits_0, (List.forall_mem_append.mpr ⟨mvs_a_X9_isModel_0, (List.forall_mem_append.mpr ⟨mvs_a_X9_hasSmaller_0, (List.forall_mem_append.mpr ⟨mvs_a_X9_costOf_0, (List.forall_mem_append.mpr ⟨mvs_a_X9_costOf_1, (List.forall_mem_append.mpr ⟨mvs_a_X9_costOf_2, mvs_a_X0_insert_0⟩)⟩)⟩)⟩)⟩)⟩)⟩)⟩)⟩)⟩
set_option maxRecDepth 100000 in
theorem mvs_k_X10_walk : ∀ w ∈ vs_k_X10_walk, w ∈ lw_tbl := List.forall_mem_cons.mpr ⟨lw_one _ 5 87 rfl, (List.forall_mem_append.mpr ⟨(lw_mem _ [(2, 98), (2, 93), (2, 140), (2, 141), (2, 142), (1, 3), (2, 94), (2, 96), (2, 97), (5, 89), (5, 90), (5, 91), (1, 6), (5, 148), (5, 149), (5, 150)] rfl), (List.forall_mem_append.mpr ⟨mu_X10, (List.forall_mem_append.mpr ⟨mu_X0, (List.forall_mem_append.mpr ⟨mvs_k_X3_refresh, (List.forall_mem_append.mpr ⟨mu_X3, (List.forall_mem_append.mpr ⟨mvs_a_X9_prepare_0, mvs_a_X9_findAnswers_0⟩)⟩)⟩)⟩)⟩)⟩)⟩
set_option maxRecDepth 100000 in
theorem mvs_k_L_walk : ∀ w ∈ vs_k_L_walk, w ∈ lw_tbl := List.forall_mem_cons.mpr ⟨lw_one _ 5 83 rfl, (List.forall_mem_append.mpr ⟨(lw_mem _ [(5, 84), (5, 85), (5, 86), (1, 1)] rfl), mvs_k_X10_walk⟩)⟩
set_option maxRecDepth 100000 in
theorem mvs_a_X9_hasSmallerByAll_0 : ∀ w ∈ vs_a_X9_hasSmallerByAll_0, w ∈ lw_tbl := List.forall_mem_cons.mpr ⟨lw_one _ 6 22 rfl, (List.forall_mem_append.mpr ⟨(lw_mem _ [(5, 200), (5, 202), (0, 37), (1, 6)] rfl), mvs_a_X9_listActive_0⟩)⟩
set_option maxRecDepth 100000 in
theorem mvs_a_X9_countByAll_0 : ∀ w ∈ vs_a_X9_countByAll_0, w ∈ lw_tbl := List.forall_mem_cons.mpr ⟨lw_one _ 6 18 rfl, (List.forall_mem_append.mpr ⟨(lw_mem _ [(5, 152), (5, 154), (0, 30), (1, 6), (5, 159), (5, 161), (0, 31), (5, 163), (5, 165), (0, 32), (6, 19), (6, 21), (0, 44)] rfl), (List.forall_mem_append.mpr ⟨mvs_a_X9_fullSet_0, (List.forall_mem_append.mpr ⟨mvs_a_X9_fits_0, (List.forall_mem_append.mpr ⟨mvs_a_X9_isModel_0, mvs_a_X9_hasSmallerByAll_0⟩)⟩)⟩)⟩)⟩
set_option maxRecDepth 100000 in
theorem mvs_k_X10_walkByAll : ∀ w ∈ vs_k_X10_walkByAll, w ∈ lw_tbl := List.forall_mem_cons.mpr ⟨lw_one _ 6 13 rfl, (List.forall_mem_append.mpr ⟨(lw_mem _ [(2, 93), (2, 140), (2, 141), (2, 142), (1, 3), (2, 94), (2, 96), (2, 97), (5, 89), (5, 90), (5, 91), (1, 6), (6, 15), (6, 16), (6, 17)] rfl), (List.forall_mem_append.mpr ⟨mu_X10, (List.forall_mem_append.mpr ⟨mvs_k_X3_refresh, (List.forall_mem_append.mpr ⟨mu_X3, (List.forall_mem_append.mpr ⟨mvs_a_X9_prepare_0, mvs_a_X9_countByAll_0⟩)⟩)⟩)⟩)⟩)⟩
set_option maxRecDepth 100000 in
theorem mvs_k_L_walkByAll : ∀ w ∈ vs_k_L_walkByAll, w ∈ lw_tbl := List.forall_mem_cons.mpr ⟨lw_one _ 6 9 rfl, (List.forall_mem_append.mpr ⟨(lw_mem _ [(6, 10), (6, 11), (6, 12), (1, 1)] rfl), mvs_k_X10_walkByAll⟩)⟩
set_option maxRecDepth 100000 in
theorem mvs_k_X10_checkWalk : ∀ w ∈ vs_k_X10_checkWalk, w ∈ lw_tbl := List.forall_mem_cons.mpr ⟨lw_one _ 6 41 rfl, (List.forall_mem_append.mpr ⟨(lw_mem _ [(2, 98), (3, 113), (1, 18)] rfl), (List.forall_mem_append.mpr ⟨mu_X10, (List.forall_mem_append.mpr ⟨mu_X0, ma_2⟩)⟩)⟩)⟩
set_option maxRecDepth 100000 in
theorem mvs_k_X10_checkedAnswer : ∀ w ∈ vs_k_X10_checkedAnswer, w ∈ lw_tbl := List.forall_mem_cons.mpr ⟨lw_one _ 6 37 rfl, (List.forall_mem_append.mpr ⟨(lw_mem _ [(6, 38), (6, 40), (0, 47), (1, 1)] rfl), mvs_k_X10_checkWalk⟩)⟩
set_option maxRecDepth 100000 in
theorem mvs_k_X10_has : ∀ w ∈ vs_k_X10_has, w ∈ lw_tbl := List.forall_mem_cons.mpr ⟨lw_one _ 6 33 rfl, (List.forall_mem_append.mpr ⟨(lw_mem _ [(6, 34), (6, 36), (0, 46), (1, 1)] rfl), mvs_k_X10_checkedAnswer⟩)⟩
set_option maxRecDepth 100000 in
theorem mvs_k_L_has : ∀ w ∈ vs_k_L_has, w ∈ lw_tbl := List.forall_mem_cons.mpr ⟨lw_one _ 6 29 rfl, (List.forall_mem_append.mpr ⟨(lw_mem _ [(6, 30), (6, 31), (6, 32), (1, 1), (3, 36)] rfl), mvs_k_X10_has⟩)⟩
set_option maxRecDepth 100000 in
theorem mvs_k_X10_size : ∀ w ∈ vs_k_X10_size, w ∈ lw_tbl := List.forall_mem_cons.mpr ⟨lw_one _ 6 58 rfl, (List.forall_mem_append.mpr ⟨(lw_mem _ [(2, 94), (6, 34), (6, 36), (0, 46), (1, 1)] rfl), (List.forall_mem_append.mpr ⟨mu_X10, mvs_k_X10_checkedAnswer⟩)⟩)⟩
set_option maxRecDepth 100000 in
theorem mvs_k_L_size : ∀ w ∈ vs_k_L_size, w ∈ lw_tbl := List.forall_mem_cons.mpr ⟨lw_one _ 6 54 rfl, (List.forall_mem_append.mpr ⟨(lw_mem _ [(6, 55), (6, 56), (6, 57), (1, 1), (3, 36)] rfl), mvs_k_X10_size⟩)⟩
set_option maxRecDepth 100000 in
theorem mvs_k_X10_cost : ∀ w ∈ vs_k_X10_cost, w ∈ lw_tbl := List.forall_mem_cons.mpr ⟨lw_one _ 6 70 rfl, (List.forall_mem_append.mpr ⟨(lw_mem _ [(6, 34), (6, 36), (0, 46), (1, 1)] rfl), mvs_k_X10_checkedAnswer⟩)⟩
set_option maxRecDepth 100000 in
theorem mvs_k_L_cost : ∀ w ∈ vs_k_L_cost, w ∈ lw_tbl := List.forall_mem_cons.mpr ⟨lw_one _ 6 66 rfl, (List.forall_mem_append.mpr ⟨(lw_mem _ [(6, 67), (6, 68), (6, 69), (1, 1), (3, 36)] rfl), mvs_k_X10_cost⟩)⟩
set_option maxRecDepth 100000 in
theorem mvs_k_X10_best : ∀ w ∈ vs_k_X10_best, w ∈ lw_tbl := List.forall_mem_cons.mpr ⟨lw_one _ 6 78 rfl, (List.forall_mem_append.mpr ⟨(lw_mem _ [(6, 38), (6, 40), (0, 47), (1, 1)] rfl), mvs_k_X10_checkWalk⟩)⟩
set_option maxRecDepth 100000 in
theorem mvs_k_L_best : ∀ w ∈ vs_k_L_best, w ∈ lw_tbl := List.forall_mem_cons.mpr ⟨lw_one _ 6 74 rfl, (List.forall_mem_append.mpr ⟨(lw_mem _ [(6, 75), (6, 76), (6, 77), (1, 1), (3, 36)] rfl), mvs_k_X10_best⟩)⟩
set_option maxRecDepth 100000 in
theorem mvs_k_X10_projected : ∀ w ∈ vs_k_X10_projected, w ∈ lw_tbl := List.forall_mem_cons.mpr ⟨lw_one _ 6 89 rfl, (List.forall_mem_append.mpr ⟨(lw_mem _ [(6, 38), (6, 40), (0, 47), (1, 1)] rfl), mvs_k_X10_checkWalk⟩)⟩
set_option maxRecDepth 100000 in
theorem mvs_k_L_projected : ∀ w ∈ vs_k_L_projected, w ∈ lw_tbl := List.forall_mem_cons.mpr ⟨lw_one _ 6 85 rfl, (List.forall_mem_append.mpr ⟨(lw_mem _ [(6, 86), (6, 87), (6, 88), (1, 1), (3, 36)] rfl), mvs_k_X10_projected⟩)⟩
set_option maxRecDepth 100000 in
theorem mvs_k_X10_holds : ∀ w ∈ vs_k_X10_holds, w ∈ lw_tbl := List.forall_mem_cons.mpr ⟨lw_one _ 6 105 rfl, (List.forall_mem_append.mpr ⟨(lw_mem _ [(6, 38), (6, 40), (0, 47), (1, 1)] rfl), mvs_k_X10_checkWalk⟩)⟩
set_option maxRecDepth 100000 in
theorem mvs_k_L_holds : ∀ w ∈ vs_k_L_holds, w ∈ lw_tbl := List.forall_mem_cons.mpr ⟨lw_one _ 6 101 rfl, (List.forall_mem_append.mpr ⟨(lw_mem _ [(6, 102), (6, 103), (6, 104), (1, 1), (3, 36)] rfl), mvs_k_X10_holds⟩)⟩
set_option maxRecDepth 100000 in
theorem mvs_k_X10_reason : ∀ w ∈ vs_k_X10_reason, w ∈ lw_tbl := List.forall_mem_cons.mpr ⟨lw_one _ 6 117 rfl, (List.forall_mem_append.mpr ⟨(lw_mem _ [(6, 34), (6, 36), (0, 46), (1, 1)] rfl), mvs_k_X10_checkedAnswer⟩)⟩
set_option maxRecDepth 100000 in
theorem mvs_k_L_reason : ∀ w ∈ vs_k_L_reason, w ∈ lw_tbl := List.forall_mem_cons.mpr ⟨lw_one _ 6 112 rfl, (List.forall_mem_append.mpr ⟨(lw_mem _ [(6, 114), (6, 115), (6, 116), (1, 1), (3, 36)] rfl), mvs_k_X10_reason⟩)⟩
set_option maxRecDepth 100000 in
theorem mvs_k_X10_share : ∀ w ∈ vs_k_X10_share, w ∈ lw_tbl := List.forall_mem_cons.mpr ⟨lw_one _ 6 173 rfl, (List.forall_mem_append.mpr ⟨(lw_mem _ [(6, 38), (6, 40), (0, 47), (1, 1)] rfl), mvs_k_X10_checkWalk⟩)⟩
set_option maxRecDepth 100000 in
theorem mvs_k_L_share : ∀ w ∈ vs_k_L_share, w ∈ lw_tbl := List.forall_mem_cons.mpr ⟨lw_one _ 6 155 rfl, (List.forall_mem_append.mpr ⟨(lw_mem _ [(6, 170), (6, 171), (6, 172), (1, 1), (3, 36)] rfl), mvs_k_X10_share⟩)⟩
set_option maxRecDepth 100000 in
theorem mvs_k_X10_commonest : ∀ w ∈ vs_k_X10_commonest, w ∈ lw_tbl := List.forall_mem_cons.mpr ⟨lw_one _ 6 183 rfl, (List.forall_mem_append.mpr ⟨(lw_mem _ [(6, 38), (6, 40), (0, 47), (1, 1)] rfl), mvs_k_X10_checkWalk⟩)⟩
set_option maxRecDepth 100000 in
theorem mvs_k_L_commonest : ∀ w ∈ vs_k_L_commonest, w ∈ lw_tbl := List.forall_mem_cons.mpr ⟨lw_one _ 6 179 rfl, (List.forall_mem_append.mpr ⟨(lw_mem _ [(6, 180), (6, 181), (6, 182), (1, 1), (3, 36)] rfl), mvs_k_X10_commonest⟩)⟩
set_option maxRecDepth 100000 in
theorem mvs_k_X10_meanSize : ∀ w ∈ vs_k_X10_meanSize, w ∈ lw_tbl := List.forall_mem_cons.mpr ⟨lw_one _ 6 192 rfl, (List.forall_mem_append.mpr ⟨(lw_mem _ [(6, 38), (6, 40), (0, 47), (1, 1)] rfl), mvs_k_X10_checkWalk⟩)⟩
set_option maxRecDepth 100000 in
theorem mvs_k_L_meanSize : ∀ w ∈ vs_k_L_meanSize, w ∈ lw_tbl := List.forall_mem_cons.mpr ⟨lw_one _ 6 188 rfl, (List.forall_mem_append.mpr ⟨(lw_mem _ [(6, 189), (6, 190), (6, 191), (1, 1), (3, 36)] rfl), mvs_k_X10_meanSize⟩)⟩
set_option maxRecDepth 100000 in
theorem mvs_k_X6_init : ∀ w ∈ vs_k_X6_init, w ∈ lw_tbl := List.forall_mem_cons.mpr ⟨lw_one _ 1 59 rfl, (List.forall_mem_append.mpr ⟨(lw_mem _ [(1, 60), (1, 53), (1, 54), (1, 102), (1, 63), (1, 61), (1, 66), (1, 71), (1, 72), (1, 73), (1, 75), (1, 103), (1, 76)] rfl), mu_X6⟩)⟩
set_option maxRecDepth 100000 in
theorem mvs_k_X2_init : ∀ w ∈ vs_k_X2_init, w ∈ lw_tbl := List.forall_mem_cons.mpr ⟨lw_one _ 1 114 rfl, (lw_mem _ [(1, 115), (1, 53), (1, 54)] rfl)⟩
set_option maxRecDepth 100000 in
theorem mvs_k_X1_init : ∀ w ∈ vs_k_X1_init, w ∈ lw_tbl := List.forall_mem_cons.mpr ⟨lw_one _ 1 137 rfl, (List.forall_mem_append.mpr ⟨(lw_mem _ [(1, 138), (1, 53), (1, 54), (1, 143), (1, 139)] rfl), mu_X1⟩)⟩
set_option maxRecDepth 100000 in
theorem mvs_k_X3_init : ∀ w ∈ vs_k_X3_init, w ∈ lw_tbl := List.forall_mem_cons.mpr ⟨lw_one _ 1 108 rfl, (List.forall_mem_append.mpr ⟨(lw_mem _ [(1, 109), (1, 53), (1, 54), (1, 110), (1, 111), (1, 4), (1, 113), (1, 145), (1, 133), (1, 134), (1, 5), (1, 136), (1, 148), (1, 151), (1, 102), (1, 154), (1, 158), (1, 159), (1, 160), (1, 165), (1, 166), (1, 144)] rfl), (List.forall_mem_append.mpr ⟨mu_X2, (List.forall_mem_append.mpr ⟨mvs_k_X2_init, (List.forall_mem_append.mpr ⟨mu_X3, (List.forall_mem_append.mpr ⟨mu_X1, mvs_k_X1_init⟩)⟩)⟩)⟩)⟩)⟩
set_option maxRecDepth 100000 in
theorem mvs_k_X7_init : ∀ w ∈ vs_k_X7_init, w ∈ lw_tbl := List.forall_mem_cons.mpr ⟨lw_one _ 1 218 rfl, (List.forall_mem_append.mpr ⟨(lw_mem _ [(1, 219), (1, 53), (1, 54), (1, 102), (1, 220), (1, 221), (1, 222), (1, 223), (1, 224), (1, 225)] rfl), mu_X7⟩)⟩
set_option maxRecDepth 100000 in
theorem mvs_k_X9_init : ∀ w ∈ vs_k_X9_init, w ∈ lw_tbl := List.forall_mem_cons.mpr ⟨lw_one _ 1 212 rfl, (List.forall_mem_append.mpr ⟨(lw_mem _ [(1, 213), (1, 53), (1, 54), (1, 214), (1, 215), (1, 7), (1, 217), (2, 5), (2, 6), (1, 102), (2, 7), (2, 9), (2, 10), (2, 11), (2, 3), (2, 4)] rfl), (List.forall_mem_append.mpr ⟨mu_X7, (List.forall_mem_append.mpr ⟨mvs_k_X7_init, mu_X9⟩)⟩)⟩)⟩
set_option maxRecDepth 100000 in
theorem mvs_k_X5_init : ∀ w ∈ vs_k_X5_init, w ∈ lw_tbl := List.forall_mem_cons.mpr ⟨lw_one _ 2 60 rfl, (List.forall_mem_append.mpr ⟨(lw_mem _ [(2, 61), (1, 53), (1, 54), (1, 143), (2, 63), (2, 62)] rfl), mu_X5⟩)⟩
set_option maxRecDepth 100000 in
theorem mvs_k_X0_init : ∀ w ∈ vs_k_X0_init, w ∈ lw_tbl := List.forall_mem_cons.mpr ⟨lw_one _ 2 75 rfl, (List.forall_mem_append.mpr ⟨(lw_mem _ [(2, 76), (1, 53), (1, 54), (1, 102), (2, 77), (1, 143), (2, 78)] rfl), mu_X0⟩)⟩
set_option maxRecDepth 100000 in
theorem mvs_k_X10_init : ∀ w ∈ vs_k_X10_init, w ∈ lw_tbl := List.forall_mem_cons.mpr ⟨lw_one _ 1 51 rfl, (List.forall_mem_append.mpr ⟨(lw_mem _ [(1, 52), (1, 53), (1, 54), (1, 55), (1, 56), (1, 2), (1, 58), (2, 92), (1, 104), (1, 105), (1, 3), (1, 106), (1, 107), (2, 93), (1, 208), (1, 209), (1, 6), (1, 210), (1, 211), (2, 94), (2, 56), (2, 57), (1, 8), (2, 58), (2, 59), (2, 95), (2, 69), (1, 134), (1, 5), (1, 136), (2, 96), (2, 97), (2, 71), (2, 72), (1, 9), (2, 74), (2, 98)] rfl), (List.forall_mem_append.mpr ⟨mu_X6, (List.forall_mem_append.mpr ⟨mvs_k_X6_init, (List.forall_mem_append.mpr ⟨mu_X10, (List.forall_mem_append.mpr ⟨mu_X3, (List.forall_mem_append.mpr ⟨mvs_k_X3_init, (List.forall_mem_append.mpr ⟨mu_X9, (List.forall_mem_append.mpr ⟨mvs_k_X9_init, (List.forall_mem_append.mpr ⟨mu_X5, (List.forall_mem_append.mpr ⟨mvs_k_X5_init, (List.forall_mem_append.mpr ⟨mu_X1, (List.forall_mem_append.mpr ⟨mvs_k_X1_init, (List.forall_mem_append.mpr ⟨mu_X0, mvs_k_X0_init⟩)⟩)⟩)⟩)⟩)⟩)⟩)⟩)⟩)⟩)⟩)⟩)⟩)⟩
set_option maxRecDepth 100000 in
theorem mvs_k_Jxa1e45_init_da8c8 : ∀ w ∈ vs_k_Jxa1e45_init_da8c8, w ∈ lw_tbl := List.forall_mem_cons.mpr ⟨lw_one _ 6 209 rfl, (lw_mem _ [(6, 210), (1, 53), (1, 54)] rfl)⟩
set_option maxRecDepth 100000 in
theorem mvs_k_Jxc12de_init_da8c8 : ∀ w ∈ vs_k_Jxc12de_init_da8c8, w ∈ lw_tbl := List.forall_mem_cons.mpr ⟨lw_one _ 6 206 rfl, (List.forall_mem_append.mpr ⟨(lw_mem _ [(1, 11), (6, 207), (6, 208), (6, 217)] rfl), (List.forall_mem_append.mpr ⟨mvs_k_Jxa1e45_init_da8c8, mu_Jx4a65c⟩)⟩)⟩
set_option maxRecDepth 100000 in
theorem mvs_k_Jx4a65c_init_da8c8 : ∀ w ∈ vs_k_Jx4a65c_init_da8c8, w ∈ lw_tbl := List.forall_mem_cons.mpr ⟨lw_one _ 6 203 rfl, (List.forall_mem_append.mpr ⟨(lw_mem _ [(1, 12), (6, 204), (6, 205), (6, 211), (6, 213)] rfl), (List.forall_mem_append.mpr ⟨mvs_k_Jxc12de_init_da8c8, mu_Jx4a65c⟩)⟩)⟩
set_option maxRecDepth 100000 in
theorem mvs_k_X16_init : ∀ w ∈ vs_k_X16_init, w ∈ lw_tbl := List.forall_mem_cons.mpr ⟨lw_one _ 6 197 rfl, (List.forall_mem_append.mpr ⟨(lw_mem _ [(6, 198), (1, 53), (1, 54), (1, 102), (6, 231), (6, 199), (6, 200), (1, 13), (6, 201), (6, 202), (6, 232), (6, 233), (6, 235), (1, 103), (6, 236), (6, 237), (7, 68), (6, 239), (7, 0), (7, 1), (7, 3), (7, 5), (7, 6), (7, 7), (6, 228), (7, 9), (7, 13), (7, 14)] rfl), (List.forall_mem_append.mpr ⟨mu_X16, (List.forall_mem_append.mpr ⟨mu_Jx4a65c, mvs_k_Jx4a65c_init_da8c8⟩)⟩)⟩)⟩
set_option maxRecDepth 100000 in
theorem mvs_k_X16_in : ∀ w ∈ vs_k_X16_in, w ∈ lw_tbl := List.forall_mem_cons.mpr ⟨lw_one _ 7 79 rfl, (fun _ h => absurd h List.not_mem_nil)⟩
set_option maxRecDepth 100000 in
theorem mvs_k_X16_fails_1_1 : ∀ w ∈ vs_k_X16_fails_1_1, w ∈ lw_tbl := List.forall_mem_cons.mpr ⟨lw_one _ 7 83 rfl, (List.forall_mem_append.mpr ⟨(lw_mem _ [(6, 229)] rfl), mu_X16⟩)⟩
set_option maxRecDepth 100000 in
theorem mvs_k_X16_fails_0_1 : ∀ w ∈ vs_k_X16_fails_0_1, w ∈ lw_tbl := List.forall_mem_cons.mpr ⟨lw_one _ 7 83 rfl, (List.forall_mem_append.mpr ⟨(lw_mem _ [(6, 229)] rfl), mu_X16⟩)⟩
set_option maxRecDepth 100000 in
theorem mvs_k_X16_fails_0_2 : ∀ w ∈ vs_k_X16_fails_0_2, w ∈ lw_tbl := List.forall_mem_cons.mpr ⟨lw_one _ 7 83 rfl, (List.forall_mem_append.mpr ⟨(lw_mem _ [(6, 229)] rfl), mu_X16⟩)⟩
set_option maxRecDepth 100000 in
theorem mvs_k_X16_change : ∀ w ∈ vs_k_X16_change, w ∈ lw_tbl := List.forall_mem_cons.mpr ⟨lw_one _ 7 87 rfl, (List.forall_mem_append.mpr ⟨(lw_mem _ [(6, 238), (7, 12)] rfl), mu_X16⟩)⟩
set_option maxRecDepth 100000 in
theorem mvs_k_X16_addPredicate : ∀ w ∈ vs_k_X16_addPredicate, w ∈ lw_tbl := List.forall_mem_cons.mpr ⟨lw_one _ 7 76 rfl, (List.forall_mem_append.mpr ⟨(lw_mem _ [(6, 229), (7, 77), (7, 78), (1, 10), (7, 80), (7, 82), (0, 52), (6, 230), (6, 231), (7, 84), (7, 86), (0, 53)] rfl), (List.forall_mem_append.mpr ⟨mu_X16, (List.forall_mem_append.mpr ⟨mvs_k_X16_in, (List.forall_mem_append.mpr ⟨mvs_k_X16_fails_1_1, (List.forall_mem_append.mpr ⟨mvs_k_X16_fails_0_1, (List.forall_mem_append.mpr ⟨mvs_k_X16_fails_0_2, mvs_k_X16_change⟩)⟩)⟩)⟩)⟩)⟩)⟩
set_option maxRecDepth 100000 in
theorem mvs_k_X16_thrown : ∀ w ∈ vs_k_X16_thrown, w ∈ lw_tbl := List.forall_mem_cons.mpr ⟨lw_one _ 7 72 rfl, (List.forall_mem_append.mpr ⟨(lw_mem _ [(6, 229)] rfl), mu_X16⟩)⟩
set_option maxRecDepth 100000 in
theorem mvs_k_size : ∀ w ∈ vs_k_size, w ∈ lw_tbl := List.forall_mem_cons.mpr ⟨lw_one _ 7 95 rfl, (List.forall_mem_append.mpr ⟨(lw_mem _ [(6, 216)] rfl), mu_Jx4a65c⟩)⟩
set_option maxRecDepth 100000 in
theorem mvs_k_X15_init_d : ∀ w ∈ vs_k_X15_init_d, w ∈ lw_tbl := List.forall_mem_cons.mpr ⟨lw_one _ 7 100 rfl, (List.forall_mem_append.mpr ⟨(lw_mem _ [(7, 101), (1, 53), (1, 54), (7, 110), (7, 102), (6, 200), (1, 13), (7, 103), (6, 202), (7, 114), (7, 116), (7, 104), (7, 106)] rfl), (List.forall_mem_append.mpr ⟨mu_X15, (List.forall_mem_append.mpr ⟨mu_Jx4a65c, mvs_k_Jx4a65c_init_da8c8⟩)⟩)⟩)⟩
set_option maxRecDepth 100000 in
theorem mvs_k_growI : ∀ w ∈ vs_k_growI, w ∈ lw_tbl := List.forall_mem_cons.mpr ⟨lw_one _ 7 156 rfl, (List.forall_mem_append.mpr ⟨(lw_mem _ [(6, 213), (6, 211), (7, 210), (4, 76), (1, 22), (4, 77), (7, 211)] rfl), mu_Jx4a65c⟩)⟩
set_option maxRecDepth 100000 in
theorem mvs_k_grow : ∀ w ∈ vs_k_grow, w ∈ lw_tbl := List.forall_mem_cons.mpr ⟨lw_one _ 7 152 rfl, (List.forall_mem_append.mpr ⟨(lw_mem _ [(6, 216), (7, 153), (7, 155), (0, 57), (1, 13)] rfl), (List.forall_mem_append.mpr ⟨mu_Jx4a65c, mvs_k_growI⟩)⟩)⟩
set_option maxRecDepth 100000 in
theorem mvs_k_add3_rule : ∀ w ∈ vs_k_add3_rule, w ∈ lw_tbl := List.forall_mem_cons.mpr ⟨lw_one _ 7 148 rfl, (List.forall_mem_append.mpr ⟨(lw_mem _ [(7, 149), (7, 151), (0, 56), (1, 13), (6, 216)] rfl), (List.forall_mem_append.mpr ⟨mvs_k_grow, mu_Jx4a65c⟩)⟩)⟩
set_option maxRecDepth 100000 in
theorem mvs_k_add1_rule : ∀ w ∈ vs_k_add1_rule, w ∈ lw_tbl := List.forall_mem_cons.mpr ⟨lw_one _ 7 144 rfl, (List.forall_mem_append.mpr ⟨(lw_mem _ [(6, 219), (6, 220), (6, 213), (6, 216), (7, 145), (7, 147), (0, 55), (1, 13)] rfl), (List.forall_mem_append.mpr ⟨mu_Jx4a65c, mvs_k_add3_rule⟩)⟩)⟩
set_option maxRecDepth 100000 in
theorem mvs_k_X16_add : ∀ w ∈ vs_k_X16_add, w ∈ lw_tbl := List.forall_mem_cons.mpr ⟨lw_one _ 7 140 rfl, (List.forall_mem_append.mpr ⟨(lw_mem _ [(6, 232), (7, 141), (7, 142), (7, 143), (1, 13), (7, 84), (7, 86), (0, 53), (1, 10), (7, 92), (7, 93), (7, 94)] rfl), (List.forall_mem_append.mpr ⟨mu_X16, (List.forall_mem_append.mpr ⟨mvs_k_add1_rule, (List.forall_mem_append.mpr ⟨mvs_k_X16_change, mvs_k_size⟩)⟩)⟩)⟩)⟩
set_option maxRecDepth 100000 in
theorem mvs_k_X16_addDisjunction : ∀ w ∈ vs_k_X16_addDisjunction, w ∈ lw_tbl := List.forall_mem_cons.mpr ⟨lw_one _ 7 91 rfl, (List.forall_mem_append.mpr ⟨(lw_mem _ [(6, 229), (7, 77), (7, 78), (1, 10), (7, 80), (7, 82), (0, 52), (6, 232), (7, 92), (7, 93), (7, 94), (1, 13), (7, 96), (7, 97), (1, 20), (7, 98), (7, 99), (7, 137), (7, 139), (0, 54)] rfl), (List.forall_mem_append.mpr ⟨mu_X16, (List.forall_mem_append.mpr ⟨mvs_k_X16_in, (List.forall_mem_append.mpr ⟨mvs_k_X16_fails_1_1, (List.forall_mem_append.mpr ⟨mvs_k_X16_fails_0_1, (List.forall_mem_append.mpr ⟨mvs_k_size, (List.forall_mem_append.mpr ⟨mvs_k_X16_fails_0_2, (List.forall_mem_append.mpr ⟨mu_X15, (List.forall_mem_append.mpr ⟨mvs_k_X15_init_d, mvs_k_X16_add⟩)⟩)⟩)⟩)⟩)⟩)⟩)⟩)⟩)⟩
set_option maxRecDepth 100000 in
theorem mvs_k_X15_init_c : ∀ w ∈ vs_k_X15_init_c, w ∈ lw_tbl := List.forall_mem_cons.mpr ⟨lw_one _ 7 100 rfl, (List.forall_mem_append.mpr ⟨(lw_mem _ [(7, 101), (1, 53), (1, 54), (7, 110), (7, 102), (6, 200), (1, 13), (7, 103), (6, 202), (7, 114), (7, 116), (7, 104), (7, 106)] rfl), (List.forall_mem_append.mpr ⟨mu_X15, (List.forall_mem_append.mpr ⟨mu_Jx4a65c, mvs_k_Jx4a65c_init_da8c8⟩)⟩)⟩)⟩
set_option maxRecDepth 100000 in
theorem mvs_k_X16_in_none : ∀ w ∈ vs_k_X16_in_none, w ∈ lw_tbl := List.forall_mem_cons.mpr ⟨lw_one _ 7 79 rfl, (fun _ h => absurd h List.not_mem_nil)⟩
set_option maxRecDepth 100000 in
theorem mvs_k_X16_noPredicate : ∀ w ∈ vs_k_X16_noPredicate, w ∈ lw_tbl := List.forall_mem_cons.mpr ⟨lw_one _ 7 219 rfl, (List.forall_mem_append.mpr ⟨(lw_mem _ [(6, 230), (7, 77), (7, 78), (1, 10)] rfl), (List.forall_mem_append.mpr ⟨mu_X16, mvs_k_X16_in_none⟩)⟩)⟩
set_option maxRecDepth 100000 in
theorem mvs_k_X16_addChoice : ∀ w ∈ vs_k_X16_addChoice, w ∈ lw_tbl := List.forall_mem_cons.mpr ⟨lw_one _ 7 215 rfl, (List.forall_mem_append.mpr ⟨(lw_mem _ [(6, 229), (7, 77), (7, 78), (1, 10), (7, 80), (7, 82), (0, 52), (6, 232), (7, 92), (7, 93), (7, 94), (1, 13), (7, 96), (7, 97), (1, 20), (7, 98), (7, 99), (7, 108), (7, 109), (7, 111), (7, 137), (7, 139), (0, 54), (7, 216), (7, 218), (0, 58)] rfl), (List.forall_mem_append.mpr ⟨mu_X16, (List.forall_mem_append.mpr ⟨mvs_k_X16_in, (List.forall_mem_append.mpr ⟨mvs_k_X16_fails_1_1, (List.forall_mem_append.mpr ⟨mvs_k_X16_fails_0_1, (List.forall_mem_append.mpr ⟨mvs_k_size, (List.forall_mem_append.mpr ⟨mvs_k_X16_fails_0_2, (List.forall_mem_append.mpr ⟨mu_X15, (List.forall_mem_append.mpr ⟨mvs_k_X15_init_c, (List.forall_mem_append.mpr ⟨mvs_k_X16_add, mvs_k_X16_noPredicate⟩)⟩)⟩)⟩)⟩)⟩)⟩)⟩)⟩)⟩)⟩
set_option maxRecDepth 100000 in
theorem mvs_k_X15_init_w : ∀ w ∈ vs_k_X15_init_w, w ∈ lw_tbl := List.forall_mem_cons.mpr ⟨lw_one _ 7 100 rfl, (List.forall_mem_append.mpr ⟨(lw_mem _ [(7, 101), (1, 53), (1, 54), (7, 110), (7, 102), (6, 200), (1, 13), (7, 103), (6, 202), (7, 114), (7, 116), (7, 104), (7, 106)] rfl), (List.forall_mem_append.mpr ⟨mu_X15, (List.forall_mem_append.mpr ⟨mu_Jx4a65c, mvs_k_Jx4a65c_init_da8c8⟩)⟩)⟩)⟩
set_option maxRecDepth 100000 in
theorem mvs_k_X16_addWeak : ∀ w ∈ vs_k_X16_addWeak, w ∈ lw_tbl := List.forall_mem_cons.mpr ⟨lw_one _ 7 223 rfl, (List.forall_mem_append.mpr ⟨(lw_mem _ [(6, 229), (7, 77), (7, 78), (1, 10), (7, 80), (7, 82), (0, 52), (6, 232), (7, 92), (7, 93), (7, 94), (1, 13), (7, 96), (7, 97), (1, 20), (7, 98), (7, 99), (7, 112), (7, 113), (7, 137), (7, 139), (0, 54)] rfl), (List.forall_mem_append.mpr ⟨mu_X16, (List.forall_mem_append.mpr ⟨mvs_k_X16_in, (List.forall_mem_append.mpr ⟨mvs_k_X16_fails_1_1, (List.forall_mem_append.mpr ⟨mvs_k_X16_fails_0_1, (List.forall_mem_append.mpr ⟨mvs_k_size, (List.forall_mem_append.mpr ⟨mvs_k_X16_fails_0_2, (List.forall_mem_append.mpr ⟨mu_X15, (List.forall_mem_append.mpr ⟨mvs_k_X15_init_w, mvs_k_X16_add⟩)⟩)⟩)⟩)⟩)⟩)⟩)⟩)⟩)⟩
set_option maxRecDepth 100000 in
theorem mvs_k_X16_noRule : ∀ w ∈ vs_k_X16_noRule, w ∈ lw_tbl := List.forall_mem_cons.mpr ⟨lw_one _ 7 231 rfl, (List.forall_mem_append.mpr ⟨(lw_mem _ [(6, 232), (7, 92), (7, 93), (7, 94), (1, 13), (7, 77), (7, 78), (1, 10)] rfl), (List.forall_mem_append.mpr ⟨mu_X16, (List.forall_mem_append.mpr ⟨mvs_k_size, mvs_k_X16_in_none⟩)⟩)⟩)⟩
set_option maxRecDepth 100000 in
theorem mvs_k_X16_addHead : ∀ w ∈ vs_k_X16_addHead, w ∈ lw_tbl := List.forall_mem_cons.mpr ⟨lw_one _ 7 227 rfl, (List.forall_mem_append.mpr ⟨(lw_mem _ [(6, 229), (7, 228), (7, 230), (0, 59), (1, 10), (7, 80), (7, 82), (0, 52)] rfl), (List.forall_mem_append.mpr ⟨mu_X16, (List.forall_mem_append.mpr ⟨mvs_k_X16_noRule, mvs_k_X16_fails_1_1⟩)⟩)⟩)⟩
set_option maxRecDepth 100000 in
theorem mvs_k_X16_addAtom : ∀ w ∈ vs_k_X16_addAtom, w ∈ lw_tbl := List.forall_mem_cons.mpr ⟨lw_one _ 8 39 rfl, (List.forall_mem_append.mpr ⟨(lw_mem _ [(6, 229), (7, 228), (7, 230), (0, 59), (1, 10), (7, 80), (7, 82), (0, 52)] rfl), (List.forall_mem_append.mpr ⟨mu_X16, (List.forall_mem_append.mpr ⟨mvs_k_X16_noRule, mvs_k_X16_fails_1_1⟩)⟩)⟩)⟩
set_option maxRecDepth 100000 in
theorem mvs_k_X16_addTest : ∀ w ∈ vs_k_X16_addTest, w ∈ lw_tbl := List.forall_mem_cons.mpr ⟨lw_one _ 8 58 rfl, (List.forall_mem_append.mpr ⟨(lw_mem _ [(6, 229), (7, 228), (7, 230), (0, 59), (1, 10), (7, 80), (7, 82), (0, 52)] rfl), (List.forall_mem_append.mpr ⟨mu_X16, (List.forall_mem_append.mpr ⟨mvs_k_X16_noRule, mvs_k_X16_fails_1_1⟩)⟩)⟩)⟩
set_option maxRecDepth 100000 in
theorem mvs_k_X16_addCount : ∀ w ∈ vs_k_X16_addCount, w ∈ lw_tbl := List.forall_mem_cons.mpr ⟨lw_one _ 8 62 rfl, (List.forall_mem_append.mpr ⟨(lw_mem _ [(6, 229), (7, 228), (7, 230), (0, 59), (1, 10), (7, 80), (7, 82), (0, 52)] rfl), (List.forall_mem_append.mpr ⟨mu_X16, (List.forall_mem_append.mpr ⟨mvs_k_X16_noRule, mvs_k_X16_fails_1_1⟩)⟩)⟩)⟩
set_option maxRecDepth 100000 in
theorem mvs_k_itr_init : ∀ w ∈ vs_k_itr_init, w ∈ lw_tbl := List.forall_mem_cons.mpr ⟨lw_one _ 8 75 rfl, (List.forall_mem_append.mpr ⟨(lw_mem _ [(8, 80), (8, 76), (1, 53), (1, 54), (8, 78), (6, 219), (6, 218), (8, 79)] rfl), (List.forall_mem_append.mpr ⟨mu_Jx35411, mu_Jx4a65c⟩)⟩)⟩
set_option maxRecDepth 100000 in
theorem mvs_k_iterator : ∀ w ∈ vs_k_iterator, w ∈ lw_tbl := List.forall_mem_cons.mpr ⟨lw_one _ 8 70 rfl, (List.forall_mem_append.mpr ⟨(lw_mem _ [(8, 71), (8, 72), (1, 32), (8, 73), (8, 74)] rfl), (List.forall_mem_append.mpr ⟨mu_Jx35411, mvs_k_itr_init⟩)⟩)⟩
set_option maxRecDepth 100000 in
theorem mvs_k_hasNext : ∀ w ∈ vs_k_hasNext, w ∈ lw_tbl := List.forall_mem_cons.mpr ⟨lw_one _ 8 99 rfl, (List.forall_mem_append.mpr ⟨(lw_mem _ [(8, 77), (8, 80)] rfl), (List.forall_mem_append.mpr ⟨mu_Jx35411, mu_Jx4a65c⟩)⟩)⟩
set_option maxRecDepth 100000 in
theorem mvs_k_add3_ints : ∀ w ∈ vs_k_add3_ints, w ∈ lw_tbl := List.forall_mem_cons.mpr ⟨lw_one _ 7 148 rfl, (List.forall_mem_append.mpr ⟨(lw_mem _ [(7, 149), (7, 151), (0, 56), (1, 13), (6, 216)] rfl), (List.forall_mem_append.mpr ⟨mvs_k_grow, mu_Jx4a65c⟩)⟩)⟩
set_option maxRecDepth 100000 in
theorem mvs_k_add1_ints : ∀ w ∈ vs_k_add1_ints, w ∈ lw_tbl := List.forall_mem_cons.mpr ⟨lw_one _ 7 144 rfl, (List.forall_mem_append.mpr ⟨(lw_mem _ [(6, 219), (6, 220), (6, 213), (6, 216), (7, 145), (7, 147), (0, 55), (1, 13)] rfl), (List.forall_mem_append.mpr ⟨mu_Jx4a65c, mvs_k_add3_ints⟩)⟩)⟩
set_option maxRecDepth 100000 in
theorem mvs_k_X16_ground : ∀ w ∈ vs_k_X16_ground, w ∈ lw_tbl := List.forall_mem_cons.mpr ⟨lw_one _ 8 66 rfl, (List.forall_mem_append.mpr ⟨(lw_mem _ [(6, 229), (7, 77), (7, 78), (1, 10), (7, 80), (7, 82), (0, 52), (6, 233), (8, 67), (8, 68), (8, 69), (1, 13), (8, 91), (8, 95), (8, 97), (1, 32), (7, 92), (7, 93), (7, 94), (1, 102), (7, 141), (7, 142), (7, 143), (7, 84), (7, 86), (0, 53)] rfl), (List.forall_mem_append.mpr ⟨mu_X16, (List.forall_mem_append.mpr ⟨mvs_k_X16_in, (List.forall_mem_append.mpr ⟨mvs_k_X16_fails_1_1, (List.forall_mem_append.mpr ⟨mvs_k_X16_fails_0_1, (List.forall_mem_append.mpr ⟨mvs_k_iterator, (List.forall_mem_append.mpr ⟨mvs_k_hasNext, (List.forall_mem_append.mpr ⟨mvs_k_size, (List.forall_mem_append.mpr ⟨mvs_k_X16_fails_0_2, (List.forall_mem_append.mpr ⟨mvs_k_add1_ints, mvs_k_X16_change⟩)⟩)⟩)⟩)⟩)⟩)⟩)⟩)⟩)⟩)⟩
set_option maxRecDepth 100000 in
theorem mvs_k_X16_addExternal : ∀ w ∈ vs_k_X16_addExternal, w ∈ lw_tbl := List.forall_mem_cons.mpr ⟨lw_one _ 8 128 rfl, (List.forall_mem_append.mpr ⟨(lw_mem _ [(6, 229), (7, 216), (7, 218), (0, 58), (1, 10), (7, 80), (7, 82), (0, 52)] rfl), (List.forall_mem_append.mpr ⟨mu_X16, (List.forall_mem_append.mpr ⟨mvs_k_X16_noPredicate, mvs_k_X16_fails_1_1⟩)⟩)⟩)⟩
set_option maxRecDepth 100000 in
theorem mvs_k_X16_setExternal : ∀ w ∈ vs_k_X16_setExternal, w ∈ lw_tbl := List.forall_mem_cons.mpr ⟨lw_one _ 8 144 rfl, (List.forall_mem_append.mpr ⟨(lw_mem _ [(6, 229), (6, 234), (7, 77), (7, 78), (1, 10), (7, 80), (7, 82), (0, 52)] rfl), (List.forall_mem_append.mpr ⟨mu_X16, (List.forall_mem_append.mpr ⟨mvs_k_X16_in_none, mvs_k_X16_fails_1_1⟩)⟩)⟩)⟩
set_option maxRecDepth 100000 in
theorem mvs_k_X16_assume : ∀ w ∈ vs_k_X16_assume, w ∈ lw_tbl := List.forall_mem_cons.mpr ⟨lw_one _ 8 148 rfl, (List.forall_mem_append.mpr ⟨(lw_mem _ [(6, 229), (7, 216), (7, 218), (0, 58), (1, 10), (7, 80), (7, 82), (0, 52)] rfl), (List.forall_mem_append.mpr ⟨mu_X16, (List.forall_mem_append.mpr ⟨mvs_k_X16_noPredicate, mvs_k_X16_fails_1_1⟩)⟩)⟩)⟩
set_option maxRecDepth 100000 in
theorem mvs_k_X1_count : ∀ w ∈ vs_k_X1_count, w ∈ lw_tbl := List.forall_mem_cons.mpr ⟨lw_one _ 2 121 rfl, (List.forall_mem_append.mpr ⟨(lw_mem _ [(2, 122), (2, 123), (2, 124), (1, 5)] rfl), (List.forall_mem_append.mpr ⟨mvs_k_X1_countOf_0, (List.forall_mem_append.mpr ⟨mvs_k_X1_countOf_1, (List.forall_mem_append.mpr ⟨mvs_k_X1_countOf_2, (List.forall_mem_append.mpr ⟨mvs_k_X1_countOf_3, (List.forall_mem_append.mpr ⟨mvs_k_X1_countOf_4, mvs_k_X1_countOf_5⟩)⟩)⟩)⟩)⟩)⟩)⟩
set_option maxRecDepth 100000 in
theorem mvs_k_X10_dropAssumptions : ∀ w ∈ vs_k_X10_dropAssumptions, w ∈ lw_tbl := List.forall_mem_cons.mpr ⟨lw_one _ 2 117 rfl, (List.forall_mem_append.mpr ⟨(lw_mem _ [(2, 96), (2, 118), (2, 119), (2, 120), (1, 5), (2, 97), (2, 98), (2, 132), (2, 133), (2, 134)] rfl), (List.forall_mem_append.mpr ⟨mu_X10, (List.forall_mem_append.mpr ⟨mvs_k_X1_count, (List.forall_mem_append.mpr ⟨mu_X0, mvs_k_X1_clear⟩)⟩)⟩)⟩)⟩
set_option maxRecDepth 100000 in
theorem mvs_k_X16_assumptions : ∀ w ∈ vs_k_X16_assumptions, w ∈ lw_tbl := List.forall_mem_cons.mpr ⟨lw_one _ 8 152 rfl, (List.forall_mem_append.mpr ⟨(lw_mem _ [(6, 237)] rfl), mu_X16⟩)⟩
set_option maxRecDepth 100000 in
theorem mvs_k_X16_dropAssumptions : ∀ w ∈ vs_k_X16_dropAssumptions, w ∈ lw_tbl := List.forall_mem_cons.mpr ⟨lw_one _ 8 156 rfl, (List.forall_mem_append.mpr ⟨(lw_mem _ [(6, 229), (8, 149), (8, 151), (0, 67), (1, 10), (7, 12), (6, 237)] rfl), (List.forall_mem_append.mpr ⟨mu_X16, mvs_k_X16_assumptions⟩)⟩)⟩
set_option maxRecDepth 100000 in
theorem mvs_k_X16_state : ∀ w ∈ vs_k_X16_state, w ∈ lw_tbl := List.forall_mem_cons.mpr ⟨lw_one _ 8 160 rfl, (List.forall_mem_append.mpr ⟨(lw_mem _ [(6, 229), (7, 216), (7, 218), (0, 58), (1, 10), (7, 80), (7, 82), (0, 52)] rfl), (List.forall_mem_append.mpr ⟨mu_X16, (List.forall_mem_append.mpr ⟨mvs_k_X16_noPredicate, mvs_k_X16_fails_1_1⟩)⟩)⟩)⟩
set_option maxRecDepth 100000 in
theorem mvs_k_X10_open : ∀ w ∈ vs_k_X10_open, w ∈ lw_tbl := List.forall_mem_cons.mpr ⟨lw_one _ 2 139 rfl, (List.forall_mem_append.mpr ⟨(lw_mem _ [(2, 93), (2, 140), (2, 141), (2, 142), (1, 3)] rfl), (List.forall_mem_append.mpr ⟨mu_X10, (List.forall_mem_append.mpr ⟨mvs_k_X3_refresh, mu_X3⟩)⟩)⟩)⟩
set_option maxRecDepth 100000 in
theorem mvs_k_clear : ∀ w ∈ vs_k_clear, w ∈ lw_tbl := List.forall_mem_cons.mpr ⟨lw_one _ 8 168 rfl, (List.forall_mem_append.mpr ⟨(lw_mem _ [(6, 219), (6, 220), (6, 213), (6, 216)] rfl), mu_Jx4a65c⟩)⟩
set_option maxRecDepth 100000 in
theorem mvs_k_X16_goThroughAll : ∀ w ∈ vs_k_X16_goThroughAll, w ∈ lw_tbl := List.forall_mem_cons.mpr ⟨lw_one _ 8 174 rfl, (List.forall_mem_append.mpr ⟨(lw_mem _ [(6, 232), (7, 92), (7, 93), (7, 94), (1, 13)] rfl), (List.forall_mem_append.mpr ⟨mu_X16, mvs_k_size⟩)⟩)⟩
set_option maxRecDepth 100000 in
theorem mvs_k_X16_externalOf : ∀ w ∈ vs_k_X16_externalOf, w ∈ lw_tbl := List.forall_mem_cons.mpr ⟨lw_one _ 8 140 rfl, (List.forall_mem_append.mpr ⟨(lw_mem _ [(6, 234)] rfl), mu_X16⟩)⟩
set_option maxRecDepth 100000 in
theorem mvs_k_X16_groundAll : ∀ w ∈ vs_k_X16_groundAll, w ∈ lw_tbl := List.forall_mem_cons.mpr ⟨lw_one _ 8 164 rfl, (List.forall_mem_append.mpr ⟨(lw_mem _ [(6, 238), (7, 3), (8, 165), (8, 166), (8, 167), (1, 13), (7, 4), (7, 2), (7, 1), (8, 169), (8, 171), (8, 173), (0, 69), (1, 10), (9, 18), (8, 175), (7, 6), (7, 0), (8, 137), (8, 139), (0, 66), (6, 239)] rfl), (List.forall_mem_append.mpr ⟨mu_X16, (List.forall_mem_append.mpr ⟨mvs_k_clear, (List.forall_mem_append.mpr ⟨mvs_k_X16_goThroughAll, mvs_k_X16_externalOf⟩)⟩)⟩)⟩)⟩
set_option maxRecDepth 100000 in
theorem mvs_k_X16_open : ∀ w ∈ vs_k_X16_open, w ∈ lw_tbl := List.forall_mem_cons.mpr ⟨lw_one _ 9 23 rfl, (List.forall_mem_append.mpr ⟨(lw_mem _ [(6, 229), (8, 161), (8, 163), (0, 68), (1, 10), (7, 4)] rfl), (List.forall_mem_append.mpr ⟨mu_X16, mvs_k_X16_groundAll⟩)⟩)⟩
set_option maxRecDepth 100000 in
theorem mvs_k_X16_instances : ∀ w ∈ vs_k_X16_instances, w ∈ lw_tbl := List.forall_mem_cons.mpr ⟨lw_one _ 9 27 rfl, (List.forall_mem_append.mpr ⟨(lw_mem _ [(6, 229), (7, 228), (7, 230), (0, 59), (1, 10), (7, 80), (7, 82), (0, 52)] rfl), (List.forall_mem_append.mpr ⟨mu_X16, (List.forall_mem_append.mpr ⟨mvs_k_X16_noRule, mvs_k_X16_fails_1_1⟩)⟩)⟩)⟩
set_option maxRecDepth 100000 in
theorem mvs_k_X16_findLeads : ∀ w ∈ vs_k_X16_findLeads, w ∈ lw_tbl := List.forall_mem_cons.mpr ⟨lw_one _ 9 35 rfl, (List.forall_mem_append.mpr ⟨(lw_mem _ [(7, 4), (7, 3), (8, 67), (8, 68), (8, 69), (1, 13), (8, 91), (8, 95), (8, 97), (1, 32)] rfl), (List.forall_mem_append.mpr ⟨mu_X16, (List.forall_mem_append.mpr ⟨mvs_k_iterator, mvs_k_hasNext⟩)⟩)⟩)⟩
set_option maxRecDepth 100000 in
theorem mvs_k_X16_loops : ∀ w ∈ vs_k_X16_loops, w ∈ lw_tbl := List.forall_mem_cons.mpr ⟨lw_one _ 9 31 rfl, (List.forall_mem_append.mpr ⟨(lw_mem _ [(6, 229), (8, 161), (8, 163), (0, 68), (1, 10), (7, 2), (7, 80), (7, 82), (0, 52), (9, 32), (9, 34), (0, 81), (7, 4)] rfl), (List.forall_mem_append.mpr ⟨mu_X16, (List.forall_mem_append.mpr ⟨mvs_k_X16_groundAll, (List.forall_mem_append.mpr ⟨mvs_k_X16_fails_0_1, mvs_k_X16_findLeads⟩)⟩)⟩)⟩)⟩
set_option maxRecDepth 100000 in
theorem mvs_k_X16_findAssumed : ∀ w ∈ vs_k_X16_findAssumed, w ∈ lw_tbl := List.forall_mem_cons.mpr ⟨lw_one _ 9 43 rfl, (List.forall_mem_append.mpr ⟨(lw_mem _ [(7, 10), (7, 11), (7, 6), (6, 237)] rfl), mu_X16⟩)⟩
set_option maxRecDepth 100000 in
theorem mvs_k_X16_fits : ∀ w ∈ vs_k_X16_fits, w ∈ lw_tbl := List.forall_mem_cons.mpr ⟨lw_one _ 9 47 rfl, (List.forall_mem_append.mpr ⟨(lw_mem _ [(7, 10), (7, 11)] rfl), mu_X16⟩)⟩
set_option maxRecDepth 100000 in
theorem mvs_k_X16_isClosed : ∀ w ∈ vs_k_X16_isClosed, w ∈ lw_tbl := List.forall_mem_cons.mpr ⟨lw_one _ 9 55 rfl, (List.forall_mem_append.mpr ⟨(lw_mem _ [(7, 3), (8, 67), (8, 68), (8, 69), (1, 13), (8, 91), (8, 95), (8, 97), (1, 32)] rfl), (List.forall_mem_append.mpr ⟨mu_X16, (List.forall_mem_append.mpr ⟨mvs_k_iterator, mvs_k_hasNext⟩)⟩)⟩)⟩
set_option maxRecDepth 100000 in
theorem mvs_k_X16_isAnswer : ∀ w ∈ vs_k_X16_isAnswer, w ∈ lw_tbl := List.forall_mem_cons.mpr ⟨lw_one _ 9 51 rfl, (List.forall_mem_append.mpr ⟨(lw_mem _ [(9, 52), (9, 54), (0, 85), (1, 10)] rfl), mvs_k_X16_isClosed⟩)⟩
set_option maxRecDepth 100000 in
theorem mvs_k_X11_init : ∀ w ∈ vs_k_X11_init, w ∈ lw_tbl := List.forall_mem_cons.mpr ⟨lw_one _ 9 84 rfl, (List.forall_mem_append.mpr ⟨(lw_mem _ [(9, 85), (1, 53), (1, 54), (1, 143), (9, 88), (9, 86)] rfl), mu_X11⟩)⟩
set_option maxRecDepth 100000 in
theorem mvs_k_X16_made : ∀ w ∈ vs_k_X16_made, w ∈ lw_tbl := List.forall_mem_cons.mpr ⟨lw_one _ 9 79 rfl, (List.forall_mem_append.mpr ⟨(lw_mem _ [(9, 80), (9, 81), (1, 41), (9, 82), (9, 83), (7, 3), (8, 67), (8, 68), (8, 69), (1, 13), (8, 91), (8, 95), (8, 97), (1, 32)] rfl), (List.forall_mem_append.mpr ⟨mu_X11, (List.forall_mem_append.mpr ⟨mvs_k_X11_init, (List.forall_mem_append.mpr ⟨mu_X16, (List.forall_mem_append.mpr ⟨mvs_k_iterator, mvs_k_hasNext⟩)⟩)⟩)⟩)⟩)⟩
set_option maxRecDepth 100000 in
theorem mvs_k_rangeCheck : ∀ w ∈ vs_k_rangeCheck, w ∈ lw_tbl := List.forall_mem_cons.mpr ⟨lw_one _ 9 106 rfl, (List.forall_mem_append.mpr ⟨(lw_mem _ [(6, 216)] rfl), mu_Jx4a65c⟩)⟩
set_option maxRecDepth 100000 in
theorem mvs_k_add2 : ∀ w ∈ vs_k_add2, w ∈ lw_tbl := List.forall_mem_cons.mpr ⟨lw_one _ 9 102 rfl, (List.forall_mem_append.mpr ⟨(lw_mem _ [(9, 103), (9, 105), (0, 89), (1, 13), (6, 219), (6, 220), (6, 216), (6, 213), (7, 149), (7, 151), (0, 56), (10, 99), (7, 209), (7, 208), (1, 24)] rfl), (List.forall_mem_append.mpr ⟨mvs_k_rangeCheck, (List.forall_mem_append.mpr ⟨mu_Jx4a65c, mvs_k_grow⟩)⟩)⟩)⟩
set_option maxRecDepth 100000 in
theorem mvs_k_copyOf3 : ∀ w ∈ vs_k_copyOf3, w ∈ lw_tbl := List.forall_mem_cons.mpr ⟨lw_one _ 7 202 rfl, (lw_mem _ [(7, 203), (7, 205), (7, 206), (5, 157), (1, 22), (5, 158), (7, 207), (7, 209), (7, 208), (1, 24)] rfl)⟩
set_option maxRecDepth 100000 in
theorem mvs_k_copyOf2 : ∀ w ∈ vs_k_copyOf2, w ∈ lw_tbl := List.forall_mem_cons.mpr ⟨lw_one _ 7 167 rfl, (List.forall_mem_append.mpr ⟨(lw_mem _ [(7, 168), (10, 223), (7, 169), (7, 199), (7, 200), (7, 201), (1, 23)] rfl), mvs_k_copyOf3⟩)⟩
set_option maxRecDepth 100000 in
theorem mvs_k_toArray : ∀ w ∈ vs_k_toArray, w ∈ lw_tbl := List.forall_mem_cons.mpr ⟨lw_one _ 10 113 rfl, (List.forall_mem_append.mpr ⟨(lw_mem _ [(6, 213), (6, 216), (7, 165), (7, 166), (1, 23)] rfl), (List.forall_mem_append.mpr ⟨mu_Jx4a65c, mvs_k_copyOf2⟩)⟩)⟩
set_option maxRecDepth 100000 in
theorem mvs_k_addAll : ∀ w ∈ vs_k_addAll, w ∈ lw_tbl := List.forall_mem_cons.mpr ⟨lw_one _ 10 103 rfl, (List.forall_mem_append.mpr ⟨(lw_mem _ [(10, 105), (10, 109), (10, 111), (1, 13), (6, 219), (6, 220), (6, 213), (6, 216), (7, 153), (7, 155), (0, 57), (10, 99), (7, 209), (7, 208), (1, 24)] rfl), (List.forall_mem_append.mpr ⟨mvs_k_toArray, (List.forall_mem_append.mpr ⟨mu_Jx4a65c, mvs_k_growI⟩)⟩)⟩)⟩
set_option maxRecDepth 100000 in
theorem mvs_k_X16_walk : ∀ w ∈ vs_k_X16_walk, w ∈ lw_tbl := List.forall_mem_cons.mpr ⟨lw_one _ 9 39 rfl, (List.forall_mem_append.mpr ⟨(lw_mem _ [(6, 229), (8, 161), (8, 163), (0, 68), (1, 10), (7, 4), (7, 2), (7, 80), (7, 82), (0, 52), (6, 199), (6, 200), (1, 13), (6, 201), (6, 202), (9, 40), (9, 42), (0, 82), (7, 92), (7, 93), (7, 94), (9, 44), (9, 46), (0, 83), (9, 48), (9, 50), (0, 84), (9, 76), (9, 78), (0, 88), (9, 99), (9, 100), (9, 101), (7, 13), (8, 165), (8, 166), (8, 167), (10, 100), (10, 101), (10, 102), (7, 12)] rfl), (List.forall_mem_append.mpr ⟨mu_X16, (List.forall_mem_append.mpr ⟨mvs_k_X16_groundAll, (List.forall_mem_append.mpr ⟨mvs_k_X16_fails_0_1, (List.forall_mem_append.mpr ⟨mu_Jx4a65c, (List.forall_mem_append.mpr ⟨mvs_k_Jx4a65c_init_da8c8, (List.forall_mem_append.mpr ⟨mvs_k_X16_findAssumed, (List.forall_mem_append.mpr ⟨mvs_k_size, (List.forall_mem_append.mpr ⟨mvs_k_X16_fits, (List.forall_mem_append.mpr ⟨mvs_k_X16_isAnswer, (List.forall_mem_append.mpr ⟨mvs_k_X16_made, (List.forall_mem_append.mpr ⟨mvs_k_add2, (List.forall_mem_append.mpr ⟨mvs_k_clear, mvs_k_addAll⟩)⟩)⟩)⟩)⟩)⟩)⟩)⟩)⟩)⟩)⟩)⟩)⟩)⟩
set_option maxRecDepth 100000 in
theorem mvs_k_X16_walkByAll : ∀ w ∈ vs_k_X16_walkByAll, w ∈ lw_tbl := List.forall_mem_cons.mpr ⟨lw_one _ 10 117 rfl, (List.forall_mem_append.mpr ⟨(lw_mem _ [(6, 229), (8, 161), (8, 163), (0, 68), (1, 10), (7, 4), (7, 2), (7, 80), (7, 82), (0, 52), (9, 40), (9, 42), (0, 82), (9, 44), (9, 46), (0, 83), (9, 48), (9, 50), (0, 84)] rfl), (List.forall_mem_append.mpr ⟨mu_X16, (List.forall_mem_append.mpr ⟨mvs_k_X16_groundAll, (List.forall_mem_append.mpr ⟨mvs_k_X16_fails_0_1, (List.forall_mem_append.mpr ⟨mvs_k_X16_findAssumed, (List.forall_mem_append.mpr ⟨mvs_k_X16_fits, mvs_k_X16_isAnswer⟩)⟩)⟩)⟩)⟩)⟩)⟩
set_option maxRecDepth 100000 in
theorem mvs_k_X16_has_ : ∀ w ∈ vs_k_X16_has_, w ∈ lw_tbl := List.forall_mem_cons.mpr ⟨lw_one _ 10 121 rfl, (List.forall_mem_append.mpr ⟨(lw_mem _ [(6, 229), (7, 12), (7, 80), (7, 82), (0, 52), (1, 10)] rfl), (List.forall_mem_append.mpr ⟨mu_X16, mvs_k_X16_fails_1_1⟩)⟩)⟩
set_option maxRecDepth 100000 in
theorem mvs_k_X16_size : ∀ w ∈ vs_k_X16_size, w ∈ lw_tbl := List.forall_mem_cons.mpr ⟨lw_one _ 10 133 rfl, (List.forall_mem_append.mpr ⟨(lw_mem _ [(6, 229), (7, 12), (7, 80), (7, 82), (0, 52), (1, 10)] rfl), (List.forall_mem_append.mpr ⟨mu_X16, mvs_k_X16_fails_1_1⟩)⟩)⟩
set_option maxRecDepth 100000 in
theorem mvs_k_X16_cost : ∀ w ∈ vs_k_X16_cost, w ∈ lw_tbl := List.forall_mem_cons.mpr ⟨lw_one _ 10 141 rfl, (List.forall_mem_append.mpr ⟨(lw_mem _ [(6, 229), (7, 12), (7, 80), (7, 82), (0, 52), (1, 10)] rfl), (List.forall_mem_append.mpr ⟨mu_X16, mvs_k_X16_fails_1_1⟩)⟩)⟩
set_option maxRecDepth 100000 in
theorem mvs_k_X16_best : ∀ w ∈ vs_k_X16_best, w ∈ lw_tbl := List.forall_mem_cons.mpr ⟨lw_one _ 10 145 rfl, (List.forall_mem_append.mpr ⟨(lw_mem _ [(6, 229), (7, 12), (7, 80), (7, 82), (0, 52), (1, 10)] rfl), (List.forall_mem_append.mpr ⟨mu_X16, mvs_k_X16_fails_1_1⟩)⟩)⟩
set_option maxRecDepth 100000 in
theorem mvs_k_X16_projected : ∀ w ∈ vs_k_X16_projected, w ∈ lw_tbl := List.forall_mem_cons.mpr ⟨lw_one _ 10 149 rfl, (List.forall_mem_append.mpr ⟨(lw_mem _ [(6, 229), (7, 12), (7, 80), (7, 82), (0, 52), (1, 10)] rfl), (List.forall_mem_append.mpr ⟨mu_X16, mvs_k_X16_fails_1_1⟩)⟩)⟩
set_option maxRecDepth 100000 in
theorem mvs_k_X16_holds_ : ∀ w ∈ vs_k_X16_holds_, w ∈ lw_tbl := List.forall_mem_cons.mpr ⟨lw_one _ 10 153 rfl, (List.forall_mem_append.mpr ⟨(lw_mem _ [(6, 229), (7, 12), (7, 80), (7, 82), (0, 52), (1, 10)] rfl), (List.forall_mem_append.mpr ⟨mu_X16, mvs_k_X16_fails_1_1⟩)⟩)⟩
set_option maxRecDepth 100000 in
theorem mvs_k_X16_reason : ∀ w ∈ vs_k_X16_reason, w ∈ lw_tbl := List.forall_mem_cons.mpr ⟨lw_one _ 10 161 rfl, (List.forall_mem_append.mpr ⟨(lw_mem _ [(6, 229), (7, 12), (7, 80), (7, 82), (0, 52), (1, 10)] rfl), (List.forall_mem_append.mpr ⟨mu_X16, mvs_k_X16_fails_1_1⟩)⟩)⟩
set_option maxRecDepth 100000 in
theorem mvs_k_X16_share : ∀ w ∈ vs_k_X16_share, w ∈ lw_tbl := List.forall_mem_cons.mpr ⟨lw_one _ 10 169 rfl, (List.forall_mem_append.mpr ⟨(lw_mem _ [(6, 229), (7, 12), (7, 80), (7, 82), (0, 52), (1, 10)] rfl), (List.forall_mem_append.mpr ⟨mu_X16, mvs_k_X16_fails_1_1⟩)⟩)⟩
set_option maxRecDepth 100000 in
theorem mvs_k_X16_commonest : ∀ w ∈ vs_k_X16_commonest, w ∈ lw_tbl := List.forall_mem_cons.mpr ⟨lw_one _ 10 177 rfl, (List.forall_mem_append.mpr ⟨(lw_mem _ [(6, 229), (7, 12), (7, 80), (7, 82), (0, 52), (1, 10)] rfl), (List.forall_mem_append.mpr ⟨mu_X16, mvs_k_X16_fails_1_1⟩)⟩)⟩
set_option maxRecDepth 100000 in
theorem mvs_k_X16_meanSize : ∀ w ∈ vs_k_X16_meanSize, w ∈ lw_tbl := List.forall_mem_cons.mpr ⟨lw_one _ 10 181 rfl, (List.forall_mem_append.mpr ⟨(lw_mem _ [(6, 229), (7, 12), (7, 80), (7, 82), (0, 52), (1, 10)] rfl), (List.forall_mem_append.mpr ⟨mu_X16, mvs_k_X16_fails_1_1⟩)⟩)⟩
theorem iw_L_law_X10 : ∀ w ∈ u_ws RX10 TX10 7, w ∈ lw_tbl := mu_X10
theorem iw_L_law_X16 : ∀ w ∈ u_ws RX16 TX16 26, w ∈ lw_tbl := mu_X16
set_option maxRecDepth 100000 in
theorem gw_va_wsS_RL_120_yL_addPredicate_vs_k_L_addPredicate : GoodIn lw_tbl (va_wsS RL 120 yL_addPredicate vs_k_L_addPredicate) := goodIn_sub (List.forall_mem_append.mpr ⟨lw_mem _ [(3, 32), (3, 33), (1, 0)] rfl, mvs_k_L_addPredicate⟩) (by decide +kernel)
set_option maxRecDepth 100000 in
theorem gw_va_wsS_RL_129_yL_addDisjunction_vs_k_L_addDisjunction : GoodIn lw_tbl (va_wsS RL 129 yL_addDisjunction vs_k_L_addDisjunction) := goodIn_sub (List.forall_mem_append.mpr ⟨lw_mem _ [(3, 137), (3, 138), (1, 0)] rfl, mvs_k_L_addDisjunction⟩) (by decide +kernel)
set_option maxRecDepth 100000 in
theorem gw_va_wsS_RL_132_yL_addChoice_vs_k_L_addChoice : GoodIn lw_tbl (va_wsS RL 132 yL_addChoice vs_k_L_addChoice) := goodIn_sub (List.forall_mem_append.mpr ⟨lw_mem _ [(3, 216), (3, 217), (1, 0)] rfl, mvs_k_L_addChoice⟩) (by decide +kernel)
set_option maxRecDepth 100000 in
theorem gw_va_wsS_RL_136_yL_addWeak_vs_k_L_addWeak : GoodIn lw_tbl (va_wsS RL 136 yL_addWeak vs_k_L_addWeak) := goodIn_sub (List.forall_mem_append.mpr ⟨lw_mem _ [(3, 233), (3, 234), (1, 0)] rfl, mvs_k_L_addWeak⟩) (by decide +kernel)
set_option maxRecDepth 100000 in
theorem gw_va_wsS_RL_140_yL_addHead_vs_k_L_addHead : GoodIn lw_tbl (va_wsS RL 140 yL_addHead vs_k_L_addHead) := goodIn_sub (List.forall_mem_append.mpr ⟨lw_mem _ [(4, 6), (4, 7), (1, 0)] rfl, mvs_k_L_addHead⟩) (by decide +kernel)
set_option maxRecDepth 100000 in
theorem gw_va_wsS_RL_143_yL_addAtom_vs_k_L_addAtom : GoodIn lw_tbl (va_wsS RL 143 yL_addAtom vs_k_L_addAtom) := goodIn_sub (List.forall_mem_append.mpr ⟨lw_mem _ [(4, 121), (4, 122), (1, 0)] rfl, mvs_k_L_addAtom⟩) (by decide +kernel)
set_option maxRecDepth 100000 in
theorem gw_va_wsS_RL_147_yL_addTest_vs_k_L_addTest : GoodIn lw_tbl (va_wsS RL 147 yL_addTest vs_k_L_addTest) := goodIn_sub (List.forall_mem_append.mpr ⟨lw_mem _ [(4, 142), (4, 143), (1, 0)] rfl, mvs_k_L_addTest⟩) (by decide +kernel)
set_option maxRecDepth 100000 in
theorem gw_va_wsS_RL_151_yL_addCount_vs_k_L_addCount : GoodIn lw_tbl (va_wsS RL 151 yL_addCount vs_k_L_addCount) := goodIn_sub (List.forall_mem_append.mpr ⟨lw_mem _ [(4, 151), (4, 152), (1, 0)] rfl, mvs_k_L_addCount⟩) (by decide +kernel)
set_option maxRecDepth 100000 in
theorem gw_va_wsS_RL_154_yL_ground_vs_k_L_ground : GoodIn lw_tbl (va_wsS RL 154 yL_ground vs_k_L_ground) := goodIn_sub (List.forall_mem_append.mpr ⟨lw_mem _ [(4, 160), (4, 161), (1, 0)] rfl, mvs_k_L_ground⟩) (by decide +kernel)
set_option maxRecDepth 100000 in
theorem gw_va_wsS_RL_158_yL_addExternal_vs_k_L_addExternal : GoodIn lw_tbl (va_wsS RL 158 yL_addExternal vs_k_L_addExternal) := goodIn_sub (List.forall_mem_append.mpr ⟨lw_mem _ [(4, 182), (4, 183), (1, 0)] rfl, mvs_k_L_addExternal⟩) (by decide +kernel)
set_option maxRecDepth 100000 in
theorem gw_va_wsS_RL_161_yL_setExternal_vs_k_L_setExternal : GoodIn lw_tbl (va_wsS RL 161 yL_setExternal vs_k_L_setExternal) := goodIn_sub (List.forall_mem_append.mpr ⟨lw_mem _ [(4, 205), (4, 206), (1, 0)] rfl, mvs_k_L_setExternal⟩) (by decide +kernel)
set_option maxRecDepth 100000 in
theorem gw_va_wsS_RL_165_yL_assume_vs_k_L_assume : GoodIn lw_tbl (va_wsS RL 165 yL_assume vs_k_L_assume) := goodIn_sub (List.forall_mem_append.mpr ⟨lw_mem _ [(4, 220), (4, 221), (1, 0)] rfl, mvs_k_L_assume⟩) (by decide +kernel)
set_option maxRecDepth 100000 in
theorem gw_va_wsS_RL_173_yL_state_vs_k_L_state : GoodIn lw_tbl (va_wsS RL 173 yL_state vs_k_L_state) := goodIn_sub (List.forall_mem_append.mpr ⟨lw_mem _ [(4, 233), (4, 234), (1, 0)] rfl, mvs_k_L_state⟩) (by decide +kernel)
set_option maxRecDepth 100000 in
theorem gw_va_wsS_RL_180_yL_instances_vs_k_L_instances : GoodIn lw_tbl (va_wsS RL 180 yL_instances vs_k_L_instances) := goodIn_sub (List.forall_mem_append.mpr ⟨lw_mem _ [(5, 1), (5, 2), (1, 0)] rfl, mvs_k_L_instances⟩) (by decide +kernel)
set_option maxRecDepth 100000 in
theorem gw_va_wsS_RL_183_yL_loops_vs_k_L_loops : GoodIn lw_tbl (va_wsS RL 183 yL_loops vs_k_L_loops) := goodIn_sub (List.forall_mem_append.mpr ⟨lw_mem _ [(5, 12), (5, 13), (1, 0)] rfl, mvs_k_L_loops⟩) (by decide +kernel)
set_option maxRecDepth 100000 in
theorem gw_va_wsS_RL_187_yL_walk_vs_k_L_walk : GoodIn lw_tbl (va_wsS RL 187 yL_walk vs_k_L_walk) := goodIn_sub (List.forall_mem_append.mpr ⟨lw_mem _ [(5, 81), (5, 82), (1, 0)] rfl, mvs_k_L_walk⟩) (by decide +kernel)
set_option maxRecDepth 100000 in
theorem gw_va_wsS_RL_190_yL_walkByAll_vs_k_L_walkByAll : GoodIn lw_tbl (va_wsS RL 190 yL_walkByAll vs_k_L_walkByAll) := goodIn_sub (List.forall_mem_append.mpr ⟨lw_mem _ [(6, 7), (6, 8), (1, 0)] rfl, mvs_k_L_walkByAll⟩) (by decide +kernel)
set_option maxRecDepth 100000 in
theorem gw_va_wsS_RL_193_yL_has_vs_k_L_has : GoodIn lw_tbl (va_wsS RL 193 yL_has vs_k_L_has) := goodIn_sub (List.forall_mem_append.mpr ⟨lw_mem _ [(6, 27), (6, 28), (1, 0)] rfl, mvs_k_L_has⟩) (by decide +kernel)
set_option maxRecDepth 100000 in
theorem gw_va_wsS_RL_196_yL_size_vs_k_L_size : GoodIn lw_tbl (va_wsS RL 196 yL_size vs_k_L_size) := goodIn_sub (List.forall_mem_append.mpr ⟨lw_mem _ [(6, 52), (6, 53), (1, 0)] rfl, mvs_k_L_size⟩) (by decide +kernel)
set_option maxRecDepth 100000 in
theorem gw_va_wsS_RL_199_yL_cost_vs_k_L_cost : GoodIn lw_tbl (va_wsS RL 199 yL_cost vs_k_L_cost) := goodIn_sub (List.forall_mem_append.mpr ⟨lw_mem _ [(6, 64), (6, 65), (1, 0)] rfl, mvs_k_L_cost⟩) (by decide +kernel)
set_option maxRecDepth 100000 in
theorem gw_va_wsS_RL_202_yL_best_vs_k_L_best : GoodIn lw_tbl (va_wsS RL 202 yL_best vs_k_L_best) := goodIn_sub (List.forall_mem_append.mpr ⟨lw_mem _ [(6, 72), (6, 73), (1, 0)] rfl, mvs_k_L_best⟩) (by decide +kernel)
set_option maxRecDepth 100000 in
theorem gw_va_wsS_RL_205_yL_projected_vs_k_L_projected : GoodIn lw_tbl (va_wsS RL 205 yL_projected vs_k_L_projected) := goodIn_sub (List.forall_mem_append.mpr ⟨lw_mem _ [(6, 83), (6, 84), (1, 0)] rfl, mvs_k_L_projected⟩) (by decide +kernel)
set_option maxRecDepth 100000 in
theorem gw_va_wsS_RL_208_yL_holds_vs_k_L_holds : GoodIn lw_tbl (va_wsS RL 208 yL_holds vs_k_L_holds) := goodIn_sub (List.forall_mem_append.mpr ⟨lw_mem _ [(6, 99), (6, 100), (1, 0)] rfl, mvs_k_L_holds⟩) (by decide +kernel)
set_option maxRecDepth 100000 in
theorem gw_va_wsS_RL_211_yL_reason_vs_k_L_reason : GoodIn lw_tbl (va_wsS RL 211 yL_reason vs_k_L_reason) := goodIn_sub (List.forall_mem_append.mpr ⟨lw_mem _ [(6, 110), (6, 111), (1, 0)] rfl, mvs_k_L_reason⟩) (by decide +kernel)
set_option maxRecDepth 100000 in
theorem gw_va_wsS_RL_214_yL_share_vs_k_L_share : GoodIn lw_tbl (va_wsS RL 214 yL_share vs_k_L_share) := goodIn_sub (List.forall_mem_append.mpr ⟨lw_mem _ [(6, 153), (6, 154), (1, 0)] rfl, mvs_k_L_share⟩) (by decide +kernel)
set_option maxRecDepth 100000 in
theorem gw_va_wsS_RL_218_yL_commonest_vs_k_L_commonest : GoodIn lw_tbl (va_wsS RL 218 yL_commonest vs_k_L_commonest) := goodIn_sub (List.forall_mem_append.mpr ⟨lw_mem _ [(6, 177), (6, 178), (1, 0)] rfl, mvs_k_L_commonest⟩) (by decide +kernel)
set_option maxRecDepth 100000 in
theorem gw_va_wsS_RL_221_yL_meanSize_vs_k_L_meanSize : GoodIn lw_tbl (va_wsS RL 221 yL_meanSize vs_k_L_meanSize) := goodIn_sub (List.forall_mem_append.mpr ⟨lw_mem _ [(6, 186), (6, 187), (1, 0)] rfl, mvs_k_L_meanSize⟩) (by decide +kernel)
set_option maxRecDepth 100000 in
theorem gw_vs_k_X10_init : GoodIn lw_tbl (vs_k_X10_init) := goodIn_sub mvs_k_X10_init (by decide +kernel)
set_option maxRecDepth 100000 in
theorem gw_vs_k_X16_init : GoodIn lw_tbl (vs_k_X16_init) := goodIn_sub mvs_k_X16_init (by decide +kernel)
set_option maxRecDepth 100000 in
theorem gw_wsV_RL_125_RX16_yX16_addPredicate_vs_k_X16_addPredicate : GoodIn lw_tbl (wsV RL 125 RX16 yX16_addPredicate vs_k_X16_addPredicate) := goodIn_sub (List.forall_mem_append.mpr ⟨lw_mem _ [(7, 73), (7, 74), (7, 75), (1, 10)] rfl, mvs_k_X16_addPredicate⟩) (by decide +kernel)
set_option maxRecDepth 100000 in
theorem gw_wsV_RL_126_RX16_yX16_thrown_vs_k_X16_thrown : GoodIn lw_tbl (wsV RL 126 RX16 yX16_thrown vs_k_X16_thrown) := goodIn_sub (List.forall_mem_append.mpr ⟨lw_mem _ [(7, 69), (7, 70), (7, 71), (1, 10)] rfl, mvs_k_X16_thrown⟩) (by decide +kernel)
set_option maxRecDepth 100000 in
theorem gw_wsV_RL_131_RX16_yX16_addDisjunction_vs_k_X16_addDisjunction : GoodIn lw_tbl (wsV RL 131 RX16 yX16_addDisjunction vs_k_X16_addDisjunction) := goodIn_sub (List.forall_mem_append.mpr ⟨lw_mem _ [(7, 88), (7, 89), (7, 90), (1, 10)] rfl, mvs_k_X16_addDisjunction⟩) (by decide +kernel)
set_option maxRecDepth 100000 in
theorem gw_wsV_RL_135_RX16_yX16_addChoice_vs_k_X16_addChoice : GoodIn lw_tbl (wsV RL 135 RX16 yX16_addChoice vs_k_X16_addChoice) := goodIn_sub (List.forall_mem_append.mpr ⟨lw_mem _ [(7, 212), (7, 213), (7, 214), (1, 10)] rfl, mvs_k_X16_addChoice⟩) (by decide +kernel)
set_option maxRecDepth 100000 in
theorem gw_wsV_RL_139_RX16_yX16_addWeak_vs_k_X16_addWeak : GoodIn lw_tbl (wsV RL 139 RX16 yX16_addWeak vs_k_X16_addWeak) := goodIn_sub (List.forall_mem_append.mpr ⟨lw_mem _ [(7, 220), (7, 221), (7, 222), (1, 10)] rfl, mvs_k_X16_addWeak⟩) (by decide +kernel)
set_option maxRecDepth 100000 in
theorem gw_wsV_RL_142_RX16_yX16_addHead_vs_k_X16_addHead : GoodIn lw_tbl (wsV RL 142 RX16 yX16_addHead vs_k_X16_addHead) := goodIn_sub (List.forall_mem_append.mpr ⟨lw_mem _ [(7, 224), (7, 225), (7, 226), (1, 10)] rfl, mvs_k_X16_addHead⟩) (by decide +kernel)
set_option maxRecDepth 100000 in
theorem gw_wsV_RL_146_RX16_yX16_addAtom_vs_k_X16_addAtom : GoodIn lw_tbl (wsV RL 146 RX16 yX16_addAtom vs_k_X16_addAtom) := goodIn_sub (List.forall_mem_append.mpr ⟨lw_mem _ [(8, 36), (8, 37), (8, 38), (1, 10)] rfl, mvs_k_X16_addAtom⟩) (by decide +kernel)
set_option maxRecDepth 100000 in
theorem gw_wsV_RL_150_RX16_yX16_addTest_vs_k_X16_addTest : GoodIn lw_tbl (wsV RL 150 RX16 yX16_addTest vs_k_X16_addTest) := goodIn_sub (List.forall_mem_append.mpr ⟨lw_mem _ [(8, 55), (8, 56), (8, 57), (1, 10)] rfl, mvs_k_X16_addTest⟩) (by decide +kernel)
set_option maxRecDepth 100000 in
theorem gw_wsV_RL_153_RX16_yX16_addCount_vs_k_X16_addCount : GoodIn lw_tbl (wsV RL 153 RX16 yX16_addCount vs_k_X16_addCount) := goodIn_sub (List.forall_mem_append.mpr ⟨lw_mem _ [(8, 59), (8, 60), (8, 61), (1, 10)] rfl, mvs_k_X16_addCount⟩) (by decide +kernel)
set_option maxRecDepth 100000 in
theorem gw_wsV_RL_157_RX16_yX16_ground_vs_k_X16_ground : GoodIn lw_tbl (wsV RL 157 RX16 yX16_ground vs_k_X16_ground) := goodIn_sub (List.forall_mem_append.mpr ⟨lw_mem _ [(8, 63), (8, 64), (8, 65), (1, 10)] rfl, mvs_k_X16_ground⟩) (by decide +kernel)
set_option maxRecDepth 100000 in
theorem gw_wsV_RL_160_RX16_yX16_addExternal_vs_k_X16_addExternal : GoodIn lw_tbl (wsV RL 160 RX16 yX16_addExternal vs_k_X16_addExternal) := goodIn_sub (List.forall_mem_append.mpr ⟨lw_mem _ [(8, 125), (8, 126), (8, 127), (1, 10)] rfl, mvs_k_X16_addExternal⟩) (by decide +kernel)
set_option maxRecDepth 100000 in
theorem gw_wsV_RL_164_RX16_yX16_setExternal_vs_k_X16_setExternal : GoodIn lw_tbl (wsV RL 164 RX16 yX16_setExternal vs_k_X16_setExternal) := goodIn_sub (List.forall_mem_append.mpr ⟨lw_mem _ [(8, 141), (8, 142), (8, 143), (1, 10)] rfl, mvs_k_X16_setExternal⟩) (by decide +kernel)
set_option maxRecDepth 100000 in
theorem gw_wsV_RL_168_RX16_yX16_assume_vs_k_X16_assume : GoodIn lw_tbl (wsV RL 168 RX16 yX16_assume vs_k_X16_assume) := goodIn_sub (List.forall_mem_append.mpr ⟨lw_mem _ [(8, 145), (8, 146), (8, 147), (1, 10)] rfl, mvs_k_X16_assume⟩) (by decide +kernel)
set_option maxRecDepth 100000 in
theorem gw_wsV_RL_169_RX10_yX10_dropAssumptions_vs_k_X10_dropAssumptions : GoodIn lw_tbl (wsV RL 169 RX10 yX10_dropAssumptions vs_k_X10_dropAssumptions) := goodIn_sub (List.forall_mem_append.mpr ⟨lw_mem _ [(2, 114), (2, 115), (2, 116), (1, 1)] rfl, mvs_k_X10_dropAssumptions⟩) (by decide +kernel)
set_option maxRecDepth 100000 in
theorem gw_wsV_RL_172_RX16_yX16_dropAssumptions_vs_k_X16_dropAssumptions : GoodIn lw_tbl (wsV RL 172 RX16 yX16_dropAssumptions vs_k_X16_dropAssumptions) := goodIn_sub (List.forall_mem_append.mpr ⟨lw_mem _ [(8, 153), (8, 154), (8, 155), (1, 10)] rfl, mvs_k_X16_dropAssumptions⟩) (by decide +kernel)
set_option maxRecDepth 100000 in
theorem gw_wsV_RL_175_RX16_yX16_state_vs_k_X16_state : GoodIn lw_tbl (wsV RL 175 RX16 yX16_state vs_k_X16_state) := goodIn_sub (List.forall_mem_append.mpr ⟨lw_mem _ [(8, 157), (8, 158), (8, 159), (1, 10)] rfl, mvs_k_X16_state⟩) (by decide +kernel)
set_option maxRecDepth 100000 in
theorem gw_wsV_RL_176_RX10_yX10_open_vs_k_X10_open : GoodIn lw_tbl (wsV RL 176 RX10 yX10_open vs_k_X10_open) := goodIn_sub (List.forall_mem_append.mpr ⟨lw_mem _ [(2, 136), (2, 137), (2, 138), (1, 1)] rfl, mvs_k_X10_open⟩) (by decide +kernel)
set_option maxRecDepth 100000 in
theorem gw_wsV_RL_179_RX16_yX16_open_vs_k_X16_open : GoodIn lw_tbl (wsV RL 179 RX16 yX16_open vs_k_X16_open) := goodIn_sub (List.forall_mem_append.mpr ⟨lw_mem _ [(9, 20), (9, 21), (9, 22), (1, 10)] rfl, mvs_k_X16_open⟩) (by decide +kernel)
set_option maxRecDepth 100000 in
theorem gw_wsV_RL_182_RX16_yX16_instances_vs_k_X16_instances : GoodIn lw_tbl (wsV RL 182 RX16 yX16_instances vs_k_X16_instances) := goodIn_sub (List.forall_mem_append.mpr ⟨lw_mem _ [(9, 24), (9, 25), (9, 26), (1, 10)] rfl, mvs_k_X16_instances⟩) (by decide +kernel)
set_option maxRecDepth 100000 in
theorem gw_wsV_RL_186_RX16_yX16_loops_vs_k_X16_loops : GoodIn lw_tbl (wsV RL 186 RX16 yX16_loops vs_k_X16_loops) := goodIn_sub (List.forall_mem_append.mpr ⟨lw_mem _ [(9, 28), (9, 29), (9, 30), (1, 10)] rfl, mvs_k_X16_loops⟩) (by decide +kernel)
set_option maxRecDepth 100000 in
theorem gw_wsV_RL_189_RX16_yX16_walk_vs_k_X16_walk : GoodIn lw_tbl (wsV RL 189 RX16 yX16_walk vs_k_X16_walk) := goodIn_sub (List.forall_mem_append.mpr ⟨lw_mem _ [(9, 36), (9, 37), (9, 38), (1, 10)] rfl, mvs_k_X16_walk⟩) (by decide +kernel)
set_option maxRecDepth 100000 in
theorem gw_wsV_RL_192_RX16_yX16_walkByAll_vs_k_X16_walkByAll : GoodIn lw_tbl (wsV RL 192 RX16 yX16_walkByAll vs_k_X16_walkByAll) := goodIn_sub (List.forall_mem_append.mpr ⟨lw_mem _ [(10, 114), (10, 115), (10, 116), (1, 10)] rfl, mvs_k_X16_walkByAll⟩) (by decide +kernel)
set_option maxRecDepth 100000 in
theorem gw_wsV_RL_195_RX16_yX16_has__vs_k_X16_has_ : GoodIn lw_tbl (wsV RL 195 RX16 yX16_has_ vs_k_X16_has_) := goodIn_sub (List.forall_mem_append.mpr ⟨lw_mem _ [(10, 118), (10, 119), (10, 120), (1, 10)] rfl, mvs_k_X16_has_⟩) (by decide +kernel)
set_option maxRecDepth 100000 in
theorem gw_wsV_RL_198_RX16_yX16_size_vs_k_X16_size : GoodIn lw_tbl (wsV RL 198 RX16 yX16_size vs_k_X16_size) := goodIn_sub (List.forall_mem_append.mpr ⟨lw_mem _ [(10, 130), (10, 131), (10, 132), (1, 10)] rfl, mvs_k_X16_size⟩) (by decide +kernel)
set_option maxRecDepth 100000 in
theorem gw_wsV_RL_201_RX16_yX16_cost_vs_k_X16_cost : GoodIn lw_tbl (wsV RL 201 RX16 yX16_cost vs_k_X16_cost) := goodIn_sub (List.forall_mem_append.mpr ⟨lw_mem _ [(10, 138), (10, 139), (10, 140), (1, 10)] rfl, mvs_k_X16_cost⟩) (by decide +kernel)
set_option maxRecDepth 100000 in
theorem gw_wsV_RL_204_RX16_yX16_best_vs_k_X16_best : GoodIn lw_tbl (wsV RL 204 RX16 yX16_best vs_k_X16_best) := goodIn_sub (List.forall_mem_append.mpr ⟨lw_mem _ [(10, 142), (10, 143), (10, 144), (1, 10)] rfl, mvs_k_X16_best⟩) (by decide +kernel)
set_option maxRecDepth 100000 in
theorem gw_wsV_RL_207_RX16_yX16_projected_vs_k_X16_projected : GoodIn lw_tbl (wsV RL 207 RX16 yX16_projected vs_k_X16_projected) := goodIn_sub (List.forall_mem_append.mpr ⟨lw_mem _ [(10, 146), (10, 147), (10, 148), (1, 10)] rfl, mvs_k_X16_projected⟩) (by decide +kernel)
set_option maxRecDepth 100000 in
theorem gw_wsV_RL_210_RX16_yX16_holds__vs_k_X16_holds_ : GoodIn lw_tbl (wsV RL 210 RX16 yX16_holds_ vs_k_X16_holds_) := goodIn_sub (List.forall_mem_append.mpr ⟨lw_mem _ [(10, 150), (10, 151), (10, 152), (1, 10)] rfl, mvs_k_X16_holds_⟩) (by decide +kernel)
set_option maxRecDepth 100000 in
theorem gw_wsV_RL_213_RX16_yX16_reason_vs_k_X16_reason : GoodIn lw_tbl (wsV RL 213 RX16 yX16_reason vs_k_X16_reason) := goodIn_sub (List.forall_mem_append.mpr ⟨lw_mem _ [(10, 158), (10, 159), (10, 160), (1, 10)] rfl, mvs_k_X16_reason⟩) (by decide +kernel)
set_option maxRecDepth 100000 in
theorem gw_wsV_RL_217_RX16_yX16_share_vs_k_X16_share : GoodIn lw_tbl (wsV RL 217 RX16 yX16_share vs_k_X16_share) := goodIn_sub (List.forall_mem_append.mpr ⟨lw_mem _ [(10, 166), (10, 167), (10, 168), (1, 10)] rfl, mvs_k_X16_share⟩) (by decide +kernel)
set_option maxRecDepth 100000 in
theorem gw_wsV_RL_220_RX16_yX16_commonest_vs_k_X16_commonest : GoodIn lw_tbl (wsV RL 220 RX16 yX16_commonest vs_k_X16_commonest) := goodIn_sub (List.forall_mem_append.mpr ⟨lw_mem _ [(10, 174), (10, 175), (10, 176), (1, 10)] rfl, mvs_k_X16_commonest⟩) (by decide +kernel)
set_option maxRecDepth 100000 in
theorem gw_wsV_RL_224_RX16_yX16_meanSize_vs_k_X16_meanSize : GoodIn lw_tbl (wsV RL 224 RX16 yX16_meanSize vs_k_X16_meanSize) := goodIn_sub (List.forall_mem_append.mpr ⟨lw_mem _ [(10, 178), (10, 179), (10, 180), (1, 10)] rfl, mvs_k_X16_meanSize⟩) (by decide +kernel)
set_option maxRecDepth 100000 in
theorem hw__arrayClass_double : (.arrayClass .double : Cond) ∈ lw_tbl := lw_one _ 10 182 rfl
set_option maxRecDepth 100000 in
theorem hw__arrayClass_long : (.arrayClass .long : Cond) ∈ lw_tbl := lw_one _ 1 143 rfl
set_option maxRecDepth 100000 in
theorem hw__classLink_RL_117_RX16 : (.classLink RL 117 RX16 : Cond) ∈ lw_tbl := lw_one _ 6 193 rfl
set_option maxRecDepth 100000 in
theorem hw__classLink_RL_8_RX10 : (.classLink RL 8 RX10 : Cond) ∈ lw_tbl := lw_one _ 1 47 rfl
set_option maxRecDepth 100000 in
theorem hw__initialized_RL : (.initialized RL : Cond) ∈ lw_tbl := lw_one _ 1 0 rfl
set_option maxRecDepth 100000 in
theorem hw__initialized_RX10 : (.initialized RX10 : Cond) ∈ lw_tbl := lw_one _ 1 1 rfl
set_option maxRecDepth 100000 in
theorem hw__initialized_RX16 : (.initialized RX16 : Cond) ∈ lw_tbl := lw_one _ 1 10 rfl
set_option maxRecDepth 100000 in
theorem hw__instanceMethod_yX10_dropAssumptions : (.instanceMethod yX10_dropAssumptions : Cond) ∈ lw_tbl := lw_one _ 2 115 rfl
set_option maxRecDepth 100000 in
theorem hw__instanceMethod_yX10_init : (.instanceMethod yX10_init : Cond) ∈ lw_tbl := lw_one _ 1 50 rfl
set_option maxRecDepth 100000 in
theorem hw__instanceMethod_yX10_open : (.instanceMethod yX10_open : Cond) ∈ lw_tbl := lw_one _ 2 137 rfl
set_option maxRecDepth 100000 in
theorem hw__instanceMethod_yX16_addAtom : (.instanceMethod yX16_addAtom : Cond) ∈ lw_tbl := lw_one _ 8 37 rfl
set_option maxRecDepth 100000 in
theorem hw__instanceMethod_yX16_addChoice : (.instanceMethod yX16_addChoice : Cond) ∈ lw_tbl := lw_one _ 7 213 rfl
set_option maxRecDepth 100000 in
theorem hw__instanceMethod_yX16_addCount : (.instanceMethod yX16_addCount : Cond) ∈ lw_tbl := lw_one _ 8 60 rfl
set_option maxRecDepth 100000 in
theorem hw__instanceMethod_yX16_addDisjunction : (.instanceMethod yX16_addDisjunction : Cond) ∈ lw_tbl := lw_one _ 7 89 rfl
set_option maxRecDepth 100000 in
theorem hw__instanceMethod_yX16_addExternal : (.instanceMethod yX16_addExternal : Cond) ∈ lw_tbl := lw_one _ 8 126 rfl
set_option maxRecDepth 100000 in
theorem hw__instanceMethod_yX16_addHead : (.instanceMethod yX16_addHead : Cond) ∈ lw_tbl := lw_one _ 7 225 rfl
set_option maxRecDepth 100000 in
theorem hw__instanceMethod_yX16_addPredicate : (.instanceMethod yX16_addPredicate : Cond) ∈ lw_tbl := lw_one _ 7 74 rfl
set_option maxRecDepth 100000 in
theorem hw__instanceMethod_yX16_addTest : (.instanceMethod yX16_addTest : Cond) ∈ lw_tbl := lw_one _ 8 56 rfl
set_option maxRecDepth 100000 in
theorem hw__instanceMethod_yX16_addWeak : (.instanceMethod yX16_addWeak : Cond) ∈ lw_tbl := lw_one _ 7 221 rfl
set_option maxRecDepth 100000 in
theorem hw__instanceMethod_yX16_assume : (.instanceMethod yX16_assume : Cond) ∈ lw_tbl := lw_one _ 8 146 rfl
set_option maxRecDepth 100000 in
theorem hw__instanceMethod_yX16_best : (.instanceMethod yX16_best : Cond) ∈ lw_tbl := lw_one _ 10 143 rfl
set_option maxRecDepth 100000 in
theorem hw__instanceMethod_yX16_commonest : (.instanceMethod yX16_commonest : Cond) ∈ lw_tbl := lw_one _ 10 175 rfl
set_option maxRecDepth 100000 in
theorem hw__instanceMethod_yX16_cost : (.instanceMethod yX16_cost : Cond) ∈ lw_tbl := lw_one _ 10 139 rfl
set_option maxRecDepth 100000 in
theorem hw__instanceMethod_yX16_dropAssumptions : (.instanceMethod yX16_dropAssumptions : Cond) ∈ lw_tbl := lw_one _ 8 154 rfl
set_option maxRecDepth 100000 in
theorem hw__instanceMethod_yX16_ground : (.instanceMethod yX16_ground : Cond) ∈ lw_tbl := lw_one _ 8 64 rfl
set_option maxRecDepth 100000 in
theorem hw__instanceMethod_yX16_has_ : (.instanceMethod yX16_has_ : Cond) ∈ lw_tbl := lw_one _ 10 119 rfl
set_option maxRecDepth 100000 in
theorem hw__instanceMethod_yX16_holds_ : (.instanceMethod yX16_holds_ : Cond) ∈ lw_tbl := lw_one _ 10 151 rfl
set_option maxRecDepth 100000 in
theorem hw__instanceMethod_yX16_init : (.instanceMethod yX16_init : Cond) ∈ lw_tbl := lw_one _ 6 196 rfl
set_option maxRecDepth 100000 in
theorem hw__instanceMethod_yX16_instances : (.instanceMethod yX16_instances : Cond) ∈ lw_tbl := lw_one _ 9 25 rfl
set_option maxRecDepth 100000 in
theorem hw__instanceMethod_yX16_loops : (.instanceMethod yX16_loops : Cond) ∈ lw_tbl := lw_one _ 9 29 rfl
set_option maxRecDepth 100000 in
theorem hw__instanceMethod_yX16_meanSize : (.instanceMethod yX16_meanSize : Cond) ∈ lw_tbl := lw_one _ 10 179 rfl
set_option maxRecDepth 100000 in
theorem hw__instanceMethod_yX16_open : (.instanceMethod yX16_open : Cond) ∈ lw_tbl := lw_one _ 9 21 rfl
set_option maxRecDepth 100000 in
theorem hw__instanceMethod_yX16_projected : (.instanceMethod yX16_projected : Cond) ∈ lw_tbl := lw_one _ 10 147 rfl
set_option maxRecDepth 100000 in
theorem hw__instanceMethod_yX16_reason : (.instanceMethod yX16_reason : Cond) ∈ lw_tbl := lw_one _ 10 159 rfl
set_option maxRecDepth 100000 in
theorem hw__instanceMethod_yX16_setExternal : (.instanceMethod yX16_setExternal : Cond) ∈ lw_tbl := lw_one _ 8 142 rfl
set_option maxRecDepth 100000 in
theorem hw__instanceMethod_yX16_share : (.instanceMethod yX16_share : Cond) ∈ lw_tbl := lw_one _ 10 167 rfl
set_option maxRecDepth 100000 in
theorem hw__instanceMethod_yX16_size : (.instanceMethod yX16_size : Cond) ∈ lw_tbl := lw_one _ 10 131 rfl
set_option maxRecDepth 100000 in
theorem hw__instanceMethod_yX16_state : (.instanceMethod yX16_state : Cond) ∈ lw_tbl := lw_one _ 8 158 rfl
set_option maxRecDepth 100000 in
theorem hw__instanceMethod_yX16_thrown : (.instanceMethod yX16_thrown : Cond) ∈ lw_tbl := lw_one _ 7 70 rfl
set_option maxRecDepth 100000 in
theorem hw__instanceMethod_yX16_walk : (.instanceMethod yX16_walk : Cond) ∈ lw_tbl := lw_one _ 9 37 rfl
set_option maxRecDepth 100000 in
theorem hw__instanceMethod_yX16_walkByAll : (.instanceMethod yX16_walkByAll : Cond) ∈ lw_tbl := lw_one _ 10 115 rfl
set_option maxRecDepth 100000 in
theorem hw__instantiable_RX10_7 : (.instantiable RX10 7 : Cond) ∈ lw_tbl := lw_one _ 1 48 rfl
set_option maxRecDepth 100000 in
theorem hw__instantiable_RX16_26 : (.instantiable RX16 26 : Cond) ∈ lw_tbl := lw_one _ 6 194 rfl
set_option maxRecDepth 100000 in
theorem hw__methodLink_RL_116_yX10_init : (.methodLink RL 116 yX10_init : Cond) ∈ lw_tbl := lw_one _ 1 49 rfl
set_option maxRecDepth 100000 in
theorem hw__methodLink_RL_119_yX16_init : (.methodLink RL 119 yX16_init : Cond) ∈ lw_tbl := lw_one _ 6 195 rfl
set_option maxRecDepth 100000 in
theorem hw__methodLink_RL_120_yL_addPredicate : (.methodLink RL 120 yL_addPredicate : Cond) ∈ lw_tbl := lw_one _ 3 32 rfl
set_option maxRecDepth 100000 in
theorem hw__methodLink_RL_125_yX16_addPredicate : (.methodLink RL 125 yX16_addPredicate : Cond) ∈ lw_tbl := lw_one _ 7 73 rfl
set_option maxRecDepth 100000 in
theorem hw__methodLink_RL_126_yX16_thrown : (.methodLink RL 126 yX16_thrown : Cond) ∈ lw_tbl := lw_one _ 7 69 rfl
set_option maxRecDepth 100000 in
theorem hw__methodLink_RL_129_yL_addDisjunction : (.methodLink RL 129 yL_addDisjunction : Cond) ∈ lw_tbl := lw_one _ 3 137 rfl
set_option maxRecDepth 100000 in
theorem hw__methodLink_RL_131_yX16_addDisjunction : (.methodLink RL 131 yX16_addDisjunction : Cond) ∈ lw_tbl := lw_one _ 7 88 rfl
set_option maxRecDepth 100000 in
theorem hw__methodLink_RL_132_yL_addChoice : (.methodLink RL 132 yL_addChoice : Cond) ∈ lw_tbl := lw_one _ 3 216 rfl
set_option maxRecDepth 100000 in
theorem hw__methodLink_RL_135_yX16_addChoice : (.methodLink RL 135 yX16_addChoice : Cond) ∈ lw_tbl := lw_one _ 7 212 rfl
set_option maxRecDepth 100000 in
theorem hw__methodLink_RL_136_yL_addWeak : (.methodLink RL 136 yL_addWeak : Cond) ∈ lw_tbl := lw_one _ 3 233 rfl
set_option maxRecDepth 100000 in
theorem hw__methodLink_RL_139_yX16_addWeak : (.methodLink RL 139 yX16_addWeak : Cond) ∈ lw_tbl := lw_one _ 7 220 rfl
set_option maxRecDepth 100000 in
theorem hw__methodLink_RL_140_yL_addHead : (.methodLink RL 140 yL_addHead : Cond) ∈ lw_tbl := lw_one _ 4 6 rfl
set_option maxRecDepth 100000 in
theorem hw__methodLink_RL_142_yX16_addHead : (.methodLink RL 142 yX16_addHead : Cond) ∈ lw_tbl := lw_one _ 7 224 rfl
set_option maxRecDepth 100000 in
theorem hw__methodLink_RL_143_yL_addAtom : (.methodLink RL 143 yL_addAtom : Cond) ∈ lw_tbl := lw_one _ 4 121 rfl
set_option maxRecDepth 100000 in
theorem hw__methodLink_RL_146_yX16_addAtom : (.methodLink RL 146 yX16_addAtom : Cond) ∈ lw_tbl := lw_one _ 8 36 rfl
set_option maxRecDepth 100000 in
theorem hw__methodLink_RL_147_yL_addTest : (.methodLink RL 147 yL_addTest : Cond) ∈ lw_tbl := lw_one _ 4 142 rfl
set_option maxRecDepth 100000 in
theorem hw__methodLink_RL_150_yX16_addTest : (.methodLink RL 150 yX16_addTest : Cond) ∈ lw_tbl := lw_one _ 8 55 rfl
set_option maxRecDepth 100000 in
theorem hw__methodLink_RL_151_yL_addCount : (.methodLink RL 151 yL_addCount : Cond) ∈ lw_tbl := lw_one _ 4 151 rfl
set_option maxRecDepth 100000 in
theorem hw__methodLink_RL_153_yX16_addCount : (.methodLink RL 153 yX16_addCount : Cond) ∈ lw_tbl := lw_one _ 8 59 rfl
set_option maxRecDepth 100000 in
theorem hw__methodLink_RL_154_yL_ground : (.methodLink RL 154 yL_ground : Cond) ∈ lw_tbl := lw_one _ 4 160 rfl
set_option maxRecDepth 100000 in
theorem hw__methodLink_RL_157_yX16_ground : (.methodLink RL 157 yX16_ground : Cond) ∈ lw_tbl := lw_one _ 8 63 rfl
set_option maxRecDepth 100000 in
theorem hw__methodLink_RL_158_yL_addExternal : (.methodLink RL 158 yL_addExternal : Cond) ∈ lw_tbl := lw_one _ 4 182 rfl
set_option maxRecDepth 100000 in
theorem hw__methodLink_RL_160_yX16_addExternal : (.methodLink RL 160 yX16_addExternal : Cond) ∈ lw_tbl := lw_one _ 8 125 rfl
set_option maxRecDepth 100000 in
theorem hw__methodLink_RL_161_yL_setExternal : (.methodLink RL 161 yL_setExternal : Cond) ∈ lw_tbl := lw_one _ 4 205 rfl
set_option maxRecDepth 100000 in
theorem hw__methodLink_RL_164_yX16_setExternal : (.methodLink RL 164 yX16_setExternal : Cond) ∈ lw_tbl := lw_one _ 8 141 rfl
set_option maxRecDepth 100000 in
theorem hw__methodLink_RL_165_yL_assume : (.methodLink RL 165 yL_assume : Cond) ∈ lw_tbl := lw_one _ 4 220 rfl
set_option maxRecDepth 100000 in
theorem hw__methodLink_RL_168_yX16_assume : (.methodLink RL 168 yX16_assume : Cond) ∈ lw_tbl := lw_one _ 8 145 rfl
set_option maxRecDepth 100000 in
theorem hw__methodLink_RL_169_yX10_dropAssumptions : (.methodLink RL 169 yX10_dropAssumptions : Cond) ∈ lw_tbl := lw_one _ 2 114 rfl
set_option maxRecDepth 100000 in
theorem hw__methodLink_RL_172_yX16_dropAssumptions : (.methodLink RL 172 yX16_dropAssumptions : Cond) ∈ lw_tbl := lw_one _ 8 153 rfl
set_option maxRecDepth 100000 in
theorem hw__methodLink_RL_173_yL_state : (.methodLink RL 173 yL_state : Cond) ∈ lw_tbl := lw_one _ 4 233 rfl
set_option maxRecDepth 100000 in
theorem hw__methodLink_RL_175_yX16_state : (.methodLink RL 175 yX16_state : Cond) ∈ lw_tbl := lw_one _ 8 157 rfl
set_option maxRecDepth 100000 in
theorem hw__methodLink_RL_176_yX10_open : (.methodLink RL 176 yX10_open : Cond) ∈ lw_tbl := lw_one _ 2 136 rfl
set_option maxRecDepth 100000 in
theorem hw__methodLink_RL_179_yX16_open : (.methodLink RL 179 yX16_open : Cond) ∈ lw_tbl := lw_one _ 9 20 rfl
set_option maxRecDepth 100000 in
theorem hw__methodLink_RL_180_yL_instances : (.methodLink RL 180 yL_instances : Cond) ∈ lw_tbl := lw_one _ 5 1 rfl
set_option maxRecDepth 100000 in
theorem hw__methodLink_RL_182_yX16_instances : (.methodLink RL 182 yX16_instances : Cond) ∈ lw_tbl := lw_one _ 9 24 rfl
set_option maxRecDepth 100000 in
theorem hw__methodLink_RL_183_yL_loops : (.methodLink RL 183 yL_loops : Cond) ∈ lw_tbl := lw_one _ 5 12 rfl
set_option maxRecDepth 100000 in
theorem hw__methodLink_RL_186_yX16_loops : (.methodLink RL 186 yX16_loops : Cond) ∈ lw_tbl := lw_one _ 9 28 rfl
set_option maxRecDepth 100000 in
theorem hw__methodLink_RL_187_yL_walk : (.methodLink RL 187 yL_walk : Cond) ∈ lw_tbl := lw_one _ 5 81 rfl
set_option maxRecDepth 100000 in
theorem hw__methodLink_RL_189_yX16_walk : (.methodLink RL 189 yX16_walk : Cond) ∈ lw_tbl := lw_one _ 9 36 rfl
set_option maxRecDepth 100000 in
theorem hw__methodLink_RL_190_yL_walkByAll : (.methodLink RL 190 yL_walkByAll : Cond) ∈ lw_tbl := lw_one _ 6 7 rfl
set_option maxRecDepth 100000 in
theorem hw__methodLink_RL_192_yX16_walkByAll : (.methodLink RL 192 yX16_walkByAll : Cond) ∈ lw_tbl := lw_one _ 10 114 rfl
set_option maxRecDepth 100000 in
theorem hw__methodLink_RL_193_yL_has : (.methodLink RL 193 yL_has : Cond) ∈ lw_tbl := lw_one _ 6 27 rfl
set_option maxRecDepth 100000 in
theorem hw__methodLink_RL_195_yX16_has_ : (.methodLink RL 195 yX16_has_ : Cond) ∈ lw_tbl := lw_one _ 10 118 rfl
set_option maxRecDepth 100000 in
theorem hw__methodLink_RL_196_yL_size : (.methodLink RL 196 yL_size : Cond) ∈ lw_tbl := lw_one _ 6 52 rfl
set_option maxRecDepth 100000 in
theorem hw__methodLink_RL_198_yX16_size : (.methodLink RL 198 yX16_size : Cond) ∈ lw_tbl := lw_one _ 10 130 rfl
set_option maxRecDepth 100000 in
theorem hw__methodLink_RL_199_yL_cost : (.methodLink RL 199 yL_cost : Cond) ∈ lw_tbl := lw_one _ 6 64 rfl
set_option maxRecDepth 100000 in
theorem hw__methodLink_RL_201_yX16_cost : (.methodLink RL 201 yX16_cost : Cond) ∈ lw_tbl := lw_one _ 10 138 rfl
set_option maxRecDepth 100000 in
theorem hw__methodLink_RL_202_yL_best : (.methodLink RL 202 yL_best : Cond) ∈ lw_tbl := lw_one _ 6 72 rfl
set_option maxRecDepth 100000 in
theorem hw__methodLink_RL_204_yX16_best : (.methodLink RL 204 yX16_best : Cond) ∈ lw_tbl := lw_one _ 10 142 rfl
set_option maxRecDepth 100000 in
theorem hw__methodLink_RL_205_yL_projected : (.methodLink RL 205 yL_projected : Cond) ∈ lw_tbl := lw_one _ 6 83 rfl
set_option maxRecDepth 100000 in
theorem hw__methodLink_RL_207_yX16_projected : (.methodLink RL 207 yX16_projected : Cond) ∈ lw_tbl := lw_one _ 10 146 rfl
set_option maxRecDepth 100000 in
theorem hw__methodLink_RL_208_yL_holds : (.methodLink RL 208 yL_holds : Cond) ∈ lw_tbl := lw_one _ 6 99 rfl
set_option maxRecDepth 100000 in
theorem hw__methodLink_RL_210_yX16_holds_ : (.methodLink RL 210 yX16_holds_ : Cond) ∈ lw_tbl := lw_one _ 10 150 rfl
set_option maxRecDepth 100000 in
theorem hw__methodLink_RL_211_yL_reason : (.methodLink RL 211 yL_reason : Cond) ∈ lw_tbl := lw_one _ 6 110 rfl
set_option maxRecDepth 100000 in
theorem hw__methodLink_RL_213_yX16_reason : (.methodLink RL 213 yX16_reason : Cond) ∈ lw_tbl := lw_one _ 10 158 rfl
set_option maxRecDepth 100000 in
theorem hw__methodLink_RL_214_yL_share : (.methodLink RL 214 yL_share : Cond) ∈ lw_tbl := lw_one _ 6 153 rfl
set_option maxRecDepth 100000 in
theorem hw__methodLink_RL_217_yX16_share : (.methodLink RL 217 yX16_share : Cond) ∈ lw_tbl := lw_one _ 10 166 rfl
set_option maxRecDepth 100000 in
theorem hw__methodLink_RL_218_yL_commonest : (.methodLink RL 218 yL_commonest : Cond) ∈ lw_tbl := lw_one _ 6 177 rfl
set_option maxRecDepth 100000 in
theorem hw__methodLink_RL_220_yX16_commonest : (.methodLink RL 220 yX16_commonest : Cond) ∈ lw_tbl := lw_one _ 10 174 rfl
set_option maxRecDepth 100000 in
theorem hw__methodLink_RL_221_yL_meanSize : (.methodLink RL 221 yL_meanSize : Cond) ∈ lw_tbl := lw_one _ 6 186 rfl
set_option maxRecDepth 100000 in
theorem hw__methodLink_RL_224_yX16_meanSize : (.methodLink RL 224 yX16_meanSize : Cond) ∈ lw_tbl := lw_one _ 10 178 rfl
set_option maxRecDepth 100000 in
theorem hw__selects_RX10_yX10_dropAssumptions_yX10_dropAssumptions : (.selects RX10 yX10_dropAssumptions yX10_dropAssumptions : Cond) ∈ lw_tbl := lw_one _ 2 116 rfl
set_option maxRecDepth 100000 in
theorem hw__selects_RX10_yX10_open_yX10_open : (.selects RX10 yX10_open yX10_open : Cond) ∈ lw_tbl := lw_one _ 2 138 rfl
set_option maxRecDepth 100000 in
theorem hw__selects_RX16_yX16_addAtom_yX16_addAtom : (.selects RX16 yX16_addAtom yX16_addAtom : Cond) ∈ lw_tbl := lw_one _ 8 38 rfl
set_option maxRecDepth 100000 in
theorem hw__selects_RX16_yX16_addChoice_yX16_addChoice : (.selects RX16 yX16_addChoice yX16_addChoice : Cond) ∈ lw_tbl := lw_one _ 7 214 rfl
set_option maxRecDepth 100000 in
theorem hw__selects_RX16_yX16_addCount_yX16_addCount : (.selects RX16 yX16_addCount yX16_addCount : Cond) ∈ lw_tbl := lw_one _ 8 61 rfl
set_option maxRecDepth 100000 in
theorem hw__selects_RX16_yX16_addDisjunction_yX16_addDisjunction : (.selects RX16 yX16_addDisjunction yX16_addDisjunction : Cond) ∈ lw_tbl := lw_one _ 7 90 rfl
set_option maxRecDepth 100000 in
theorem hw__selects_RX16_yX16_addExternal_yX16_addExternal : (.selects RX16 yX16_addExternal yX16_addExternal : Cond) ∈ lw_tbl := lw_one _ 8 127 rfl
set_option maxRecDepth 100000 in
theorem hw__selects_RX16_yX16_addHead_yX16_addHead : (.selects RX16 yX16_addHead yX16_addHead : Cond) ∈ lw_tbl := lw_one _ 7 226 rfl
set_option maxRecDepth 100000 in
theorem hw__selects_RX16_yX16_addPredicate_yX16_addPredicate : (.selects RX16 yX16_addPredicate yX16_addPredicate : Cond) ∈ lw_tbl := lw_one _ 7 75 rfl
set_option maxRecDepth 100000 in
theorem hw__selects_RX16_yX16_addTest_yX16_addTest : (.selects RX16 yX16_addTest yX16_addTest : Cond) ∈ lw_tbl := lw_one _ 8 57 rfl
set_option maxRecDepth 100000 in
theorem hw__selects_RX16_yX16_addWeak_yX16_addWeak : (.selects RX16 yX16_addWeak yX16_addWeak : Cond) ∈ lw_tbl := lw_one _ 7 222 rfl
set_option maxRecDepth 100000 in
theorem hw__selects_RX16_yX16_assume_yX16_assume : (.selects RX16 yX16_assume yX16_assume : Cond) ∈ lw_tbl := lw_one _ 8 147 rfl
set_option maxRecDepth 100000 in
theorem hw__selects_RX16_yX16_best_yX16_best : (.selects RX16 yX16_best yX16_best : Cond) ∈ lw_tbl := lw_one _ 10 144 rfl
set_option maxRecDepth 100000 in
theorem hw__selects_RX16_yX16_commonest_yX16_commonest : (.selects RX16 yX16_commonest yX16_commonest : Cond) ∈ lw_tbl := lw_one _ 10 176 rfl
set_option maxRecDepth 100000 in
theorem hw__selects_RX16_yX16_cost_yX16_cost : (.selects RX16 yX16_cost yX16_cost : Cond) ∈ lw_tbl := lw_one _ 10 140 rfl
set_option maxRecDepth 100000 in
theorem hw__selects_RX16_yX16_dropAssumptions_yX16_dropAssumptions : (.selects RX16 yX16_dropAssumptions yX16_dropAssumptions : Cond) ∈ lw_tbl := lw_one _ 8 155 rfl
set_option maxRecDepth 100000 in
theorem hw__selects_RX16_yX16_ground_yX16_ground : (.selects RX16 yX16_ground yX16_ground : Cond) ∈ lw_tbl := lw_one _ 8 65 rfl
set_option maxRecDepth 100000 in
theorem hw__selects_RX16_yX16_has__yX16_has_ : (.selects RX16 yX16_has_ yX16_has_ : Cond) ∈ lw_tbl := lw_one _ 10 120 rfl
set_option maxRecDepth 100000 in
theorem hw__selects_RX16_yX16_holds__yX16_holds_ : (.selects RX16 yX16_holds_ yX16_holds_ : Cond) ∈ lw_tbl := lw_one _ 10 152 rfl
set_option maxRecDepth 100000 in
theorem hw__selects_RX16_yX16_instances_yX16_instances : (.selects RX16 yX16_instances yX16_instances : Cond) ∈ lw_tbl := lw_one _ 9 26 rfl
set_option maxRecDepth 100000 in
theorem hw__selects_RX16_yX16_loops_yX16_loops : (.selects RX16 yX16_loops yX16_loops : Cond) ∈ lw_tbl := lw_one _ 9 30 rfl
set_option maxRecDepth 100000 in
theorem hw__selects_RX16_yX16_meanSize_yX16_meanSize : (.selects RX16 yX16_meanSize yX16_meanSize : Cond) ∈ lw_tbl := lw_one _ 10 180 rfl
set_option maxRecDepth 100000 in
theorem hw__selects_RX16_yX16_open_yX16_open : (.selects RX16 yX16_open yX16_open : Cond) ∈ lw_tbl := lw_one _ 9 22 rfl
set_option maxRecDepth 100000 in
theorem hw__selects_RX16_yX16_projected_yX16_projected : (.selects RX16 yX16_projected yX16_projected : Cond) ∈ lw_tbl := lw_one _ 10 148 rfl
set_option maxRecDepth 100000 in
theorem hw__selects_RX16_yX16_reason_yX16_reason : (.selects RX16 yX16_reason yX16_reason : Cond) ∈ lw_tbl := lw_one _ 10 160 rfl
set_option maxRecDepth 100000 in
theorem hw__selects_RX16_yX16_setExternal_yX16_setExternal : (.selects RX16 yX16_setExternal yX16_setExternal : Cond) ∈ lw_tbl := lw_one _ 8 143 rfl
set_option maxRecDepth 100000 in
theorem hw__selects_RX16_yX16_share_yX16_share : (.selects RX16 yX16_share yX16_share : Cond) ∈ lw_tbl := lw_one _ 10 168 rfl
set_option maxRecDepth 100000 in
theorem hw__selects_RX16_yX16_size_yX16_size : (.selects RX16 yX16_size yX16_size : Cond) ∈ lw_tbl := lw_one _ 10 132 rfl
set_option maxRecDepth 100000 in
theorem hw__selects_RX16_yX16_state_yX16_state : (.selects RX16 yX16_state yX16_state : Cond) ∈ lw_tbl := lw_one _ 8 159 rfl
set_option maxRecDepth 100000 in
theorem hw__selects_RX16_yX16_thrown_yX16_thrown : (.selects RX16 yX16_thrown yX16_thrown : Cond) ∈ lw_tbl := lw_one _ 7 71 rfl
set_option maxRecDepth 100000 in
theorem hw__selects_RX16_yX16_walkByAll_yX16_walkByAll : (.selects RX16 yX16_walkByAll yX16_walkByAll : Cond) ∈ lw_tbl := lw_one _ 10 116 rfl
set_option maxRecDepth 100000 in
theorem hw__selects_RX16_yX16_walk_yX16_walk : (.selects RX16 yX16_walk yX16_walk : Cond) ∈ lw_tbl := lw_one _ 9 38 rfl
set_option maxRecDepth 100000 in
theorem hw__static_yL_addAtom : (.static yL_addAtom : Cond) ∈ lw_tbl := lw_one _ 4 122 rfl
set_option maxRecDepth 100000 in
theorem hw__static_yL_addChoice : (.static yL_addChoice : Cond) ∈ lw_tbl := lw_one _ 3 217 rfl
set_option maxRecDepth 100000 in
theorem hw__static_yL_addCount : (.static yL_addCount : Cond) ∈ lw_tbl := lw_one _ 4 152 rfl
set_option maxRecDepth 100000 in
theorem hw__static_yL_addDisjunction : (.static yL_addDisjunction : Cond) ∈ lw_tbl := lw_one _ 3 138 rfl
set_option maxRecDepth 100000 in
theorem hw__static_yL_addExternal : (.static yL_addExternal : Cond) ∈ lw_tbl := lw_one _ 4 183 rfl
set_option maxRecDepth 100000 in
theorem hw__static_yL_addHead : (.static yL_addHead : Cond) ∈ lw_tbl := lw_one _ 4 7 rfl
set_option maxRecDepth 100000 in
theorem hw__static_yL_addPredicate : (.static yL_addPredicate : Cond) ∈ lw_tbl := lw_one _ 3 33 rfl
set_option maxRecDepth 100000 in
theorem hw__static_yL_addTest : (.static yL_addTest : Cond) ∈ lw_tbl := lw_one _ 4 143 rfl
set_option maxRecDepth 100000 in
theorem hw__static_yL_addWeak : (.static yL_addWeak : Cond) ∈ lw_tbl := lw_one _ 3 234 rfl
set_option maxRecDepth 100000 in
theorem hw__static_yL_assume : (.static yL_assume : Cond) ∈ lw_tbl := lw_one _ 4 221 rfl
set_option maxRecDepth 100000 in
theorem hw__static_yL_best : (.static yL_best : Cond) ∈ lw_tbl := lw_one _ 6 73 rfl
set_option maxRecDepth 100000 in
theorem hw__static_yL_commonest : (.static yL_commonest : Cond) ∈ lw_tbl := lw_one _ 6 178 rfl
set_option maxRecDepth 100000 in
theorem hw__static_yL_cost : (.static yL_cost : Cond) ∈ lw_tbl := lw_one _ 6 65 rfl
set_option maxRecDepth 100000 in
theorem hw__static_yL_ground : (.static yL_ground : Cond) ∈ lw_tbl := lw_one _ 4 161 rfl
set_option maxRecDepth 100000 in
theorem hw__static_yL_has : (.static yL_has : Cond) ∈ lw_tbl := lw_one _ 6 28 rfl
set_option maxRecDepth 100000 in
theorem hw__static_yL_holds : (.static yL_holds : Cond) ∈ lw_tbl := lw_one _ 6 100 rfl
set_option maxRecDepth 100000 in
theorem hw__static_yL_instances : (.static yL_instances : Cond) ∈ lw_tbl := lw_one _ 5 2 rfl
set_option maxRecDepth 100000 in
theorem hw__static_yL_loops : (.static yL_loops : Cond) ∈ lw_tbl := lw_one _ 5 13 rfl
set_option maxRecDepth 100000 in
theorem hw__static_yL_meanSize : (.static yL_meanSize : Cond) ∈ lw_tbl := lw_one _ 6 187 rfl
set_option maxRecDepth 100000 in
theorem hw__static_yL_projected : (.static yL_projected : Cond) ∈ lw_tbl := lw_one _ 6 84 rfl
set_option maxRecDepth 100000 in
theorem hw__static_yL_reason : (.static yL_reason : Cond) ∈ lw_tbl := lw_one _ 6 111 rfl
set_option maxRecDepth 100000 in
theorem hw__static_yL_setExternal : (.static yL_setExternal : Cond) ∈ lw_tbl := lw_one _ 4 206 rfl
set_option maxRecDepth 100000 in
theorem hw__static_yL_share : (.static yL_share : Cond) ∈ lw_tbl := lw_one _ 6 154 rfl
set_option maxRecDepth 100000 in
theorem hw__static_yL_size : (.static yL_size : Cond) ∈ lw_tbl := lw_one _ 6 53 rfl
set_option maxRecDepth 100000 in
theorem hw__static_yL_state : (.static yL_state : Cond) ∈ lw_tbl := lw_one _ 4 234 rfl
set_option maxRecDepth 100000 in
theorem hw__static_yL_walk : (.static yL_walk : Cond) ∈ lw_tbl := lw_one _ 5 82 rfl
set_option maxRecDepth 100000 in
theorem hw__static_yL_walkByAll : (.static yL_walkByAll : Cond) ∈ lw_tbl := lw_one _ 6 8 rfl
